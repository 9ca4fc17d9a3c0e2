noncomputable def F_Mo_readRowsStatement (known_h0 : Int32) (thrown_h0 : Int32) (wrong_h0 : Int32) (lastEnd_h0 : Int32) (at_h0 : Int32) (bad_h0 : Int32) (levels_h0 : Int32) (least_h0 : Int32) (found_h0 : Int32) (size_m5 : Int32) (n_a_all_m5 : Nat) (b_a_all_m5 : Nat → Int32) (size_m20 : Int32) (n_a_all_m20 : Nat) (b_a_all_m20 : Nat → Int32) (n_m2 : Nat) (b_m2 : Nat → Int32) : Option ((Int32 × Int32 × Int32 × Int32 × Int32 × Int32 × Nat × (Nat → Int32)) × Nat × Nat) :=
  if levels_h0 = 60 then (some ((0, at_h0, at_h0, levels_h0, least_h0, size_m20, n_a_all_m20, b_a_all_m20), 0, 0))
  else (Option.bind (F_Mo_targetsEnd known_h0 thrown_h0 wrong_h0 lastEnd_h0 at_h0 bad_h0 levels_h0 least_h0 found_h0 size_m5 n_a_all_m5 b_a_all_m5) fun r2 =>
    if 0 ≤ r2 then (bw (F_Mo_readWorking known_h0 thrown_h0 wrong_h0 lastEnd_h0 at_h0 bad_h0 levels_h0 r2 found_h0 size_m20 size_m5 n_a_all_m5 b_a_all_m5 n_a_all_m20 b_a_all_m20 n_m2 b_m2) fun ⟨r5, r6, r7, r8, r9, r10, r11⟩ =>
      (some ((r5, r6, r7, r8, r2, r9, r10, r11), 0, 0)))
    else (bw (F_Mo_readTargets known_h0 thrown_h0 wrong_h0 lastEnd_h0 at_h0 bad_h0 levels_h0 least_h0 found_h0 size_m5 n_a_all_m5 b_a_all_m5 size_m20 n_a_all_m20 b_a_all_m20 n_m2 b_m2) fun ⟨r19, r20, r21, r22, r23, r24, r25⟩ =>
      (some ((r19, r20, r21, r22, least_h0, r23, r24, r25), 0, 0))))
theorem d_Mo_readRowsStatement_0 : decode prog_12_method_47_code 0 = .ok (.aload_n 0, 1) := by decide +kernel
theorem d_Mo_readRowsStatement_1 : decode prog_12_method_47_code 1 = .ok (.getfield 282, 3) := by decide +kernel
theorem d_Mo_readRowsStatement_4 : decode prog_12_method_47_code 4 = .ok (.bipush 60, 2) := by decide +kernel
theorem d_Mo_readRowsStatement_6 : decode prog_12_method_47_code 6 = .ok (.if_icmp .ne 8, 3) := by decide +kernel
theorem d_Mo_readRowsStatement_9 : decode prog_12_method_47_code 9 = .ok (.aload_n 0, 1) := by decide +kernel
theorem d_Mo_readRowsStatement_10 : decode prog_12_method_47_code 10 = .ok (.invokevirtual 278, 3) := by decide +kernel
theorem d_Mo_readRowsStatement_13 : decode prog_12_method_47_code 13 = .ok (.ireturn, 1) := by decide +kernel
theorem d_Mo_readRowsStatement_14 : decode prog_12_method_47_code 14 = .ok (.aload_n 0, 1) := by decide +kernel
theorem d_Mo_readRowsStatement_15 : decode prog_12_method_47_code 15 = .ok (.invokevirtual 353, 3) := by decide +kernel
theorem d_Mo_readRowsStatement_18 : decode prog_12_method_47_code 18 = .ok (.istore_n 1, 1) := by decide +kernel
theorem d_Mo_readRowsStatement_19 : decode prog_12_method_47_code 19 = .ok (.iload_n 1, 1) := by decide +kernel
theorem d_Mo_readRowsStatement_20 : decode prog_12_method_47_code 20 = .ok (.ifCond .ge 8, 3) := by decide +kernel
theorem d_Mo_readRowsStatement_23 : decode prog_12_method_47_code 23 = .ok (.aload_n 0, 1) := by decide +kernel
theorem d_Mo_readRowsStatement_24 : decode prog_12_method_47_code 24 = .ok (.invokevirtual 356, 3) := by decide +kernel
theorem d_Mo_readRowsStatement_27 : decode prog_12_method_47_code 27 = .ok (.ireturn, 1) := by decide +kernel
theorem d_Mo_readRowsStatement_28 : decode prog_12_method_47_code 28 = .ok (.aload_n 0, 1) := by decide +kernel
theorem d_Mo_readRowsStatement_29 : decode prog_12_method_47_code 29 = .ok (.iload_n 1, 1) := by decide +kernel
theorem d_Mo_readRowsStatement_30 : decode prog_12_method_47_code 30 = .ok (.putfield 359, 3) := by decide +kernel
theorem d_Mo_readRowsStatement_33 : decode prog_12_method_47_code 33 = .ok (.aload_n 0, 1) := by decide +kernel
theorem d_Mo_readRowsStatement_34 : decode prog_12_method_47_code 34 = .ok (.invokevirtual 362, 3) := by decide +kernel
theorem d_Mo_readRowsStatement_37 : decode prog_12_method_47_code 37 = .ok (.ireturn, 1) := by decide +kernel
set_option maxHeartbeats 4000000 in
set_option maxRecDepth 100000 in
theorem c_Mo_readRowsStatement (l : Launch) (D : va_G) (cI cB cJ cS : ClassId) (h0 : Nat) (am : Nat → Nat) (a_all_m5 : Nat) (a_all_m20 : Nat) (known_h0 : Int32) (thrown_h0 : Int32) (wrong_h0 : Int32) (lastEnd_h0 : Int32) (at_h0 : Int32) (bad_h0 : Int32) (levels_h0 : Int32) (least_h0 : Int32) (found_h0 : Int32) (size_m5 : Int32) (n_a_all_m5 : Nat) (b_a_all_m5 : Nat → Int32) (size_m20 : Int32) (n_a_all_m20 : Nat) (b_a_all_m20 : Nat → Int32) (n_m2 : Nat) (b_m2 : Nat → Int32) (ret : Int32) (o_0_17 : Int32) (o_0_18 : Int32) (o_0_19 : Int32) (o_0_23 : Int32) (o_3_1 : Int32) (on_nq_3_0 : Nat) (ob_nq_3_0 : Nat → Int32) (mc ms : Nat) (h : F_Mo_readRowsStatement known_h0 thrown_h0 wrong_h0 lastEnd_h0 at_h0 bad_h0 levels_h0 least_h0 found_h0 size_m5 n_a_all_m5 b_a_all_m5 size_m20 n_a_all_m20 b_a_all_m20 n_m2 b_m2 = some ((ret, o_0_17, o_0_18, o_0_19, o_0_23, o_3_1, on_nq_3_0, ob_nq_3_0), mc, ms)) : Ct l D (gT cI cB cJ cS) y_Mo_readRowsStatement prog_12_method_47_code 2 (Option.some Jvm.ClassFile.FieldType.boolean) 7 155 mc ms [.ref h0] [(h0, .inr (9, moF am known_h0 thrown_h0 wrong_h0 lastEnd_h0 at_h0 bad_h0 levels_h0 least_h0 found_h0)), ((am 5), .inr (8, [.ref a_all_m5, .int size_m5])), (a_all_m5, .inl (cI, n_a_all_m5, .inl b_a_all_m5)), ((am 20), .inr (8, [.ref a_all_m20, .int size_m20])), (a_all_m20, .inl (cI, n_a_all_m20, .inl b_a_all_m20)), ((am 2), .inl (cI, n_m2, .inl b_m2))] (fun v w => ∃ nq_3_0 : Nat, v = some (.int ret) ∧ zb ret ∧ w = [(h0, .inr (9, moF am known_h0 thrown_h0 wrong_h0 lastEnd_h0 o_0_17 o_0_18 o_0_19 o_0_23 found_h0)), ((am 5), .inr (8, [.ref a_all_m5, .int size_m5])), (a_all_m5, .inl (cI, n_a_all_m5, .inl b_a_all_m5)), ((am 20), .inr (8, [.ref nq_3_0, .int o_3_1])), ((am 2), .inl (cI, n_m2, .inl b_m2)), (nq_3_0, .inl (cI, on_nq_3_0, .inl ob_nq_3_0))]) := by
  refine Ct.mk (by decide) (Nat.le_of_ble_eq_true rfl) ?_
  intro p e s m below meth c hr hnm
  refine j_norm (pc' := 0) (lv' := [(0, .ref h0)]) (st' := []) (ws' := [(h0, .inr (9, moF am known_h0 thrown_h0 wrong_h0 lastEnd_h0 at_h0 bad_h0 levels_h0 least_h0 found_h0)), ((am 5), .inr (8, [.ref a_all_m5, .int size_m5])), (a_all_m5, .inl (cI, n_a_all_m5, .inl b_a_all_m5)), ((am 20), .inr (8, [.ref a_all_m20, .int size_m20])), (a_all_m20, .inl (cI, n_a_all_m20, .inl b_a_all_m20)), ((am 2), .inl (cI, n_m2, .inl b_m2))]) (cl' := 0) (sl' := 0) rfl rfl rfl rfl rfl rfl ?_
  unfold F_Mo_readRowsStatement at h
  have hC : 0 + mc ≤ mc := by omega
  have hS : 0 + ms ≤ ms := by omega
  refine j_aload_n d_Mo_readRowsStatement_0 rfl 0 rfl ?_
  refine j_get ig_Mo rfl 0 rfl 19 (by decide) rfl m_1132 rfl d_Mo_readRowsStatement_1 ?_
  refine j_bipush (v := 60) d_Mo_readRowsStatement_4 (by decide) ?_
  refine j_icmp_ne (tgt := 14) d_Mo_readRowsStatement_6 (by decide) (fun c1 => ?_) (fun c1 => ?_)
  · replace h := it_f c1 h
    refine j_aload_n d_Mo_readRowsStatement_14 rfl 0 rfl ?_
    replace h := bd_s h
    obtain ⟨r2, k3, h⟩ := h
    refine j_callV (n := 0) (As := []) (rest := []) (wr := [((am 20), .inr (8, [.ref a_all_m20, .int size_m20])), (a_all_m20, .inl (cI, n_a_all_m20, .inl b_a_all_m20)), ((am 2), .inl (cI, n_m2, .inl b_m2))]) (c_Mo_targetsEnd l D cI cB cJ cS h0 am a_all_m5 known_h0 thrown_h0 wrong_h0 lastEnd_h0 at_h0 bad_h0 levels_h0 least_h0 found_h0 size_m5 n_a_all_m5 b_a_all_m5  r2 k3) k_Mo_353 (by decide) ⟨Nat.le_of_ble_eq_true rfl, Nat.le_of_ble_eq_true rfl⟩ rfl 0 rfl [0, 1, 2] [3, 4, 5] rfl (by decide) rfl (by decide) (by decide) rfl rfl (Nat.le_of_ble_eq_true rfl) d_Mo_readRowsStatement_15 ⟨show 0 + 0 ≤ mc by omega, show 0 + 0 ≤ ms by omega⟩ (fun v w hq => ?_)
    obtain ⟨rfl, rfl⟩ := hq
    refine j_norm (pc' := 18) (st' := [.int r2]) (ws' := [((am 20), .inr (8, [.ref a_all_m20, .int size_m20])), (a_all_m20, .inl (cI, n_a_all_m20, .inl b_a_all_m20)), ((am 2), .inl (cI, n_m2, .inl b_m2)), (h0, .inr (9, moF am known_h0 thrown_h0 wrong_h0 lastEnd_h0 at_h0 bad_h0 levels_h0 least_h0 found_h0)), ((am 5), .inr (8, [.ref a_all_m5, .int size_m5])), (a_all_m5, .inl (cI, n_a_all_m5, .inl b_a_all_m5))]) (cl' := 0) (sl' := 0) rfl rfl rfl rfl rfl rfl ?_
    refine j_istore_n (lv' := [(1, .int r2), (0, .ref h0)]) d_Mo_readRowsStatement_18 rfl (by decide) rfl ?_
    refine j_iload_n d_Mo_readRowsStatement_19 rfl 0 rfl ?_
    refine j_if_ge (tgt := 28) d_Mo_readRowsStatement_20 (by decide) (fun c4 => ?_) (fun c4 => ?_)
    · replace h := it_t c4 h
      refine j_aload_n d_Mo_readRowsStatement_28 rfl 1 rfl ?_
      refine j_iload_n d_Mo_readRowsStatement_29 rfl 0 rfl ?_
      refine j_put (ws' := [((am 20), .inr (8, [.ref a_all_m20, .int size_m20])), (a_all_m20, .inl (cI, n_a_all_m20, .inl b_a_all_m20)), ((am 2), .inl (cI, n_m2, .inl b_m2)), (h0, .inr (9, moF am known_h0 thrown_h0 wrong_h0 lastEnd_h0 at_h0 bad_h0 levels_h0 r2 found_h0)), ((am 5), .inr (8, [.ref a_all_m5, .int size_m5])), (a_all_m5, .inl (cI, n_a_all_m5, .inl b_a_all_m5))]) ig_Mo tk_Mo nm_Mo rfl 3 rfl 23 (by decide) rfl m_1136 rfl (tk_Mo 23 (by decide)) rfl rfl (Nat.le_of_ble_eq_true rfl) d_Mo_readRowsStatement_30 rfl ?_
      refine j_aload_n d_Mo_readRowsStatement_33 rfl 1 rfl ?_
      replace h := bw_s h
      obtain ⟨⟨r5, r6, r7, r8, r9, r10, r11⟩, C14, S15, C16, S17, k18, h, e1, e2⟩ := h
      replace hC : 0 + C14 + C16 ≤ mc := by omega
      replace hS : 0 + S15 + S17 ≤ ms := by omega
      clear e1 e2
      refine j_callV (n := 0) (As := []) (rest := []) (wr := []) (c_Mo_readWorking l D cI cB cJ cS h0 am a_all_m20 a_all_m5 known_h0 thrown_h0 wrong_h0 lastEnd_h0 at_h0 bad_h0 levels_h0 r2 found_h0 size_m20 size_m5 n_a_all_m5 b_a_all_m5 n_a_all_m20 b_a_all_m20 n_m2 b_m2  r5 r6 r7 r8 r9 r10 r11 C14 S15 k18) k_Mo_362 (by decide) ⟨Nat.le_of_ble_eq_true rfl, Nat.le_of_ble_eq_true rfl⟩ rfl 0 rfl [3, 0, 4, 5, 1, 2] [] rfl (by decide) rfl (by decide) (by decide) rfl rfl (Nat.le_of_ble_eq_true rfl) d_Mo_readRowsStatement_34 ⟨show 0 + C14 ≤ mc by omega, show 0 + S15 ≤ ms by omega⟩ (fun v w hq => ?_)
      obtain ⟨q12, rfl, z13, rfl⟩ := hq
      refine j_norm (pc' := 37) (st' := [.int r5]) (ws' := [(h0, .inr (9, moF am known_h0 thrown_h0 wrong_h0 lastEnd_h0 r6 r7 r8 r2 found_h0)), ((am 20), .inr (8, [.ref q12, .int r9])), ((am 5), .inr (8, [.ref a_all_m5, .int size_m5])), (a_all_m5, .inl (cI, n_a_all_m5, .inl b_a_all_m5)), ((am 2), .inl (cI, n_m2, .inl b_m2)), (q12, .inl (cI, r10, .inl r11))]) (cl' := 0 + C14) (sl' := 0 + S15) rfl rfl rfl rfl rfl rfl ?_
      replace h := lf_s h
      obtain ⟨h, e1, e2⟩ := h
      replace h := Prod.mk.inj h
      obtain ⟨h9, h⟩ := h
      subst h9
      replace h := Prod.mk.inj h
      obtain ⟨h9, h⟩ := h
      subst h9
      replace h := Prod.mk.inj h
      obtain ⟨h9, h⟩ := h
      subst h9
      replace h := Prod.mk.inj h
      obtain ⟨h9, h⟩ := h
      subst h9
      replace h := Prod.mk.inj h
      obtain ⟨h9, h⟩ := h
      subst h9
      replace h := Prod.mk.inj h
      obtain ⟨h9, h⟩ := h
      subst h9
      replace h := Prod.mk.inj h
      obtain ⟨h9, h⟩ := h
      subst h9
      subst h
      refine j_widen (cl' := mc) (sl' := ms) (by omega) (by omega) ?_
      exact j_zret (w := [(h0, .inr (9, moF am known_h0 thrown_h0 wrong_h0 lastEnd_h0 r6 r7 r8 r2 found_h0)), ((am 5), .inr (8, [.ref a_all_m5, .int size_m5])), (a_all_m5, .inl (cI, n_a_all_m5, .inl b_a_all_m5)), ((am 20), .inr (8, [.ref q12, .int r9])), ((am 2), .inl (cI, n_m2, .inl b_m2)), (q12, .inl (cI, r10, .inl r11))]) hr (zb_n z13) d_Mo_readRowsStatement_37 [0, 2, 3, 1, 4, 5] rfl (by decide) ⟨q12, rfl, z13, rfl⟩
    · replace h := it_f c4 h
      refine j_aload_n d_Mo_readRowsStatement_23 rfl 1 rfl ?_
      replace h := bw_s h
      obtain ⟨⟨r19, r20, r21, r22, r23, r24, r25⟩, C28, S29, C30, S31, k32, h, e1, e2⟩ := h
      replace hC : 0 + C28 + C30 ≤ mc := by omega
      replace hS : 0 + S29 + S31 ≤ ms := by omega
      clear e1 e2
      refine j_callV (n := 0) (As := []) (rest := []) (wr := []) (c_Mo_readTargets l D cI cB cJ cS h0 am a_all_m5 a_all_m20 known_h0 thrown_h0 wrong_h0 lastEnd_h0 at_h0 bad_h0 levels_h0 least_h0 found_h0 size_m5 n_a_all_m5 b_a_all_m5 size_m20 n_a_all_m20 b_a_all_m20 n_m2 b_m2  r19 r20 r21 r22 r23 r24 r25 C28 S29 k32) k_Mo_356 (by decide) ⟨Nat.le_of_ble_eq_true rfl, Nat.le_of_ble_eq_true rfl⟩ rfl 0 rfl [3, 4, 5, 0, 1, 2] [] rfl (by decide) rfl (by decide) (by decide) rfl rfl (Nat.le_of_ble_eq_true rfl) d_Mo_readRowsStatement_24 ⟨show 0 + C28 ≤ mc by omega, show 0 + S29 ≤ ms by omega⟩ (fun v w hq => ?_)
      obtain ⟨q26, rfl, z27, rfl⟩ := hq
      refine j_norm (pc' := 27) (st' := [.int r19]) (ws' := [(h0, .inr (9, moF am known_h0 thrown_h0 wrong_h0 lastEnd_h0 r20 r21 r22 least_h0 found_h0)), ((am 5), .inr (8, [.ref a_all_m5, .int size_m5])), (a_all_m5, .inl (cI, n_a_all_m5, .inl b_a_all_m5)), ((am 20), .inr (8, [.ref q26, .int r23])), ((am 2), .inl (cI, n_m2, .inl b_m2)), (q26, .inl (cI, r24, .inl r25))]) (cl' := 0 + C28) (sl' := 0 + S29) rfl rfl rfl rfl rfl rfl ?_
      replace h := lf_s h
      obtain ⟨h, e1, e2⟩ := h
      replace h := Prod.mk.inj h
      obtain ⟨h9, h⟩ := h
      subst h9
      replace h := Prod.mk.inj h
      obtain ⟨h9, h⟩ := h
      subst h9
      replace h := Prod.mk.inj h
      obtain ⟨h9, h⟩ := h
      subst h9
      replace h := Prod.mk.inj h
      obtain ⟨h9, h⟩ := h
      subst h9
      replace h := Prod.mk.inj h
      obtain ⟨h9, h⟩ := h
      subst h9
      replace h := Prod.mk.inj h
      obtain ⟨h9, h⟩ := h
      subst h9
      replace h := Prod.mk.inj h
      obtain ⟨h9, h⟩ := h
      subst h9
      subst h
      refine j_widen (cl' := mc) (sl' := ms) (by omega) (by omega) ?_
      exact j_zret (w := [(h0, .inr (9, moF am known_h0 thrown_h0 wrong_h0 lastEnd_h0 r20 r21 r22 least_h0 found_h0)), ((am 5), .inr (8, [.ref a_all_m5, .int size_m5])), (a_all_m5, .inl (cI, n_a_all_m5, .inl b_a_all_m5)), ((am 20), .inr (8, [.ref q26, .int r23])), ((am 2), .inl (cI, n_m2, .inl b_m2)), (q26, .inl (cI, r24, .inl r25))]) hr (zb_n z27) d_Mo_readRowsStatement_27 [0, 1, 2, 3, 4, 5] rfl (by decide) ⟨q26, rfl, z27, rfl⟩
  · replace h := it_t c1 h
    refine j_aload_n d_Mo_readRowsStatement_9 rfl 0 rfl ?_
    refine j_callV (n := 0) (As := []) (rest := []) (wr := [((am 5), .inr (8, [.ref a_all_m5, .int size_m5])), (a_all_m5, .inl (cI, n_a_all_m5, .inl b_a_all_m5)), ((am 20), .inr (8, [.ref a_all_m20, .int size_m20])), (a_all_m20, .inl (cI, n_a_all_m20, .inl b_a_all_m20)), ((am 2), .inl (cI, n_m2, .inl b_m2))]) (c_Mo_fail l D cI cB cJ cS h0 am known_h0 thrown_h0 wrong_h0 lastEnd_h0 at_h0 bad_h0 levels_h0 least_h0 found_h0  ) k_Mo_278 (by decide) ⟨Nat.le_of_ble_eq_true rfl, Nat.le_of_ble_eq_true rfl⟩ rfl 0 rfl [0] [1, 2, 3, 4, 5] rfl (by decide) rfl (by decide) (by decide) rfl rfl (Nat.le_of_ble_eq_true rfl) d_Mo_readRowsStatement_10 ⟨show 0 + 0 ≤ mc by omega, show 0 + 0 ≤ ms by omega⟩ (fun v w hq => ?_)
    obtain ⟨rfl, _, rfl⟩ := hq
    refine j_norm (pc' := 13) (st' := [.int 0]) (ws' := [((am 5), .inr (8, [.ref a_all_m5, .int size_m5])), (a_all_m5, .inl (cI, n_a_all_m5, .inl b_a_all_m5)), ((am 20), .inr (8, [.ref a_all_m20, .int size_m20])), (a_all_m20, .inl (cI, n_a_all_m20, .inl b_a_all_m20)), ((am 2), .inl (cI, n_m2, .inl b_m2)), (h0, .inr (9, moF am known_h0 thrown_h0 wrong_h0 lastEnd_h0 at_h0 at_h0 levels_h0 least_h0 found_h0))]) (cl' := 0) (sl' := 0) rfl rfl rfl rfl rfl rfl ?_
    replace h := lf_s h
    obtain ⟨h, e1, e2⟩ := h
    replace h := Prod.mk.inj h
    obtain ⟨h9, h⟩ := h
    subst h9
    replace h := Prod.mk.inj h
    obtain ⟨h9, h⟩ := h
    subst h9
    replace h := Prod.mk.inj h
    obtain ⟨h9, h⟩ := h
    subst h9
    replace h := Prod.mk.inj h
    obtain ⟨h9, h⟩ := h
    subst h9
    replace h := Prod.mk.inj h
    obtain ⟨h9, h⟩ := h
    subst h9
    replace h := Prod.mk.inj h
    obtain ⟨h9, h⟩ := h
    subst h9
    replace h := Prod.mk.inj h
    obtain ⟨h9, h⟩ := h
    subst h9
    subst h
    refine j_widen (cl' := mc) (sl' := ms) (by omega) (by omega) ?_
    exact j_zret (w := [(h0, .inr (9, moF am known_h0 thrown_h0 wrong_h0 lastEnd_h0 at_h0 at_h0 levels_h0 least_h0 found_h0)), ((am 5), .inr (8, [.ref a_all_m5, .int size_m5])), (a_all_m5, .inl (cI, n_a_all_m5, .inl b_a_all_m5)), ((am 20), .inr (8, [.ref a_all_m20, .int size_m20])), ((am 2), .inl (cI, n_m2, .inl b_m2)), (a_all_m20, .inl (cI, n_a_all_m20, .inl b_a_all_m20))]) hr (zb_n zb0) d_Mo_readRowsStatement_13 [5, 0, 1, 2, 4, 3] rfl (by decide) ⟨a_all_m20, rfl, zb0, rfl⟩
noncomputable def F_Mo_readStatement_352 (at_h0 : Int32) (bad_h0 : Int32) (levels_h0 : Int32) (least_h0 : Int32) (b_a_all_m5 : Nat → Int32) (size_m20 : Int32) (n_a_all_m20 : Nat) (b_a_all_m20 : Nat → Int32) (size_m21 : Int32) (n_a_all_m21 : Nat) (b_a_all_m21 : Nat → Int32) (size_m22 : Int32) (n_a_all_m22 : Nat) (b_a_all_m22 : Nat → Int32) (t0_352 : Int32) (t1_352 : Int32) : Option ((Int32 × Int32 × Int32 × Int32 × Int32 × Int32 × Int32 × Int32 × Nat × (Nat → Int32) × Nat × (Nat → Int32) × Nat × (Nat → Int32)) × Nat × Nat) :=
    if t1_352 = t0_352 then (bw (F_Nm_add (b_a_all_m5 (Int32.toNatClampNeg at_h0)) (size_m21 - 1) n_a_all_m21 b_a_all_m21) fun ⟨r3, r4⟩ =>
      (some ((1, at_h0 + 1, bad_h0, levels_h0, least_h0, size_m20, (size_m21 - 1) + 1, size_m22, n_a_all_m20, b_a_all_m20, r3, r4, n_a_all_m22, b_a_all_m22), 0, 0)))
    else (some ((0, at_h0, at_h0, levels_h0, least_h0, size_m20, size_m21, size_m22, n_a_all_m20, b_a_all_m20, n_a_all_m21, b_a_all_m21, n_a_all_m22, b_a_all_m22), 0, 0))
noncomputable def F_Mo_readStatement (known_h0 : Int32) (thrown_h0 : Int32) (wrong_h0 : Int32) (lastEnd_h0 : Int32) (at_h0 : Int32) (bad_h0 : Int32) (levels_h0 : Int32) (least_h0 : Int32) (found_h0 : Int32) (size_m5 : Int32) (n_a_all_m5 : Nat) (b_a_all_m5 : Nat → Int32) (size_m20 : Int32) (n_a_all_m20 : Nat) (b_a_all_m20 : Nat → Int32) (n_m2 : Nat) (b_m2 : Nat → Int32) (size_m21 : Int32) (n_a_all_m21 : Nat) (b_a_all_m21 : Nat → Int32) (size_m7 : Int32) (n_a_all_m7 : Nat) (b_a_all_m7 : Nat → Int32) (size_m6 : Int32) (n_a_all_m6 : Nat) (b_a_all_m6 : Nat → Int32) (size_m4 : Int32) (n_a_all_m4 : Nat) (b_a_all_m4 : Nat → Int32) (size_m22 : Int32) (n_a_all_m22 : Nat) (b_a_all_m22 : Nat → Int32) : Option ((Int32 × Int32 × Int32 × Int32 × Int32 × Int32 × Int32 × Int32 × Nat × (Nat → Int32) × Nat × (Nat → Int32) × Nat × (Nat → Int32)) × Nat × Nat) :=
  Option.bind (F_Mo_kind known_h0 thrown_h0 wrong_h0 lastEnd_h0 at_h0 bad_h0 levels_h0 least_h0 found_h0 size_m5 n_a_all_m5 b_a_all_m5) fun _ =>
  if (b_a_all_m5 (Int32.toNatClampNeg at_h0)) = 10 then (Option.bind (F_Mo_enter (b_a_all_m5 (Int32.toNatClampNeg at_h0)) known_h0 thrown_h0 wrong_h0 lastEnd_h0 at_h0 bad_h0 levels_h0 least_h0 found_h0 size_m5 n_a_all_m5 b_a_all_m5) fun ⟨r14, r15, r16, r17⟩ =>
    if r14 = 0 then (some ((0, r15, r16, r17, least_h0, size_m20, size_m21, size_m22, n_a_all_m20, b_a_all_m20, n_a_all_m21, b_a_all_m21, n_a_all_m22, b_a_all_m22), 0, 0))
    else (bw (F_Mo_readCondition known_h0 thrown_h0 wrong_h0 lastEnd_h0 r15 r16 r17 least_h0 found_h0 size_m5 n_a_all_m5 b_a_all_m5 size_m20 n_a_all_m20 b_a_all_m20 n_m2 b_m2) fun ⟨r21, r22, r23, r24, r25, r26, r27⟩ =>
      if r21 = 0 then (some ((0, r22, r23, r24, least_h0, r25, size_m21, size_m22, r26, r27, n_a_all_m21, b_a_all_m21, n_a_all_m22, b_a_all_m22), 0, 0))
      else (bw (F_Nm_add (b_a_all_m5 (Int32.toNatClampNeg at_h0)) size_m21 n_a_all_m21 b_a_all_m21) fun ⟨r36, r37⟩ =>
        (some ((1, r22, r23, r24, least_h0, r25, size_m21 + 1, size_m22, r26, r27, r36, r37, n_a_all_m22, b_a_all_m22), 0, 0)))))
  else if (b_a_all_m5 (Int32.toNatClampNeg at_h0)) = 11 then (Option.bind (F_Mo_block known_h0 thrown_h0 wrong_h0 lastEnd_h0 at_h0 bad_h0 levels_h0 least_h0 found_h0 size_m21 n_a_all_m21 b_a_all_m21) fun r45 =>
    if r45 = 10 then (bw (F_Mo_readCondition known_h0 thrown_h0 wrong_h0 lastEnd_h0 (at_h0 + 1) bad_h0 levels_h0 least_h0 found_h0 size_m5 n_a_all_m5 b_a_all_m5 size_m20 n_a_all_m20 b_a_all_m20 n_m2 b_m2) fun ⟨r48, r49, r50, r51, r52, r53, r54⟩ =>
      (some ((r48, r49, r50, r51, least_h0, r52, size_m21, size_m22, r53, r54, n_a_all_m21, b_a_all_m21, n_a_all_m22, b_a_all_m22), 0, 0)))
    else (some ((0, at_h0, at_h0, levels_h0, least_h0, size_m20, size_m21, size_m22, n_a_all_m20, b_a_all_m20, n_a_all_m21, b_a_all_m21, n_a_all_m22, b_a_all_m22), 0, 0)))
  else if (b_a_all_m5 (Int32.toNatClampNeg at_h0)) = 12 then (Option.bind (F_Mo_block known_h0 thrown_h0 wrong_h0 lastEnd_h0 at_h0 bad_h0 levels_h0 least_h0 found_h0 size_m21 n_a_all_m21 b_a_all_m21) fun r64 =>
    if (b_a_all_m5 (Int32.toNatClampNeg at_h0)) = 12 then (F_Mo_readStatement_352 at_h0 bad_h0 levels_h0 least_h0 b_a_all_m5 size_m20 n_a_all_m20 b_a_all_m20 size_m21 n_a_all_m21 b_a_all_m21 size_m22 n_a_all_m22 b_a_all_m22   10 r64)
    else (F_Mo_readStatement_352 at_h0 bad_h0 levels_h0 least_h0 b_a_all_m5 size_m20 n_a_all_m20 b_a_all_m20 size_m21 n_a_all_m21 b_a_all_m21 size_m22 n_a_all_m22 b_a_all_m22   22 r64))
  else if (b_a_all_m5 (Int32.toNatClampNeg at_h0)) = 13 then (Option.bind (F_Mo_block known_h0 thrown_h0 wrong_h0 lastEnd_h0 at_h0 bad_h0 levels_h0 least_h0 found_h0 size_m21 n_a_all_m21 b_a_all_m21) fun r68 =>
    if r68 = (-1) then (some ((0, at_h0, at_h0, levels_h0, least_h0, size_m20, size_m21, size_m22, n_a_all_m20, b_a_all_m20, n_a_all_m21, b_a_all_m21, n_a_all_m22, b_a_all_m22), 0, 0))
    else (Option.bind (F_Mo_block known_h0 thrown_h0 wrong_h0 lastEnd_h0 at_h0 bad_h0 levels_h0 least_h0 found_h0 size_m21 n_a_all_m21 b_a_all_m21) fun r72 =>
      if r72 = 22 then (some ((0, at_h0, at_h0, levels_h0, least_h0, size_m20, size_m21, size_m22, n_a_all_m20, b_a_all_m20, n_a_all_m21, b_a_all_m21, n_a_all_m22, b_a_all_m22), 0, 0))
      else (some ((1, at_h0 + 1, bad_h0, levels_h0 - 1, least_h0, size_m20, size_m21 - 1, size_m22, n_a_all_m20, b_a_all_m20, n_a_all_m21, b_a_all_m21, n_a_all_m22, b_a_all_m22), 0, 0))))
  else if (b_a_all_m5 (Int32.toNatClampNeg at_h0)) = 14 then (Option.bind (F_Mo_enter (b_a_all_m5 (Int32.toNatClampNeg at_h0)) known_h0 thrown_h0 wrong_h0 lastEnd_h0 at_h0 bad_h0 levels_h0 least_h0 found_h0 size_m5 n_a_all_m5 b_a_all_m5) fun ⟨r78, r79, r80, r81⟩ =>
    if r78 = 0 then (some ((0, r79, r80, r81, least_h0, size_m20, size_m21, size_m22, n_a_all_m20, b_a_all_m20, n_a_all_m21, b_a_all_m21, n_a_all_m22, b_a_all_m22), 0, 0))
    else (bw (F_Mo_readCondition known_h0 thrown_h0 wrong_h0 lastEnd_h0 r79 r80 r81 least_h0 found_h0 size_m5 n_a_all_m5 b_a_all_m5 size_m20 n_a_all_m20 b_a_all_m20 n_m2 b_m2) fun ⟨r85, r86, r87, r88, r89, r90, r91⟩ =>
      if r85 = 0 then (some ((0, r86, r87, r88, least_h0, r89, size_m21, size_m22, r90, r91, n_a_all_m21, b_a_all_m21, n_a_all_m22, b_a_all_m22), 0, 0))
      else (bw (F_Nm_add (b_a_all_m5 (Int32.toNatClampNeg at_h0)) size_m21 n_a_all_m21 b_a_all_m21) fun ⟨r100, r101⟩ =>
        (some ((1, r86, r87, r88, least_h0, r89, size_m21 + 1, size_m22, r90, r91, r100, r101, n_a_all_m22, b_a_all_m22), 0, 0)))))
  else if (b_a_all_m5 (Int32.toNatClampNeg at_h0)) = 15 then (Option.bind (F_Mo_enter (b_a_all_m5 (Int32.toNatClampNeg at_h0)) known_h0 thrown_h0 wrong_h0 lastEnd_h0 at_h0 bad_h0 levels_h0 least_h0 found_h0 size_m5 n_a_all_m5 b_a_all_m5) fun ⟨r109, r110, r111, r112⟩ =>
    if r109 = 0 then (some ((0, r110, r111, r112, least_h0, size_m20, size_m21, size_m22, n_a_all_m20, b_a_all_m20, n_a_all_m21, b_a_all_m21, n_a_all_m22, b_a_all_m22), 0, 0))
    else (Option.bind (F_Mo_enter 50 known_h0 thrown_h0 wrong_h0 lastEnd_h0 r110 r111 r112 least_h0 found_h0 size_m5 n_a_all_m5 b_a_all_m5) fun ⟨r116, r117, r118, r119⟩ =>
      if r116 = 0 then (some ((0, r117, r118, r119, least_h0, size_m20, size_m21, size_m22, n_a_all_m20, b_a_all_m20, n_a_all_m21, b_a_all_m21, n_a_all_m22, b_a_all_m22), 0, 0))
      else (Option.bind (F_Mo_take 2 known_h0 thrown_h0 wrong_h0 lastEnd_h0 r117 r118 r119 least_h0 found_h0 size_m5 n_a_all_m5 b_a_all_m5) fun ⟨r123, r124, r125⟩ =>
        if r123 = 0 then (some ((0, r124, r125, r119, least_h0, size_m20, size_m21, size_m22, n_a_all_m20, b_a_all_m20, n_a_all_m21, b_a_all_m21, n_a_all_m22, b_a_all_m22), 0, 0))
        else (Option.bind (F_Mo_take 56 known_h0 thrown_h0 wrong_h0 lastEnd_h0 r124 r125 r119 least_h0 found_h0 size_m5 n_a_all_m5 b_a_all_m5) fun ⟨r129, r130, r131⟩ =>
          if r129 = 0 then (some ((0, r130, r131, r119, least_h0, size_m20, size_m21, size_m22, n_a_all_m20, b_a_all_m20, n_a_all_m21, b_a_all_m21, n_a_all_m22, b_a_all_m22), 0, 0))
          else (bw (F_Mo_readExpression known_h0 thrown_h0 wrong_h0 lastEnd_h0 r130 r131 r119 least_h0 found_h0 size_m20 size_m5 n_a_all_m5 b_a_all_m5 n_a_all_m20 b_a_all_m20 n_m2 b_m2) fun ⟨r135, r136, r137, r138, r139, r140, r141⟩ =>
            if r135 = 0 then (some ((0, r136, r137, r138, least_h0, r139, size_m21, size_m22, r140, r141, n_a_all_m21, b_a_all_m21, n_a_all_m22, b_a_all_m22), 0, 0))
            else (Option.bind (F_Mo_leave 51 known_h0 thrown_h0 wrong_h0 lastEnd_h0 r136 r137 r138 least_h0 found_h0 size_m5 n_a_all_m5 b_a_all_m5) fun ⟨r150, r151, r152⟩ =>
              if r150 = 0 then (some ((0, r151, r152, (r138 - 1), least_h0, r139, size_m21, size_m22, r140, r141, n_a_all_m21, b_a_all_m21, n_a_all_m22, b_a_all_m22), 0, 0))
              else (bw (F_Nm_add (b_a_all_m5 (Int32.toNatClampNeg at_h0)) size_m21 n_a_all_m21 b_a_all_m21) fun ⟨r156, r157⟩ =>
                (some ((1, r151, r152, (r138 - 1), least_h0, r139, size_m21 + 1, size_m22, r140, r141, r156, r157, n_a_all_m22, b_a_all_m22), 0, 0)))))))))
  else if (b_a_all_m5 (Int32.toNatClampNeg at_h0)) = 16 then (Option.bind (F_Mo_isInLoop known_h0 thrown_h0 wrong_h0 lastEnd_h0 at_h0 bad_h0 levels_h0 least_h0 found_h0 size_m21 n_a_all_m21 b_a_all_m21) fun r165 =>
    if r165 = 0 then (some ((0, at_h0, at_h0, levels_h0, least_h0, size_m20, size_m21, size_m22, n_a_all_m20, b_a_all_m20, n_a_all_m21, b_a_all_m21, n_a_all_m22, b_a_all_m22), 0, 0))
    else (Option.bind (F_Mo_take 55 known_h0 thrown_h0 wrong_h0 lastEnd_h0 (at_h0 + 1) bad_h0 levels_h0 least_h0 found_h0 size_m5 n_a_all_m5 b_a_all_m5) fun ⟨r169, r170, r171⟩ =>
      (some ((r169, r170, r171, levels_h0, least_h0, size_m20, size_m21, size_m22, n_a_all_m20, b_a_all_m20, n_a_all_m21, b_a_all_m21, n_a_all_m22, b_a_all_m22), 0, 0))))
  else if (b_a_all_m5 (Int32.toNatClampNeg at_h0)) = 17 then (Option.bind (F_Mo_isInLoop known_h0 thrown_h0 wrong_h0 lastEnd_h0 at_h0 bad_h0 levels_h0 least_h0 found_h0 size_m21 n_a_all_m21 b_a_all_m21) fun r176 =>
    if r176 = 0 then (some ((0, at_h0, at_h0, levels_h0, least_h0, size_m20, size_m21, size_m22, n_a_all_m20, b_a_all_m20, n_a_all_m21, b_a_all_m21, n_a_all_m22, b_a_all_m22), 0, 0))
    else (Option.bind (F_Mo_take 55 known_h0 thrown_h0 wrong_h0 lastEnd_h0 (at_h0 + 1) bad_h0 levels_h0 least_h0 found_h0 size_m5 n_a_all_m5 b_a_all_m5) fun ⟨r180, r181, r182⟩ =>
      (some ((r180, r181, r182, levels_h0, least_h0, size_m20, size_m21, size_m22, n_a_all_m20, b_a_all_m20, n_a_all_m21, b_a_all_m21, n_a_all_m22, b_a_all_m22), 0, 0))))
  else if (b_a_all_m5 (Int32.toNatClampNeg at_h0)) = 18 then (Option.bind (F_Mo_take 55 known_h0 thrown_h0 wrong_h0 lastEnd_h0 (at_h0 + 1) bad_h0 levels_h0 least_h0 found_h0 size_m5 n_a_all_m5 b_a_all_m5) fun ⟨r187, r188, r189⟩ =>
    (some ((r187, r188, r189, levels_h0, least_h0, size_m20, size_m21, size_m22, n_a_all_m20, b_a_all_m20, n_a_all_m21, b_a_all_m21, n_a_all_m22, b_a_all_m22), 0, 0)))
  else if (b_a_all_m5 (Int32.toNatClampNeg at_h0)) = 19 then (bw (F_Mo_readFunction known_h0 thrown_h0 wrong_h0 lastEnd_h0 at_h0 bad_h0 levels_h0 least_h0 found_h0 size_m21 size_m5 n_a_all_m5 b_a_all_m5 size_m7 n_a_all_m7 b_a_all_m7 size_m6 n_a_all_m6 b_a_all_m6 size_m4 n_a_all_m4 b_a_all_m4 size_m22 n_a_all_m22 b_a_all_m22 n_a_all_m21 b_a_all_m21) fun ⟨r193, r194, r195, r196, r197, r198, r199, r200, r201, r202⟩ =>
    (some ((r193, r194, r195, r196, least_h0, size_m20, r197, r198, n_a_all_m20, b_a_all_m20, r199, r200, r201, r202), 0, 0)))
  else if (b_a_all_m5 (Int32.toNatClampNeg at_h0)) = 20 then (bw (F_Mo_readSeveral known_h0 thrown_h0 wrong_h0 lastEnd_h0 (at_h0 + 1) bad_h0 levels_h0 least_h0 found_h0 size_m20 size_m5 n_a_all_m5 b_a_all_m5 n_a_all_m20 b_a_all_m20 n_m2 b_m2) fun ⟨r212, r213, r214, r215, r216, r217, r218⟩ =>
    if r212 = 0 then (some ((0, r213, r214, r215, least_h0, r216, size_m21, size_m22, r217, r218, n_a_all_m21, b_a_all_m21, n_a_all_m22, b_a_all_m22), 0, 0))
    else (Option.bind (F_Mo_take 55 known_h0 thrown_h0 wrong_h0 lastEnd_h0 r213 r214 r215 least_h0 found_h0 size_m5 n_a_all_m5 b_a_all_m5) fun ⟨r227, r228, r229⟩ =>
      if r227 = 0 then (some ((0, r228, r229, r215, least_h0, r216, size_m21, size_m22, r217, r218, n_a_all_m21, b_a_all_m21, n_a_all_m22, b_a_all_m22), 0, 0))
      else (some ((1, r228, r229, r215, least_h0, r216, size_m21, size_m22, r217, r218, n_a_all_m21, b_a_all_m21, n_a_all_m22, b_a_all_m22), 0, 0))))
  else if (b_a_all_m5 (Int32.toNatClampNeg at_h0)) = 21 then (bw (F_Mo_readSeveral known_h0 thrown_h0 wrong_h0 lastEnd_h0 (at_h0 + 1) bad_h0 levels_h0 least_h0 found_h0 size_m20 size_m5 n_a_all_m5 b_a_all_m5 n_a_all_m20 b_a_all_m20 n_m2 b_m2) fun ⟨r234, r235, r236, r237, r238, r239, r240⟩ =>
    if r234 = 0 then (some ((0, r235, r236, r237, least_h0, r238, size_m21, size_m22, r239, r240, n_a_all_m21, b_a_all_m21, n_a_all_m22, b_a_all_m22), 0, 0))
    else (Option.bind (F_Mo_take 55 known_h0 thrown_h0 wrong_h0 lastEnd_h0 r235 r236 r237 least_h0 found_h0 size_m5 n_a_all_m5 b_a_all_m5) fun ⟨r249, r250, r251⟩ =>
      if r249 = 0 then (some ((0, r250, r251, r237, least_h0, r238, size_m21, size_m22, r239, r240, n_a_all_m21, b_a_all_m21, n_a_all_m22, b_a_all_m22), 0, 0))
      else (some ((1, r250, r251, r237, least_h0, r238, size_m21, size_m22, r239, r240, n_a_all_m21, b_a_all_m21, n_a_all_m22, b_a_all_m22), 0, 0))))
  else if (b_a_all_m5 (Int32.toNatClampNeg at_h0)) = 22 then (Option.bind (F_Mo_enter (b_a_all_m5 (Int32.toNatClampNeg at_h0)) known_h0 thrown_h0 wrong_h0 lastEnd_h0 at_h0 bad_h0 levels_h0 least_h0 found_h0 size_m5 n_a_all_m5 b_a_all_m5) fun ⟨r256, r257, r258, r259⟩ =>
    if r256 = 0 then (some ((0, r257, r258, r259, least_h0, size_m20, size_m21, size_m22, n_a_all_m20, b_a_all_m20, n_a_all_m21, b_a_all_m21, n_a_all_m22, b_a_all_m22), 0, 0))
    else (bw (F_Nm_add (b_a_all_m5 (Int32.toNatClampNeg at_h0)) size_m21 n_a_all_m21 b_a_all_m21) fun ⟨r263, r264⟩ =>
      (some ((1, r257, r258, r259, least_h0, size_m20, size_m21 + 1, size_m22, n_a_all_m20, b_a_all_m20, r263, r264, n_a_all_m22, b_a_all_m22), 0, 0))))
  else if (b_a_all_m5 (Int32.toNatClampNeg at_h0)) = 23 then (Option.bind (F_Mo_block known_h0 thrown_h0 wrong_h0 lastEnd_h0 at_h0 bad_h0 levels_h0 least_h0 found_h0 size_m21 n_a_all_m21 b_a_all_m21) fun r272 =>
    if (b_a_all_m5 (Int32.toNatClampNeg at_h0)) = 12 then (F_Mo_readStatement_352 at_h0 bad_h0 levels_h0 least_h0 b_a_all_m5 size_m20 n_a_all_m20 b_a_all_m20 size_m21 n_a_all_m21 b_a_all_m21 size_m22 n_a_all_m22 b_a_all_m22   10 r272)
    else (F_Mo_readStatement_352 at_h0 bad_h0 levels_h0 least_h0 b_a_all_m5 size_m20 n_a_all_m20 b_a_all_m20 size_m21 n_a_all_m21 b_a_all_m21 size_m22 n_a_all_m22 b_a_all_m22   22 r272))
  else if (b_a_all_m5 (Int32.toNatClampNeg at_h0)) = 24 then (bw (F_Mo_readWorking known_h0 thrown_h0 wrong_h0 lastEnd_h0 at_h0 bad_h0 levels_h0 least_h0 found_h0 size_m20 size_m5 n_a_all_m5 b_a_all_m5 n_a_all_m20 b_a_all_m20 n_m2 b_m2) fun ⟨r276, r277, r278, r279, r280, r281, r282⟩ =>
    if r276 = 0 then (some ((0, r277, r278, r279, least_h0, r280, size_m21, size_m22, r281, r282, n_a_all_m21, b_a_all_m21, n_a_all_m22, b_a_all_m22), 0, 0))
    else (Option.bind (F_Mo_take 55 known_h0 thrown_h0 wrong_h0 lastEnd_h0 r277 r278 r279 least_h0 found_h0 size_m5 n_a_all_m5 b_a_all_m5) fun ⟨r291, r292, r293⟩ =>
      if r291 = 0 then (some ((0, r292, r293, r279, least_h0, r280, size_m21, size_m22, r281, r282, n_a_all_m21, b_a_all_m21, n_a_all_m22, b_a_all_m22), 0, 0))
      else (some ((1, r292, r293, r279, least_h0, r280, size_m21, size_m22, r281, r282, n_a_all_m21, b_a_all_m21, n_a_all_m22, b_a_all_m22), 0, 0))))
  else if (b_a_all_m5 (Int32.toNatClampNeg at_h0)) = 25 then (bw (F_Mo_readWorking known_h0 thrown_h0 wrong_h0 lastEnd_h0 at_h0 bad_h0 levels_h0 least_h0 found_h0 size_m20 size_m5 n_a_all_m5 b_a_all_m5 n_a_all_m20 b_a_all_m20 n_m2 b_m2) fun ⟨r298, r299, r300, r301, r302, r303, r304⟩ =>
    if r298 = 0 then (some ((0, r299, r300, r301, least_h0, r302, size_m21, size_m22, r303, r304, n_a_all_m21, b_a_all_m21, n_a_all_m22, b_a_all_m22), 0, 0))
    else (Option.bind (F_Mo_take 55 known_h0 thrown_h0 wrong_h0 lastEnd_h0 r299 r300 r301 least_h0 found_h0 size_m5 n_a_all_m5 b_a_all_m5) fun ⟨r313, r314, r315⟩ =>
      if r313 = 0 then (some ((0, r314, r315, r301, least_h0, r302, size_m21, size_m22, r303, r304, n_a_all_m21, b_a_all_m21, n_a_all_m22, b_a_all_m22), 0, 0))
      else (some ((1, r314, r315, r301, least_h0, r302, size_m21, size_m22, r303, r304, n_a_all_m21, b_a_all_m21, n_a_all_m22, b_a_all_m22), 0, 0))))
  else if (b_a_all_m5 (Int32.toNatClampNeg at_h0)) = 26 then (bw (F_Mo_readWorking known_h0 thrown_h0 wrong_h0 lastEnd_h0 at_h0 bad_h0 levels_h0 least_h0 found_h0 size_m20 size_m5 n_a_all_m5 b_a_all_m5 n_a_all_m20 b_a_all_m20 n_m2 b_m2) fun ⟨r320, r321, r322, r323, r324, r325, r326⟩ =>
    if r320 = 0 then (some ((0, r321, r322, r323, least_h0, r324, size_m21, size_m22, r325, r326, n_a_all_m21, b_a_all_m21, n_a_all_m22, b_a_all_m22), 0, 0))
    else (Option.bind (F_Mo_take 55 known_h0 thrown_h0 wrong_h0 lastEnd_h0 r321 r322 r323 least_h0 found_h0 size_m5 n_a_all_m5 b_a_all_m5) fun ⟨r335, r336, r337⟩ =>
      if r335 = 0 then (some ((0, r336, r337, r323, least_h0, r324, size_m21, size_m22, r325, r326, n_a_all_m21, b_a_all_m21, n_a_all_m22, b_a_all_m22), 0, 0))
      else (some ((1, r336, r337, r323, least_h0, r324, size_m21, size_m22, r325, r326, n_a_all_m21, b_a_all_m21, n_a_all_m22, b_a_all_m22), 0, 0))))
  else if (b_a_all_m5 (Int32.toNatClampNeg at_h0)) = 27 then (bw (F_Mo_readWorking known_h0 thrown_h0 wrong_h0 lastEnd_h0 at_h0 bad_h0 levels_h0 least_h0 found_h0 size_m20 size_m5 n_a_all_m5 b_a_all_m5 n_a_all_m20 b_a_all_m20 n_m2 b_m2) fun ⟨r342, r343, r344, r345, r346, r347, r348⟩ =>
    if r342 = 0 then (some ((0, r343, r344, r345, least_h0, r346, size_m21, size_m22, r347, r348, n_a_all_m21, b_a_all_m21, n_a_all_m22, b_a_all_m22), 0, 0))
    else (Option.bind (F_Mo_take 55 known_h0 thrown_h0 wrong_h0 lastEnd_h0 r343 r344 r345 least_h0 found_h0 size_m5 n_a_all_m5 b_a_all_m5) fun ⟨r357, r358, r359⟩ =>
      if r357 = 0 then (some ((0, r358, r359, r345, least_h0, r346, size_m21, size_m22, r347, r348, n_a_all_m21, b_a_all_m21, n_a_all_m22, b_a_all_m22), 0, 0))
      else (some ((1, r358, r359, r345, least_h0, r346, size_m21, size_m22, r347, r348, n_a_all_m21, b_a_all_m21, n_a_all_m22, b_a_all_m22), 0, 0))))
  else if (b_a_all_m5 (Int32.toNatClampNeg at_h0)) = 28 then (bw (F_Mo_readWorking known_h0 thrown_h0 wrong_h0 lastEnd_h0 at_h0 bad_h0 levels_h0 least_h0 found_h0 size_m20 size_m5 n_a_all_m5 b_a_all_m5 n_a_all_m20 b_a_all_m20 n_m2 b_m2) fun ⟨r364, r365, r366, r367, r368, r369, r370⟩ =>
    if r364 = 0 then (some ((0, r365, r366, r367, least_h0, r368, size_m21, size_m22, r369, r370, n_a_all_m21, b_a_all_m21, n_a_all_m22, b_a_all_m22), 0, 0))
    else (Option.bind (F_Mo_take 55 known_h0 thrown_h0 wrong_h0 lastEnd_h0 r365 r366 r367 least_h0 found_h0 size_m5 n_a_all_m5 b_a_all_m5) fun ⟨r379, r380, r381⟩ =>
      if r379 = 0 then (some ((0, r380, r381, r367, least_h0, r368, size_m21, size_m22, r369, r370, n_a_all_m21, b_a_all_m21, n_a_all_m22, b_a_all_m22), 0, 0))
      else (some ((1, r380, r381, r367, least_h0, r368, size_m21, size_m22, r369, r370, n_a_all_m21, b_a_all_m21, n_a_all_m22, b_a_all_m22), 0, 0))))
  else if (b_a_all_m5 (Int32.toNatClampNeg at_h0)) = 29 then (bw (F_Mo_readWorking known_h0 thrown_h0 wrong_h0 lastEnd_h0 at_h0 bad_h0 levels_h0 least_h0 found_h0 size_m20 size_m5 n_a_all_m5 b_a_all_m5 n_a_all_m20 b_a_all_m20 n_m2 b_m2) fun ⟨r386, r387, r388, r389, r390, r391, r392⟩ =>
    if r386 = 0 then (some ((0, r387, r388, r389, least_h0, r390, size_m21, size_m22, r391, r392, n_a_all_m21, b_a_all_m21, n_a_all_m22, b_a_all_m22), 0, 0))
    else (Option.bind (F_Mo_take 55 known_h0 thrown_h0 wrong_h0 lastEnd_h0 r387 r388 r389 least_h0 found_h0 size_m5 n_a_all_m5 b_a_all_m5) fun ⟨r401, r402, r403⟩ =>
      if r401 = 0 then (some ((0, r402, r403, r389, least_h0, r390, size_m21, size_m22, r391, r392, n_a_all_m21, b_a_all_m21, n_a_all_m22, b_a_all_m22), 0, 0))
      else (some ((1, r402, r403, r389, least_h0, r390, size_m21, size_m22, r391, r392, n_a_all_m21, b_a_all_m21, n_a_all_m22, b_a_all_m22), 0, 0))))
  else if (b_a_all_m5 (Int32.toNatClampNeg at_h0)) = 30 then (bw (F_Mo_readWorking known_h0 thrown_h0 wrong_h0 lastEnd_h0 at_h0 bad_h0 levels_h0 least_h0 found_h0 size_m20 size_m5 n_a_all_m5 b_a_all_m5 n_a_all_m20 b_a_all_m20 n_m2 b_m2) fun ⟨r408, r409, r410, r411, r412, r413, r414⟩ =>
    if r408 = 0 then (some ((0, r409, r410, r411, least_h0, r412, size_m21, size_m22, r413, r414, n_a_all_m21, b_a_all_m21, n_a_all_m22, b_a_all_m22), 0, 0))
    else (Option.bind (F_Mo_take 55 known_h0 thrown_h0 wrong_h0 lastEnd_h0 r409 r410 r411 least_h0 found_h0 size_m5 n_a_all_m5 b_a_all_m5) fun ⟨r423, r424, r425⟩ =>
      if r423 = 0 then (some ((0, r424, r425, r411, least_h0, r412, size_m21, size_m22, r413, r414, n_a_all_m21, b_a_all_m21, n_a_all_m22, b_a_all_m22), 0, 0))
      else (some ((1, r424, r425, r411, least_h0, r412, size_m21, size_m22, r413, r414, n_a_all_m21, b_a_all_m21, n_a_all_m22, b_a_all_m22), 0, 0))))
  else if (b_a_all_m5 (Int32.toNatClampNeg at_h0)) = 31 then (bw (F_Mo_readWorking known_h0 thrown_h0 wrong_h0 lastEnd_h0 at_h0 bad_h0 levels_h0 least_h0 found_h0 size_m20 size_m5 n_a_all_m5 b_a_all_m5 n_a_all_m20 b_a_all_m20 n_m2 b_m2) fun ⟨r430, r431, r432, r433, r434, r435, r436⟩ =>
    if r430 = 0 then (some ((0, r431, r432, r433, least_h0, r434, size_m21, size_m22, r435, r436, n_a_all_m21, b_a_all_m21, n_a_all_m22, b_a_all_m22), 0, 0))
    else (Option.bind (F_Mo_take 55 known_h0 thrown_h0 wrong_h0 lastEnd_h0 r431 r432 r433 least_h0 found_h0 size_m5 n_a_all_m5 b_a_all_m5) fun ⟨r445, r446, r447⟩ =>
      if r445 = 0 then (some ((0, r446, r447, r433, least_h0, r434, size_m21, size_m22, r435, r436, n_a_all_m21, b_a_all_m21, n_a_all_m22, b_a_all_m22), 0, 0))
      else (some ((1, r446, r447, r433, least_h0, r434, size_m21, size_m22, r435, r436, n_a_all_m21, b_a_all_m21, n_a_all_m22, b_a_all_m22), 0, 0))))
  else if (b_a_all_m5 (Int32.toNatClampNeg at_h0)) = 32 then (bw (F_Mo_readWorking known_h0 thrown_h0 wrong_h0 lastEnd_h0 at_h0 bad_h0 levels_h0 least_h0 found_h0 size_m20 size_m5 n_a_all_m5 b_a_all_m5 n_a_all_m20 b_a_all_m20 n_m2 b_m2) fun ⟨r452, r453, r454, r455, r456, r457, r458⟩ =>
    if r452 = 0 then (some ((0, r453, r454, r455, least_h0, r456, size_m21, size_m22, r457, r458, n_a_all_m21, b_a_all_m21, n_a_all_m22, b_a_all_m22), 0, 0))
    else (Option.bind (F_Mo_take 55 known_h0 thrown_h0 wrong_h0 lastEnd_h0 r453 r454 r455 least_h0 found_h0 size_m5 n_a_all_m5 b_a_all_m5) fun ⟨r467, r468, r469⟩ =>
      if r467 = 0 then (some ((0, r468, r469, r455, least_h0, r456, size_m21, size_m22, r457, r458, n_a_all_m21, b_a_all_m21, n_a_all_m22, b_a_all_m22), 0, 0))
      else (some ((1, r468, r469, r455, least_h0, r456, size_m21, size_m22, r457, r458, n_a_all_m21, b_a_all_m21, n_a_all_m22, b_a_all_m22), 0, 0))))
  else if (b_a_all_m5 (Int32.toNatClampNeg at_h0)) = 33 then (bw (F_Mo_readWorking known_h0 thrown_h0 wrong_h0 lastEnd_h0 at_h0 bad_h0 levels_h0 least_h0 found_h0 size_m20 size_m5 n_a_all_m5 b_a_all_m5 n_a_all_m20 b_a_all_m20 n_m2 b_m2) fun ⟨r474, r475, r476, r477, r478, r479, r480⟩ =>
    if r474 = 0 then (some ((0, r475, r476, r477, least_h0, r478, size_m21, size_m22, r479, r480, n_a_all_m21, b_a_all_m21, n_a_all_m22, b_a_all_m22), 0, 0))
    else (Option.bind (F_Mo_take 55 known_h0 thrown_h0 wrong_h0 lastEnd_h0 r475 r476 r477 least_h0 found_h0 size_m5 n_a_all_m5 b_a_all_m5) fun ⟨r489, r490, r491⟩ =>
      if r489 = 0 then (some ((0, r490, r491, r477, least_h0, r478, size_m21, size_m22, r479, r480, n_a_all_m21, b_a_all_m21, n_a_all_m22, b_a_all_m22), 0, 0))
      else (some ((1, r490, r491, r477, least_h0, r478, size_m21, size_m22, r479, r480, n_a_all_m21, b_a_all_m21, n_a_all_m22, b_a_all_m22), 0, 0))))
  else if (b_a_all_m5 (Int32.toNatClampNeg at_h0)) = 34 then (bw (F_Mo_readWorking known_h0 thrown_h0 wrong_h0 lastEnd_h0 at_h0 bad_h0 levels_h0 least_h0 found_h0 size_m20 size_m5 n_a_all_m5 b_a_all_m5 n_a_all_m20 b_a_all_m20 n_m2 b_m2) fun ⟨r496, r497, r498, r499, r500, r501, r502⟩ =>
    if r496 = 0 then (some ((0, r497, r498, r499, least_h0, r500, size_m21, size_m22, r501, r502, n_a_all_m21, b_a_all_m21, n_a_all_m22, b_a_all_m22), 0, 0))
    else (Option.bind (F_Mo_take 55 known_h0 thrown_h0 wrong_h0 lastEnd_h0 r497 r498 r499 least_h0 found_h0 size_m5 n_a_all_m5 b_a_all_m5) fun ⟨r511, r512, r513⟩ =>
      if r511 = 0 then (some ((0, r512, r513, r499, least_h0, r500, size_m21, size_m22, r501, r502, n_a_all_m21, b_a_all_m21, n_a_all_m22, b_a_all_m22), 0, 0))
      else (some ((1, r512, r513, r499, least_h0, r500, size_m21, size_m22, r501, r502, n_a_all_m21, b_a_all_m21, n_a_all_m22, b_a_all_m22), 0, 0))))
  else if (b_a_all_m5 (Int32.toNatClampNeg at_h0)) = 35 then (bw (F_Mo_readWorking known_h0 thrown_h0 wrong_h0 lastEnd_h0 at_h0 bad_h0 levels_h0 least_h0 found_h0 size_m20 size_m5 n_a_all_m5 b_a_all_m5 n_a_all_m20 b_a_all_m20 n_m2 b_m2) fun ⟨r518, r519, r520, r521, r522, r523, r524⟩ =>
    if r518 = 0 then (some ((0, r519, r520, r521, least_h0, r522, size_m21, size_m22, r523, r524, n_a_all_m21, b_a_all_m21, n_a_all_m22, b_a_all_m22), 0, 0))
    else (Option.bind (F_Mo_take 55 known_h0 thrown_h0 wrong_h0 lastEnd_h0 r519 r520 r521 least_h0 found_h0 size_m5 n_a_all_m5 b_a_all_m5) fun ⟨r533, r534, r535⟩ =>
      if r533 = 0 then (some ((0, r534, r535, r521, least_h0, r522, size_m21, size_m22, r523, r524, n_a_all_m21, b_a_all_m21, n_a_all_m22, b_a_all_m22), 0, 0))
      else (some ((1, r534, r535, r521, least_h0, r522, size_m21, size_m22, r523, r524, n_a_all_m21, b_a_all_m21, n_a_all_m22, b_a_all_m22), 0, 0))))
  else if (b_a_all_m5 (Int32.toNatClampNeg at_h0)) = 36 then (bw (F_Mo_readWorking known_h0 thrown_h0 wrong_h0 lastEnd_h0 at_h0 bad_h0 levels_h0 least_h0 found_h0 size_m20 size_m5 n_a_all_m5 b_a_all_m5 n_a_all_m20 b_a_all_m20 n_m2 b_m2) fun ⟨r540, r541, r542, r543, r544, r545, r546⟩ =>
    if r540 = 0 then (some ((0, r541, r542, r543, least_h0, r544, size_m21, size_m22, r545, r546, n_a_all_m21, b_a_all_m21, n_a_all_m22, b_a_all_m22), 0, 0))
    else (Option.bind (F_Mo_take 55 known_h0 thrown_h0 wrong_h0 lastEnd_h0 r541 r542 r543 least_h0 found_h0 size_m5 n_a_all_m5 b_a_all_m5) fun ⟨r555, r556, r557⟩ =>
      if r555 = 0 then (some ((0, r556, r557, r543, least_h0, r544, size_m21, size_m22, r545, r546, n_a_all_m21, b_a_all_m21, n_a_all_m22, b_a_all_m22), 0, 0))
      else (some ((1, r556, r557, r543, least_h0, r544, size_m21, size_m22, r545, r546, n_a_all_m21, b_a_all_m21, n_a_all_m22, b_a_all_m22), 0, 0))))
  else if (b_a_all_m5 (Int32.toNatClampNeg at_h0)) = 37 then (bw (F_Mo_readWorking known_h0 thrown_h0 wrong_h0 lastEnd_h0 at_h0 bad_h0 levels_h0 least_h0 found_h0 size_m20 size_m5 n_a_all_m5 b_a_all_m5 n_a_all_m20 b_a_all_m20 n_m2 b_m2) fun ⟨r562, r563, r564, r565, r566, r567, r568⟩ =>
    if r562 = 0 then (some ((0, r563, r564, r565, least_h0, r566, size_m21, size_m22, r567, r568, n_a_all_m21, b_a_all_m21, n_a_all_m22, b_a_all_m22), 0, 0))
    else (Option.bind (F_Mo_take 55 known_h0 thrown_h0 wrong_h0 lastEnd_h0 r563 r564 r565 least_h0 found_h0 size_m5 n_a_all_m5 b_a_all_m5) fun ⟨r577, r578, r579⟩ =>
      if r577 = 0 then (some ((0, r578, r579, r565, least_h0, r566, size_m21, size_m22, r567, r568, n_a_all_m21, b_a_all_m21, n_a_all_m22, b_a_all_m22), 0, 0))
      else (some ((1, r578, r579, r565, least_h0, r566, size_m21, size_m22, r567, r568, n_a_all_m21, b_a_all_m21, n_a_all_m22, b_a_all_m22), 0, 0))))
  else if (b_a_all_m5 (Int32.toNatClampNeg at_h0)) = 38 then (bw (F_Mo_readWorking known_h0 thrown_h0 wrong_h0 lastEnd_h0 at_h0 bad_h0 levels_h0 least_h0 found_h0 size_m20 size_m5 n_a_all_m5 b_a_all_m5 n_a_all_m20 b_a_all_m20 n_m2 b_m2) fun ⟨r584, r585, r586, r587, r588, r589, r590⟩ =>
    if r584 = 0 then (some ((0, r585, r586, r587, least_h0, r588, size_m21, size_m22, r589, r590, n_a_all_m21, b_a_all_m21, n_a_all_m22, b_a_all_m22), 0, 0))
    else (Option.bind (F_Mo_take 55 known_h0 thrown_h0 wrong_h0 lastEnd_h0 r585 r586 r587 least_h0 found_h0 size_m5 n_a_all_m5 b_a_all_m5) fun ⟨r599, r600, r601⟩ =>
      if r599 = 0 then (some ((0, r600, r601, r587, least_h0, r588, size_m21, size_m22, r589, r590, n_a_all_m21, b_a_all_m21, n_a_all_m22, b_a_all_m22), 0, 0))
      else (some ((1, r600, r601, r587, least_h0, r588, size_m21, size_m22, r589, r590, n_a_all_m21, b_a_all_m21, n_a_all_m22, b_a_all_m22), 0, 0))))
  else if (b_a_all_m5 (Int32.toNatClampNeg at_h0)) = 39 then (bw (F_Mo_readWorking known_h0 thrown_h0 wrong_h0 lastEnd_h0 at_h0 bad_h0 levels_h0 least_h0 found_h0 size_m20 size_m5 n_a_all_m5 b_a_all_m5 n_a_all_m20 b_a_all_m20 n_m2 b_m2) fun ⟨r606, r607, r608, r609, r610, r611, r612⟩ =>
    if r606 = 0 then (some ((0, r607, r608, r609, least_h0, r610, size_m21, size_m22, r611, r612, n_a_all_m21, b_a_all_m21, n_a_all_m22, b_a_all_m22), 0, 0))
    else (Option.bind (F_Mo_take 55 known_h0 thrown_h0 wrong_h0 lastEnd_h0 r607 r608 r609 least_h0 found_h0 size_m5 n_a_all_m5 b_a_all_m5) fun ⟨r621, r622, r623⟩ =>
      if r621 = 0 then (some ((0, r622, r623, r609, least_h0, r610, size_m21, size_m22, r611, r612, n_a_all_m21, b_a_all_m21, n_a_all_m22, b_a_all_m22), 0, 0))
      else (some ((1, r622, r623, r609, least_h0, r610, size_m21, size_m22, r611, r612, n_a_all_m21, b_a_all_m21, n_a_all_m22, b_a_all_m22), 0, 0))))
  else if (b_a_all_m5 (Int32.toNatClampNeg at_h0)) = 40 then (bw (F_Mo_readWorking known_h0 thrown_h0 wrong_h0 lastEnd_h0 at_h0 bad_h0 levels_h0 least_h0 found_h0 size_m20 size_m5 n_a_all_m5 b_a_all_m5 n_a_all_m20 b_a_all_m20 n_m2 b_m2) fun ⟨r628, r629, r630, r631, r632, r633, r634⟩ =>
    if r628 = 0 then (some ((0, r629, r630, r631, least_h0, r632, size_m21, size_m22, r633, r634, n_a_all_m21, b_a_all_m21, n_a_all_m22, b_a_all_m22), 0, 0))
    else (Option.bind (F_Mo_take 55 known_h0 thrown_h0 wrong_h0 lastEnd_h0 r629 r630 r631 least_h0 found_h0 size_m5 n_a_all_m5 b_a_all_m5) fun ⟨r643, r644, r645⟩ =>
      if r643 = 0 then (some ((0, r644, r645, r631, least_h0, r632, size_m21, size_m22, r633, r634, n_a_all_m21, b_a_all_m21, n_a_all_m22, b_a_all_m22), 0, 0))
      else (some ((1, r644, r645, r631, least_h0, r632, size_m21, size_m22, r633, r634, n_a_all_m21, b_a_all_m21, n_a_all_m22, b_a_all_m22), 0, 0))))
  else if (b_a_all_m5 (Int32.toNatClampNeg at_h0)) = 41 then (bw (F_Mo_readWorking known_h0 thrown_h0 wrong_h0 lastEnd_h0 at_h0 bad_h0 levels_h0 least_h0 found_h0 size_m20 size_m5 n_a_all_m5 b_a_all_m5 n_a_all_m20 b_a_all_m20 n_m2 b_m2) fun ⟨r650, r651, r652, r653, r654, r655, r656⟩ =>
    if r650 = 0 then (some ((0, r651, r652, r653, least_h0, r654, size_m21, size_m22, r655, r656, n_a_all_m21, b_a_all_m21, n_a_all_m22, b_a_all_m22), 0, 0))
    else (Option.bind (F_Mo_take 55 known_h0 thrown_h0 wrong_h0 lastEnd_h0 r651 r652 r653 least_h0 found_h0 size_m5 n_a_all_m5 b_a_all_m5) fun ⟨r665, r666, r667⟩ =>
      if r665 = 0 then (some ((0, r666, r667, r653, least_h0, r654, size_m21, size_m22, r655, r656, n_a_all_m21, b_a_all_m21, n_a_all_m22, b_a_all_m22), 0, 0))
      else (some ((1, r666, r667, r653, least_h0, r654, size_m21, size_m22, r655, r656, n_a_all_m21, b_a_all_m21, n_a_all_m22, b_a_all_m22), 0, 0))))
  else if (b_a_all_m5 (Int32.toNatClampNeg at_h0)) = 42 then (bw (F_Mo_readWorking known_h0 thrown_h0 wrong_h0 lastEnd_h0 at_h0 bad_h0 levels_h0 least_h0 found_h0 size_m20 size_m5 n_a_all_m5 b_a_all_m5 n_a_all_m20 b_a_all_m20 n_m2 b_m2) fun ⟨r672, r673, r674, r675, r676, r677, r678⟩ =>
    if r672 = 0 then (some ((0, r673, r674, r675, least_h0, r676, size_m21, size_m22, r677, r678, n_a_all_m21, b_a_all_m21, n_a_all_m22, b_a_all_m22), 0, 0))
    else (Option.bind (F_Mo_take 55 known_h0 thrown_h0 wrong_h0 lastEnd_h0 r673 r674 r675 least_h0 found_h0 size_m5 n_a_all_m5 b_a_all_m5) fun ⟨r687, r688, r689⟩ =>
      if r687 = 0 then (some ((0, r688, r689, r675, least_h0, r676, size_m21, size_m22, r677, r678, n_a_all_m21, b_a_all_m21, n_a_all_m22, b_a_all_m22), 0, 0))
      else (some ((1, r688, r689, r675, least_h0, r676, size_m21, size_m22, r677, r678, n_a_all_m21, b_a_all_m21, n_a_all_m22, b_a_all_m22), 0, 0))))
  else if (b_a_all_m5 (Int32.toNatClampNeg at_h0)) = 43 then (bw (F_Mo_readWorking known_h0 thrown_h0 wrong_h0 lastEnd_h0 at_h0 bad_h0 levels_h0 least_h0 found_h0 size_m20 size_m5 n_a_all_m5 b_a_all_m5 n_a_all_m20 b_a_all_m20 n_m2 b_m2) fun ⟨r694, r695, r696, r697, r698, r699, r700⟩ =>
    if r694 = 0 then (some ((0, r695, r696, r697, least_h0, r698, size_m21, size_m22, r699, r700, n_a_all_m21, b_a_all_m21, n_a_all_m22, b_a_all_m22), 0, 0))
    else (Option.bind (F_Mo_take 55 known_h0 thrown_h0 wrong_h0 lastEnd_h0 r695 r696 r697 least_h0 found_h0 size_m5 n_a_all_m5 b_a_all_m5) fun ⟨r709, r710, r711⟩ =>
      if r709 = 0 then (some ((0, r710, r711, r697, least_h0, r698, size_m21, size_m22, r699, r700, n_a_all_m21, b_a_all_m21, n_a_all_m22, b_a_all_m22), 0, 0))
      else (some ((1, r710, r711, r697, least_h0, r698, size_m21, size_m22, r699, r700, n_a_all_m21, b_a_all_m21, n_a_all_m22, b_a_all_m22), 0, 0))))
  else if (b_a_all_m5 (Int32.toNatClampNeg at_h0)) = 44 then (bw (F_Mo_readWorking known_h0 thrown_h0 wrong_h0 lastEnd_h0 at_h0 bad_h0 levels_h0 least_h0 found_h0 size_m20 size_m5 n_a_all_m5 b_a_all_m5 n_a_all_m20 b_a_all_m20 n_m2 b_m2) fun ⟨r716, r717, r718, r719, r720, r721, r722⟩ =>
    if r716 = 0 then (some ((0, r717, r718, r719, least_h0, r720, size_m21, size_m22, r721, r722, n_a_all_m21, b_a_all_m21, n_a_all_m22, b_a_all_m22), 0, 0))
    else (Option.bind (F_Mo_take 55 known_h0 thrown_h0 wrong_h0 lastEnd_h0 r717 r718 r719 least_h0 found_h0 size_m5 n_a_all_m5 b_a_all_m5) fun ⟨r731, r732, r733⟩ =>
      if r731 = 0 then (some ((0, r732, r733, r719, least_h0, r720, size_m21, size_m22, r721, r722, n_a_all_m21, b_a_all_m21, n_a_all_m22, b_a_all_m22), 0, 0))
      else (some ((1, r732, r733, r719, least_h0, r720, size_m21, size_m22, r721, r722, n_a_all_m21, b_a_all_m21, n_a_all_m22, b_a_all_m22), 0, 0))))
  else if (b_a_all_m5 (Int32.toNatClampNeg at_h0)) = 45 then (bw (F_Mo_readWorking known_h0 thrown_h0 wrong_h0 lastEnd_h0 at_h0 bad_h0 levels_h0 least_h0 found_h0 size_m20 size_m5 n_a_all_m5 b_a_all_m5 n_a_all_m20 b_a_all_m20 n_m2 b_m2) fun ⟨r738, r739, r740, r741, r742, r743, r744⟩ =>
    if r738 = 0 then (some ((0, r739, r740, r741, least_h0, r742, size_m21, size_m22, r743, r744, n_a_all_m21, b_a_all_m21, n_a_all_m22, b_a_all_m22), 0, 0))
    else (Option.bind (F_Mo_take 55 known_h0 thrown_h0 wrong_h0 lastEnd_h0 r739 r740 r741 least_h0 found_h0 size_m5 n_a_all_m5 b_a_all_m5) fun ⟨r753, r754, r755⟩ =>
      if r753 = 0 then (some ((0, r754, r755, r741, least_h0, r742, size_m21, size_m22, r743, r744, n_a_all_m21, b_a_all_m21, n_a_all_m22, b_a_all_m22), 0, 0))
      else (some ((1, r754, r755, r741, least_h0, r742, size_m21, size_m22, r743, r744, n_a_all_m21, b_a_all_m21, n_a_all_m22, b_a_all_m22), 0, 0))))
  else if (b_a_all_m5 (Int32.toNatClampNeg at_h0)) = 46 then (bw (F_Mo_readWorking known_h0 thrown_h0 wrong_h0 lastEnd_h0 at_h0 bad_h0 levels_h0 least_h0 found_h0 size_m20 size_m5 n_a_all_m5 b_a_all_m5 n_a_all_m20 b_a_all_m20 n_m2 b_m2) fun ⟨r760, r761, r762, r763, r764, r765, r766⟩ =>
    if r760 = 0 then (some ((0, r761, r762, r763, least_h0, r764, size_m21, size_m22, r765, r766, n_a_all_m21, b_a_all_m21, n_a_all_m22, b_a_all_m22), 0, 0))
    else (Option.bind (F_Mo_take 55 known_h0 thrown_h0 wrong_h0 lastEnd_h0 r761 r762 r763 least_h0 found_h0 size_m5 n_a_all_m5 b_a_all_m5) fun ⟨r775, r776, r777⟩ =>
      if r775 = 0 then (some ((0, r776, r777, r763, least_h0, r764, size_m21, size_m22, r765, r766, n_a_all_m21, b_a_all_m21, n_a_all_m22, b_a_all_m22), 0, 0))
      else (some ((1, r776, r777, r763, least_h0, r764, size_m21, size_m22, r765, r766, n_a_all_m21, b_a_all_m21, n_a_all_m22, b_a_all_m22), 0, 0))))
  else if (b_a_all_m5 (Int32.toNatClampNeg at_h0)) = 47 then (bw (F_Mo_readWorking known_h0 thrown_h0 wrong_h0 lastEnd_h0 at_h0 bad_h0 levels_h0 least_h0 found_h0 size_m20 size_m5 n_a_all_m5 b_a_all_m5 n_a_all_m20 b_a_all_m20 n_m2 b_m2) fun ⟨r782, r783, r784, r785, r786, r787, r788⟩ =>
    if r782 = 0 then (some ((0, r783, r784, r785, least_h0, r786, size_m21, size_m22, r787, r788, n_a_all_m21, b_a_all_m21, n_a_all_m22, b_a_all_m22), 0, 0))
    else (Option.bind (F_Mo_take 55 known_h0 thrown_h0 wrong_h0 lastEnd_h0 r783 r784 r785 least_h0 found_h0 size_m5 n_a_all_m5 b_a_all_m5) fun ⟨r797, r798, r799⟩ =>
      if r797 = 0 then (some ((0, r798, r799, r785, least_h0, r786, size_m21, size_m22, r787, r788, n_a_all_m21, b_a_all_m21, n_a_all_m22, b_a_all_m22), 0, 0))
      else (some ((1, r798, r799, r785, least_h0, r786, size_m21, size_m22, r787, r788, n_a_all_m21, b_a_all_m21, n_a_all_m22, b_a_all_m22), 0, 0))))
  else if (b_a_all_m5 (Int32.toNatClampNeg at_h0)) = 48 then (bw (F_Mo_readWorking known_h0 thrown_h0 wrong_h0 lastEnd_h0 at_h0 bad_h0 levels_h0 least_h0 found_h0 size_m20 size_m5 n_a_all_m5 b_a_all_m5 n_a_all_m20 b_a_all_m20 n_m2 b_m2) fun ⟨r804, r805, r806, r807, r808, r809, r810⟩ =>
    if r804 = 0 then (some ((0, r805, r806, r807, least_h0, r808, size_m21, size_m22, r809, r810, n_a_all_m21, b_a_all_m21, n_a_all_m22, b_a_all_m22), 0, 0))
    else (Option.bind (F_Mo_take 55 known_h0 thrown_h0 wrong_h0 lastEnd_h0 r805 r806 r807 least_h0 found_h0 size_m5 n_a_all_m5 b_a_all_m5) fun ⟨r819, r820, r821⟩ =>
      if r819 = 0 then (some ((0, r820, r821, r807, least_h0, r808, size_m21, size_m22, r809, r810, n_a_all_m21, b_a_all_m21, n_a_all_m22, b_a_all_m22), 0, 0))
      else (some ((1, r820, r821, r807, least_h0, r808, size_m21, size_m22, r809, r810, n_a_all_m21, b_a_all_m21, n_a_all_m22, b_a_all_m22), 0, 0))))
  else if (b_a_all_m5 (Int32.toNatClampNeg at_h0)) = 49 then (bw (F_Mo_readWorking known_h0 thrown_h0 wrong_h0 lastEnd_h0 at_h0 bad_h0 levels_h0 least_h0 found_h0 size_m20 size_m5 n_a_all_m5 b_a_all_m5 n_a_all_m20 b_a_all_m20 n_m2 b_m2) fun ⟨r826, r827, r828, r829, r830, r831, r832⟩ =>
    if r826 = 0 then (some ((0, r827, r828, r829, least_h0, r830, size_m21, size_m22, r831, r832, n_a_all_m21, b_a_all_m21, n_a_all_m22, b_a_all_m22), 0, 0))
    else (Option.bind (F_Mo_take 55 known_h0 thrown_h0 wrong_h0 lastEnd_h0 r827 r828 r829 least_h0 found_h0 size_m5 n_a_all_m5 b_a_all_m5) fun ⟨r841, r842, r843⟩ =>
      if r841 = 0 then (some ((0, r842, r843, r829, least_h0, r830, size_m21, size_m22, r831, r832, n_a_all_m21, b_a_all_m21, n_a_all_m22, b_a_all_m22), 0, 0))
      else (some ((1, r842, r843, r829, least_h0, r830, size_m21, size_m22, r831, r832, n_a_all_m21, b_a_all_m21, n_a_all_m22, b_a_all_m22), 0, 0))))
  else if (b_a_all_m5 (Int32.toNatClampNeg at_h0)) = 50 then (bw (F_Mo_readWorking known_h0 thrown_h0 wrong_h0 lastEnd_h0 at_h0 bad_h0 levels_h0 least_h0 found_h0 size_m20 size_m5 n_a_all_m5 b_a_all_m5 n_a_all_m20 b_a_all_m20 n_m2 b_m2) fun ⟨r848, r849, r850, r851, r852, r853, r854⟩ =>
    if r848 = 0 then (some ((0, r849, r850, r851, least_h0, r852, size_m21, size_m22, r853, r854, n_a_all_m21, b_a_all_m21, n_a_all_m22, b_a_all_m22), 0, 0))
    else (Option.bind (F_Mo_take 55 known_h0 thrown_h0 wrong_h0 lastEnd_h0 r849 r850 r851 least_h0 found_h0 size_m5 n_a_all_m5 b_a_all_m5) fun ⟨r863, r864, r865⟩ =>
      if r863 = 0 then (some ((0, r864, r865, r851, least_h0, r852, size_m21, size_m22, r853, r854, n_a_all_m21, b_a_all_m21, n_a_all_m22, b_a_all_m22), 0, 0))
      else (some ((1, r864, r865, r851, least_h0, r852, size_m21, size_m22, r853, r854, n_a_all_m21, b_a_all_m21, n_a_all_m22, b_a_all_m22), 0, 0))))
  else if (b_a_all_m5 (Int32.toNatClampNeg at_h0)) = 51 then (bw (F_Mo_readWorking known_h0 thrown_h0 wrong_h0 lastEnd_h0 at_h0 bad_h0 levels_h0 least_h0 found_h0 size_m20 size_m5 n_a_all_m5 b_a_all_m5 n_a_all_m20 b_a_all_m20 n_m2 b_m2) fun ⟨r870, r871, r872, r873, r874, r875, r876⟩ =>
    if r870 = 0 then (some ((0, r871, r872, r873, least_h0, r874, size_m21, size_m22, r875, r876, n_a_all_m21, b_a_all_m21, n_a_all_m22, b_a_all_m22), 0, 0))
    else (Option.bind (F_Mo_take 55 known_h0 thrown_h0 wrong_h0 lastEnd_h0 r871 r872 r873 least_h0 found_h0 size_m5 n_a_all_m5 b_a_all_m5) fun ⟨r885, r886, r887⟩ =>
      if r885 = 0 then (some ((0, r886, r887, r873, least_h0, r874, size_m21, size_m22, r875, r876, n_a_all_m21, b_a_all_m21, n_a_all_m22, b_a_all_m22), 0, 0))
      else (some ((1, r886, r887, r873, least_h0, r874, size_m21, size_m22, r875, r876, n_a_all_m21, b_a_all_m21, n_a_all_m22, b_a_all_m22), 0, 0))))
  else if (b_a_all_m5 (Int32.toNatClampNeg at_h0)) = 52 then (bw (F_Mo_readRowsStatement known_h0 thrown_h0 wrong_h0 lastEnd_h0 at_h0 bad_h0 levels_h0 least_h0 found_h0 size_m5 n_a_all_m5 b_a_all_m5 size_m20 n_a_all_m20 b_a_all_m20 n_m2 b_m2) fun ⟨r892, r893, r894, r895, r896, r897, r898, r899⟩ =>
    if r892 = 0 then (some ((0, r893, r894, r895, r896, r897, size_m21, size_m22, r898, r899, n_a_all_m21, b_a_all_m21, n_a_all_m22, b_a_all_m22), 0, 0))
    else (Option.bind (F_Mo_take 55 known_h0 thrown_h0 wrong_h0 lastEnd_h0 r893 r894 r895 r896 found_h0 size_m5 n_a_all_m5 b_a_all_m5) fun ⟨r908, r909, r910⟩ =>
      if r908 = 0 then (some ((0, r909, r910, r895, r896, r897, size_m21, size_m22, r898, r899, n_a_all_m21, b_a_all_m21, n_a_all_m22, b_a_all_m22), 0, 0))
      else (some ((1, r909, r910, r895, r896, r897, size_m21, size_m22, r898, r899, n_a_all_m21, b_a_all_m21, n_a_all_m22, b_a_all_m22), 0, 0))))
  else (bw (F_Mo_readWorking known_h0 thrown_h0 wrong_h0 lastEnd_h0 at_h0 bad_h0 levels_h0 least_h0 found_h0 size_m20 size_m5 n_a_all_m5 b_a_all_m5 n_a_all_m20 b_a_all_m20 n_m2 b_m2) fun ⟨r914, r915, r916, r917, r918, r919, r920⟩ =>
    if r914 = 0 then (some ((0, r915, r916, r917, least_h0, r918, size_m21, size_m22, r919, r920, n_a_all_m21, b_a_all_m21, n_a_all_m22, b_a_all_m22), 0, 0))
    else (Option.bind (F_Mo_take 55 known_h0 thrown_h0 wrong_h0 lastEnd_h0 r915 r916 r917 least_h0 found_h0 size_m5 n_a_all_m5 b_a_all_m5) fun ⟨r929, r930, r931⟩ =>
      if r929 = 0 then (some ((0, r930, r931, r917, least_h0, r918, size_m21, size_m22, r919, r920, n_a_all_m21, b_a_all_m21, n_a_all_m22, b_a_all_m22), 0, 0))
      else (some ((1, r930, r931, r917, least_h0, r918, size_m21, size_m22, r919, r920, n_a_all_m21, b_a_all_m21, n_a_all_m22, b_a_all_m22), 0, 0))))
theorem d_Mo_readStatement_0 : decode prog_12_method_48_code 0 = .ok (.aload_n 0, 1) := by decide +kernel
theorem d_Mo_readStatement_1 : decode prog_12_method_48_code 1 = .ok (.invokevirtual 275, 3) := by decide +kernel
theorem d_Mo_readStatement_4 : decode prog_12_method_48_code 4 = .ok (.istore_n 1, 1) := by decide +kernel
theorem d_Mo_readStatement_5 : decode prog_12_method_48_code 5 = .ok (.iload_n 1, 1) := by decide +kernel
theorem d_Mo_readStatement_6 : decode prog_12_method_48_code 6 = .ok (.tableswitch 534 10 52 #[191, 300, 329, 382, 191, 218, 434, 434, 463, 186, 480, 480, 280, 329, 534, 534, 534, 534, 534, 534, 534, 534, 534, 534, 534, 534, 534, 534, 534, 534, 534, 534, 534, 534, 534, 534, 534, 534, 534, 534, 534, 534, 512], 186) := by decide +kernel
theorem d_Mo_readStatement_192 : decode prog_12_method_48_code 192 = .ok (.aload_n 0, 1) := by decide +kernel
theorem d_Mo_readStatement_193 : decode prog_12_method_48_code 193 = .ok (.invokevirtual 365, 3) := by decide +kernel
theorem d_Mo_readStatement_196 : decode prog_12_method_48_code 196 = .ok (.ireturn, 1) := by decide +kernel
theorem d_Mo_readStatement_197 : decode prog_12_method_48_code 197 = .ok (.aload_n 0, 1) := by decide +kernel
theorem d_Mo_readStatement_198 : decode prog_12_method_48_code 198 = .ok (.iload_n 1, 1) := by decide +kernel
theorem d_Mo_readStatement_199 : decode prog_12_method_48_code 199 = .ok (.invokevirtual 297, 3) := by decide +kernel
theorem d_Mo_readStatement_202 : decode prog_12_method_48_code 202 = .ok (.ifCond .eq 10, 3) := by decide +kernel
theorem d_Mo_readStatement_205 : decode prog_12_method_48_code 205 = .ok (.aload_n 0, 1) := by decide +kernel
theorem d_Mo_readStatement_206 : decode prog_12_method_48_code 206 = .ok (.invokevirtual 368, 3) := by decide +kernel
theorem d_Mo_readStatement_209 : decode prog_12_method_48_code 209 = .ok (.ifCond .ne 5, 3) := by decide +kernel
theorem d_Mo_readStatement_212 : decode prog_12_method_48_code 212 = .ok (.iconst 0, 1) := by decide +kernel
theorem d_Mo_readStatement_213 : decode prog_12_method_48_code 213 = .ok (.ireturn, 1) := by decide +kernel
theorem d_Mo_readStatement_214 : decode prog_12_method_48_code 214 = .ok (.aload_n 0, 1) := by decide +kernel
theorem d_Mo_readStatement_215 : decode prog_12_method_48_code 215 = .ok (.getfield 145, 3) := by decide +kernel
theorem d_Mo_readStatement_218 : decode prog_12_method_48_code 218 = .ok (.iload_n 1, 1) := by decide +kernel
theorem d_Mo_readStatement_219 : decode prog_12_method_48_code 219 = .ok (.invokevirtual 200, 3) := by decide +kernel
theorem d_Mo_readStatement_222 : decode prog_12_method_48_code 222 = .ok (.iconst 1, 1) := by decide +kernel
theorem d_Mo_readStatement_223 : decode prog_12_method_48_code 223 = .ok (.ireturn, 1) := by decide +kernel
theorem d_Mo_readStatement_224 : decode prog_12_method_48_code 224 = .ok (.aload_n 0, 1) := by decide +kernel
theorem d_Mo_readStatement_225 : decode prog_12_method_48_code 225 = .ok (.iload_n 1, 1) := by decide +kernel
theorem d_Mo_readStatement_226 : decode prog_12_method_48_code 226 = .ok (.invokevirtual 297, 3) := by decide +kernel
theorem d_Mo_readStatement_229 : decode prog_12_method_48_code 229 = .ok (.ifCond .eq 45, 3) := by decide +kernel
theorem d_Mo_readStatement_232 : decode prog_12_method_48_code 232 = .ok (.aload_n 0, 1) := by decide +kernel
theorem d_Mo_readStatement_233 : decode prog_12_method_48_code 233 = .ok (.bipush 50, 2) := by decide +kernel
theorem d_Mo_readStatement_235 : decode prog_12_method_48_code 235 = .ok (.invokevirtual 297, 3) := by decide +kernel
theorem d_Mo_readStatement_238 : decode prog_12_method_48_code 238 = .ok (.ifCond .eq 36, 3) := by decide +kernel
theorem d_Mo_readStatement_241 : decode prog_12_method_48_code 241 = .ok (.aload_n 0, 1) := by decide +kernel
theorem d_Mo_readStatement_242 : decode prog_12_method_48_code 242 = .ok (.iconst 2, 1) := by decide +kernel
theorem d_Mo_readStatement_243 : decode prog_12_method_48_code 243 = .ok (.invokevirtual 285, 3) := by decide +kernel
theorem d_Mo_readStatement_246 : decode prog_12_method_48_code 246 = .ok (.ifCond .eq 28, 3) := by decide +kernel
theorem d_Mo_readStatement_249 : decode prog_12_method_48_code 249 = .ok (.aload_n 0, 1) := by decide +kernel
theorem d_Mo_readStatement_250 : decode prog_12_method_48_code 250 = .ok (.bipush 56, 2) := by decide +kernel
theorem d_Mo_readStatement_252 : decode prog_12_method_48_code 252 = .ok (.invokevirtual 285, 3) := by decide +kernel
theorem d_Mo_readStatement_255 : decode prog_12_method_48_code 255 = .ok (.ifCond .eq 19, 3) := by decide +kernel
theorem d_Mo_readStatement_258 : decode prog_12_method_48_code 258 = .ok (.aload_n 0, 1) := by decide +kernel
theorem d_Mo_readStatement_259 : decode prog_12_method_48_code 259 = .ok (.invokevirtual 326, 3) := by decide +kernel
theorem d_Mo_readStatement_262 : decode prog_12_method_48_code 262 = .ok (.ifCond .eq 12, 3) := by decide +kernel
theorem d_Mo_readStatement_265 : decode prog_12_method_48_code 265 = .ok (.aload_n 0, 1) := by decide +kernel
theorem d_Mo_readStatement_266 : decode prog_12_method_48_code 266 = .ok (.bipush 51, 2) := by decide +kernel
theorem d_Mo_readStatement_268 : decode prog_12_method_48_code 268 = .ok (.invokevirtual 338, 3) := by decide +kernel
theorem d_Mo_readStatement_271 : decode prog_12_method_48_code 271 = .ok (.ifCond .ne 5, 3) := by decide +kernel
theorem d_Mo_readStatement_274 : decode prog_12_method_48_code 274 = .ok (.iconst 0, 1) := by decide +kernel
theorem d_Mo_readStatement_275 : decode prog_12_method_48_code 275 = .ok (.ireturn, 1) := by decide +kernel
theorem d_Mo_readStatement_276 : decode prog_12_method_48_code 276 = .ok (.aload_n 0, 1) := by decide +kernel
theorem d_Mo_readStatement_277 : decode prog_12_method_48_code 277 = .ok (.getfield 145, 3) := by decide +kernel
theorem d_Mo_readStatement_280 : decode prog_12_method_48_code 280 = .ok (.iload_n 1, 1) := by decide +kernel
theorem d_Mo_readStatement_281 : decode prog_12_method_48_code 281 = .ok (.invokevirtual 200, 3) := by decide +kernel
theorem d_Mo_readStatement_284 : decode prog_12_method_48_code 284 = .ok (.iconst 1, 1) := by decide +kernel
theorem d_Mo_readStatement_285 : decode prog_12_method_48_code 285 = .ok (.ireturn, 1) := by decide +kernel
theorem d_Mo_readStatement_286 : decode prog_12_method_48_code 286 = .ok (.aload_n 0, 1) := by decide +kernel
theorem d_Mo_readStatement_287 : decode prog_12_method_48_code 287 = .ok (.iload_n 1, 1) := by decide +kernel
theorem d_Mo_readStatement_288 : decode prog_12_method_48_code 288 = .ok (.invokevirtual 297, 3) := by decide +kernel
theorem d_Mo_readStatement_291 : decode prog_12_method_48_code 291 = .ok (.ifCond .ne 5, 3) := by decide +kernel
theorem d_Mo_readStatement_294 : decode prog_12_method_48_code 294 = .ok (.iconst 0, 1) := by decide +kernel
theorem d_Mo_readStatement_295 : decode prog_12_method_48_code 295 = .ok (.ireturn, 1) := by decide +kernel
theorem d_Mo_readStatement_296 : decode prog_12_method_48_code 296 = .ok (.aload_n 0, 1) := by decide +kernel
theorem d_Mo_readStatement_297 : decode prog_12_method_48_code 297 = .ok (.getfield 145, 3) := by decide +kernel
theorem d_Mo_readStatement_300 : decode prog_12_method_48_code 300 = .ok (.iload_n 1, 1) := by decide +kernel
theorem d_Mo_readStatement_301 : decode prog_12_method_48_code 301 = .ok (.invokevirtual 200, 3) := by decide +kernel
theorem d_Mo_readStatement_304 : decode prog_12_method_48_code 304 = .ok (.iconst 1, 1) := by decide +kernel
theorem d_Mo_readStatement_305 : decode prog_12_method_48_code 305 = .ok (.ireturn, 1) := by decide +kernel
theorem d_Mo_readStatement_306 : decode prog_12_method_48_code 306 = .ok (.aload_n 0, 1) := by decide +kernel
theorem d_Mo_readStatement_307 : decode prog_12_method_48_code 307 = .ok (.invokevirtual 371, 3) := by decide +kernel
theorem d_Mo_readStatement_310 : decode prog_12_method_48_code 310 = .ok (.bipush 10, 2) := by decide +kernel
theorem d_Mo_readStatement_312 : decode prog_12_method_48_code 312 = .ok (.if_icmp .eq 8, 3) := by decide +kernel
theorem d_Mo_readStatement_315 : decode prog_12_method_48_code 315 = .ok (.aload_n 0, 1) := by decide +kernel
theorem d_Mo_readStatement_316 : decode prog_12_method_48_code 316 = .ok (.invokevirtual 278, 3) := by decide +kernel
theorem d_Mo_readStatement_319 : decode prog_12_method_48_code 319 = .ok (.ireturn, 1) := by decide +kernel
theorem d_Mo_readStatement_320 : decode prog_12_method_48_code 320 = .ok (.aload_n 0, 1) := by decide +kernel
theorem d_Mo_readStatement_321 : decode prog_12_method_48_code 321 = .ok (.dup, 1) := by decide +kernel
theorem d_Mo_readStatement_322 : decode prog_12_method_48_code 322 = .ok (.getfield 270, 3) := by decide +kernel
theorem d_Mo_readStatement_325 : decode prog_12_method_48_code 325 = .ok (.iconst 1, 1) := by decide +kernel
theorem d_Mo_readStatement_326 : decode prog_12_method_48_code 326 = .ok (.iadd, 1) := by decide +kernel
theorem d_Mo_readStatement_327 : decode prog_12_method_48_code 327 = .ok (.putfield 270, 3) := by decide +kernel
theorem d_Mo_readStatement_330 : decode prog_12_method_48_code 330 = .ok (.aload_n 0, 1) := by decide +kernel
theorem d_Mo_readStatement_331 : decode prog_12_method_48_code 331 = .ok (.invokevirtual 368, 3) := by decide +kernel
theorem d_Mo_readStatement_334 : decode prog_12_method_48_code 334 = .ok (.ireturn, 1) := by decide +kernel
theorem d_Mo_readStatement_335 : decode prog_12_method_48_code 335 = .ok (.aload_n 0, 1) := by decide +kernel
theorem d_Mo_readStatement_336 : decode prog_12_method_48_code 336 = .ok (.invokevirtual 371, 3) := by decide +kernel
theorem d_Mo_readStatement_339 : decode prog_12_method_48_code 339 = .ok (.iload_n 1, 1) := by decide +kernel
theorem d_Mo_readStatement_340 : decode prog_12_method_48_code 340 = .ok (.bipush 12, 2) := by decide +kernel
theorem d_Mo_readStatement_342 : decode prog_12_method_48_code 342 = .ok (.if_icmp .ne 8, 3) := by decide +kernel
theorem d_Mo_readStatement_345 : decode prog_12_method_48_code 345 = .ok (.bipush 10, 2) := by decide +kernel
theorem d_Mo_readStatement_347 : decode prog_12_method_48_code 347 = .ok (.goto 5, 3) := by decide +kernel
theorem d_Mo_readStatement_350 : decode prog_12_method_48_code 350 = .ok (.bipush 22, 2) := by decide +kernel
theorem d_Mo_readStatement_352 : decode prog_12_method_48_code 352 = .ok (.if_icmp .eq 8, 3) := by decide +kernel
theorem d_Mo_readStatement_355 : decode prog_12_method_48_code 355 = .ok (.aload_n 0, 1) := by decide +kernel
theorem d_Mo_readStatement_356 : decode prog_12_method_48_code 356 = .ok (.invokevirtual 278, 3) := by decide +kernel
theorem d_Mo_readStatement_359 : decode prog_12_method_48_code 359 = .ok (.ireturn, 1) := by decide +kernel
theorem d_Mo_readStatement_360 : decode prog_12_method_48_code 360 = .ok (.aload_n 0, 1) := by decide +kernel
theorem d_Mo_readStatement_361 : decode prog_12_method_48_code 361 = .ok (.dup, 1) := by decide +kernel
theorem d_Mo_readStatement_362 : decode prog_12_method_48_code 362 = .ok (.getfield 270, 3) := by decide +kernel
theorem d_Mo_readStatement_365 : decode prog_12_method_48_code 365 = .ok (.iconst 1, 1) := by decide +kernel
theorem d_Mo_readStatement_366 : decode prog_12_method_48_code 366 = .ok (.iadd, 1) := by decide +kernel
theorem d_Mo_readStatement_367 : decode prog_12_method_48_code 367 = .ok (.putfield 270, 3) := by decide +kernel
theorem d_Mo_readStatement_370 : decode prog_12_method_48_code 370 = .ok (.aload_n 0, 1) := by decide +kernel
theorem d_Mo_readStatement_371 : decode prog_12_method_48_code 371 = .ok (.getfield 145, 3) := by decide +kernel
theorem d_Mo_readStatement_374 : decode prog_12_method_48_code 374 = .ok (.iconst 1, 1) := by decide +kernel
theorem d_Mo_readStatement_375 : decode prog_12_method_48_code 375 = .ok (.invokevirtual 211, 3) := by decide +kernel
theorem d_Mo_readStatement_378 : decode prog_12_method_48_code 378 = .ok (.aload_n 0, 1) := by decide +kernel
theorem d_Mo_readStatement_379 : decode prog_12_method_48_code 379 = .ok (.getfield 145, 3) := by decide +kernel
theorem d_Mo_readStatement_382 : decode prog_12_method_48_code 382 = .ok (.iload_n 1, 1) := by decide +kernel
theorem d_Mo_readStatement_383 : decode prog_12_method_48_code 383 = .ok (.invokevirtual 200, 3) := by decide +kernel
theorem d_Mo_readStatement_386 : decode prog_12_method_48_code 386 = .ok (.iconst 1, 1) := by decide +kernel
theorem d_Mo_readStatement_387 : decode prog_12_method_48_code 387 = .ok (.ireturn, 1) := by decide +kernel
theorem d_Mo_readStatement_388 : decode prog_12_method_48_code 388 = .ok (.aload_n 0, 1) := by decide +kernel
theorem d_Mo_readStatement_389 : decode prog_12_method_48_code 389 = .ok (.invokevirtual 371, 3) := by decide +kernel
theorem d_Mo_readStatement_392 : decode prog_12_method_48_code 392 = .ok (.iconst (-1), 1) := by decide +kernel
theorem d_Mo_readStatement_393 : decode prog_12_method_48_code 393 = .ok (.if_icmp .eq 12, 3) := by decide +kernel
theorem d_Mo_readStatement_396 : decode prog_12_method_48_code 396 = .ok (.aload_n 0, 1) := by decide +kernel
theorem d_Mo_readStatement_397 : decode prog_12_method_48_code 397 = .ok (.invokevirtual 371, 3) := by decide +kernel
theorem d_Mo_readStatement_400 : decode prog_12_method_48_code 400 = .ok (.bipush 22, 2) := by decide +kernel
theorem d_Mo_readStatement_402 : decode prog_12_method_48_code 402 = .ok (.if_icmp .ne 8, 3) := by decide +kernel
theorem d_Mo_readStatement_405 : decode prog_12_method_48_code 405 = .ok (.aload_n 0, 1) := by decide +kernel
theorem d_Mo_readStatement_406 : decode prog_12_method_48_code 406 = .ok (.invokevirtual 278, 3) := by decide +kernel
theorem d_Mo_readStatement_409 : decode prog_12_method_48_code 409 = .ok (.ireturn, 1) := by decide +kernel
theorem d_Mo_readStatement_410 : decode prog_12_method_48_code 410 = .ok (.aload_n 0, 1) := by decide +kernel
theorem d_Mo_readStatement_411 : decode prog_12_method_48_code 411 = .ok (.dup, 1) := by decide +kernel
theorem d_Mo_readStatement_412 : decode prog_12_method_48_code 412 = .ok (.getfield 270, 3) := by decide +kernel
theorem d_Mo_readStatement_415 : decode prog_12_method_48_code 415 = .ok (.iconst 1, 1) := by decide +kernel
theorem d_Mo_readStatement_416 : decode prog_12_method_48_code 416 = .ok (.iadd, 1) := by decide +kernel
theorem d_Mo_readStatement_417 : decode prog_12_method_48_code 417 = .ok (.putfield 270, 3) := by decide +kernel
theorem d_Mo_readStatement_420 : decode prog_12_method_48_code 420 = .ok (.aload_n 0, 1) := by decide +kernel
theorem d_Mo_readStatement_421 : decode prog_12_method_48_code 421 = .ok (.dup, 1) := by decide +kernel
theorem d_Mo_readStatement_422 : decode prog_12_method_48_code 422 = .ok (.getfield 282, 3) := by decide +kernel
theorem d_Mo_readStatement_425 : decode prog_12_method_48_code 425 = .ok (.iconst 1, 1) := by decide +kernel
theorem d_Mo_readStatement_426 : decode prog_12_method_48_code 426 = .ok (.isub, 1) := by decide +kernel
theorem d_Mo_readStatement_427 : decode prog_12_method_48_code 427 = .ok (.putfield 282, 3) := by decide +kernel
theorem d_Mo_readStatement_430 : decode prog_12_method_48_code 430 = .ok (.aload_n 0, 1) := by decide +kernel
theorem d_Mo_readStatement_431 : decode prog_12_method_48_code 431 = .ok (.getfield 145, 3) := by decide +kernel
theorem d_Mo_readStatement_434 : decode prog_12_method_48_code 434 = .ok (.iconst 1, 1) := by decide +kernel
theorem d_Mo_readStatement_435 : decode prog_12_method_48_code 435 = .ok (.invokevirtual 211, 3) := by decide +kernel
theorem d_Mo_readStatement_438 : decode prog_12_method_48_code 438 = .ok (.iconst 1, 1) := by decide +kernel
theorem d_Mo_readStatement_439 : decode prog_12_method_48_code 439 = .ok (.ireturn, 1) := by decide +kernel
theorem d_Mo_readStatement_440 : decode prog_12_method_48_code 440 = .ok (.aload_n 0, 1) := by decide +kernel
theorem d_Mo_readStatement_441 : decode prog_12_method_48_code 441 = .ok (.invokevirtual 374, 3) := by decide +kernel
theorem d_Mo_readStatement_444 : decode prog_12_method_48_code 444 = .ok (.ifCond .ne 8, 3) := by decide +kernel
theorem d_Mo_readStatement_447 : decode prog_12_method_48_code 447 = .ok (.aload_n 0, 1) := by decide +kernel
theorem d_Mo_readStatement_448 : decode prog_12_method_48_code 448 = .ok (.invokevirtual 278, 3) := by decide +kernel
theorem d_Mo_readStatement_451 : decode prog_12_method_48_code 451 = .ok (.ireturn, 1) := by decide +kernel
theorem d_Mo_readStatement_452 : decode prog_12_method_48_code 452 = .ok (.aload_n 0, 1) := by decide +kernel
theorem d_Mo_readStatement_453 : decode prog_12_method_48_code 453 = .ok (.dup, 1) := by decide +kernel
theorem d_Mo_readStatement_454 : decode prog_12_method_48_code 454 = .ok (.getfield 270, 3) := by decide +kernel
theorem d_Mo_readStatement_457 : decode prog_12_method_48_code 457 = .ok (.iconst 1, 1) := by decide +kernel
theorem d_Mo_readStatement_458 : decode prog_12_method_48_code 458 = .ok (.iadd, 1) := by decide +kernel
theorem d_Mo_readStatement_459 : decode prog_12_method_48_code 459 = .ok (.putfield 270, 3) := by decide +kernel
theorem d_Mo_readStatement_462 : decode prog_12_method_48_code 462 = .ok (.aload_n 0, 1) := by decide +kernel
theorem d_Mo_readStatement_463 : decode prog_12_method_48_code 463 = .ok (.bipush 55, 2) := by decide +kernel
theorem d_Mo_readStatement_465 : decode prog_12_method_48_code 465 = .ok (.invokevirtual 285, 3) := by decide +kernel
theorem d_Mo_readStatement_468 : decode prog_12_method_48_code 468 = .ok (.ireturn, 1) := by decide +kernel
theorem d_Mo_readStatement_469 : decode prog_12_method_48_code 469 = .ok (.aload_n 0, 1) := by decide +kernel
theorem d_Mo_readStatement_470 : decode prog_12_method_48_code 470 = .ok (.dup, 1) := by decide +kernel
theorem d_Mo_readStatement_471 : decode prog_12_method_48_code 471 = .ok (.getfield 270, 3) := by decide +kernel
theorem d_Mo_readStatement_474 : decode prog_12_method_48_code 474 = .ok (.iconst 1, 1) := by decide +kernel
theorem d_Mo_readStatement_475 : decode prog_12_method_48_code 475 = .ok (.iadd, 1) := by decide +kernel
theorem d_Mo_readStatement_476 : decode prog_12_method_48_code 476 = .ok (.putfield 270, 3) := by decide +kernel
theorem d_Mo_readStatement_479 : decode prog_12_method_48_code 479 = .ok (.aload_n 0, 1) := by decide +kernel
theorem d_Mo_readStatement_480 : decode prog_12_method_48_code 480 = .ok (.bipush 55, 2) := by decide +kernel
theorem d_Mo_readStatement_482 : decode prog_12_method_48_code 482 = .ok (.invokevirtual 285, 3) := by decide +kernel
theorem d_Mo_readStatement_485 : decode prog_12_method_48_code 485 = .ok (.ireturn, 1) := by decide +kernel
theorem d_Mo_readStatement_486 : decode prog_12_method_48_code 486 = .ok (.aload_n 0, 1) := by decide +kernel
theorem d_Mo_readStatement_487 : decode prog_12_method_48_code 487 = .ok (.dup, 1) := by decide +kernel
theorem d_Mo_readStatement_488 : decode prog_12_method_48_code 488 = .ok (.getfield 270, 3) := by decide +kernel
theorem d_Mo_readStatement_491 : decode prog_12_method_48_code 491 = .ok (.iconst 1, 1) := by decide +kernel
theorem d_Mo_readStatement_492 : decode prog_12_method_48_code 492 = .ok (.iadd, 1) := by decide +kernel
theorem d_Mo_readStatement_493 : decode prog_12_method_48_code 493 = .ok (.putfield 270, 3) := by decide +kernel
theorem d_Mo_readStatement_496 : decode prog_12_method_48_code 496 = .ok (.aload_n 0, 1) := by decide +kernel
theorem d_Mo_readStatement_497 : decode prog_12_method_48_code 497 = .ok (.invokevirtual 344, 3) := by decide +kernel
theorem d_Mo_readStatement_500 : decode prog_12_method_48_code 500 = .ok (.ifCond .eq 16, 3) := by decide +kernel
theorem d_Mo_readStatement_503 : decode prog_12_method_48_code 503 = .ok (.aload_n 0, 1) := by decide +kernel
theorem d_Mo_readStatement_504 : decode prog_12_method_48_code 504 = .ok (.bipush 55, 2) := by decide +kernel
theorem d_Mo_readStatement_506 : decode prog_12_method_48_code 506 = .ok (.invokevirtual 285, 3) := by decide +kernel
theorem d_Mo_readStatement_509 : decode prog_12_method_48_code 509 = .ok (.ifCond .eq 7, 3) := by decide +kernel
theorem d_Mo_readStatement_512 : decode prog_12_method_48_code 512 = .ok (.iconst 1, 1) := by decide +kernel
theorem d_Mo_readStatement_513 : decode prog_12_method_48_code 513 = .ok (.goto 4, 3) := by decide +kernel
theorem d_Mo_readStatement_516 : decode prog_12_method_48_code 516 = .ok (.iconst 0, 1) := by decide +kernel
theorem d_Mo_readStatement_517 : decode prog_12_method_48_code 517 = .ok (.ireturn, 1) := by decide +kernel
theorem d_Mo_readStatement_518 : decode prog_12_method_48_code 518 = .ok (.aload_n 0, 1) := by decide +kernel
theorem d_Mo_readStatement_519 : decode prog_12_method_48_code 519 = .ok (.invokevirtual 377, 3) := by decide +kernel
theorem d_Mo_readStatement_522 : decode prog_12_method_48_code 522 = .ok (.ifCond .eq 16, 3) := by decide +kernel
theorem d_Mo_readStatement_525 : decode prog_12_method_48_code 525 = .ok (.aload_n 0, 1) := by decide +kernel
theorem d_Mo_readStatement_526 : decode prog_12_method_48_code 526 = .ok (.bipush 55, 2) := by decide +kernel
theorem d_Mo_readStatement_528 : decode prog_12_method_48_code 528 = .ok (.invokevirtual 285, 3) := by decide +kernel
theorem d_Mo_readStatement_531 : decode prog_12_method_48_code 531 = .ok (.ifCond .eq 7, 3) := by decide +kernel
theorem d_Mo_readStatement_534 : decode prog_12_method_48_code 534 = .ok (.iconst 1, 1) := by decide +kernel
theorem d_Mo_readStatement_535 : decode prog_12_method_48_code 535 = .ok (.goto 4, 3) := by decide +kernel
theorem d_Mo_readStatement_538 : decode prog_12_method_48_code 538 = .ok (.iconst 0, 1) := by decide +kernel
theorem d_Mo_readStatement_539 : decode prog_12_method_48_code 539 = .ok (.ireturn, 1) := by decide +kernel
theorem d_Mo_readStatement_540 : decode prog_12_method_48_code 540 = .ok (.aload_n 0, 1) := by decide +kernel
theorem d_Mo_readStatement_541 : decode prog_12_method_48_code 541 = .ok (.invokevirtual 362, 3) := by decide +kernel
theorem d_Mo_readStatement_544 : decode prog_12_method_48_code 544 = .ok (.ifCond .eq 16, 3) := by decide +kernel
theorem d_Mo_readStatement_547 : decode prog_12_method_48_code 547 = .ok (.aload_n 0, 1) := by decide +kernel
theorem d_Mo_readStatement_548 : decode prog_12_method_48_code 548 = .ok (.bipush 55, 2) := by decide +kernel
theorem d_Mo_readStatement_550 : decode prog_12_method_48_code 550 = .ok (.invokevirtual 285, 3) := by decide +kernel
theorem d_Mo_readStatement_553 : decode prog_12_method_48_code 553 = .ok (.ifCond .eq 7, 3) := by decide +kernel
theorem d_Mo_readStatement_556 : decode prog_12_method_48_code 556 = .ok (.iconst 1, 1) := by decide +kernel
theorem d_Mo_readStatement_557 : decode prog_12_method_48_code 557 = .ok (.goto 4, 3) := by decide +kernel
theorem d_Mo_readStatement_560 : decode prog_12_method_48_code 560 = .ok (.iconst 0, 1) := by decide +kernel
theorem d_Mo_readStatement_561 : decode prog_12_method_48_code 561 = .ok (.ireturn, 1) := by decide +kernel
set_option maxHeartbeats 4000000 in
set_option maxRecDepth 100000 in
theorem L_Mo_readStatement_352 (l : Launch) (D : va_G) (cI cB cJ cS : ClassId) (h0 : Nat) (am : Nat → Nat) (a_all_m5 : Nat) (a_all_m20 : Nat) (a_all_m21 : Nat) (a_all_m7 : Nat) (a_all_m6 : Nat) (a_all_m4 : Nat) (a_all_m22 : Nat) (known_h0 : Int32) (thrown_h0 : Int32) (wrong_h0 : Int32) (lastEnd_h0 : Int32) (at_h0 : Int32) (bad_h0 : Int32) (levels_h0 : Int32) (least_h0 : Int32) (found_h0 : Int32) (size_m5 : Int32) (n_a_all_m5 : Nat) (b_a_all_m5 : Nat → Int32) (size_m20 : Int32) (n_a_all_m20 : Nat) (b_a_all_m20 : Nat → Int32) (n_m2 : Nat) (b_m2 : Nat → Int32) (size_m21 : Int32) (n_a_all_m21 : Nat) (b_a_all_m21 : Nat → Int32) (size_m7 : Int32) (n_a_all_m7 : Nat) (b_a_all_m7 : Nat → Int32) (size_m6 : Int32) (n_a_all_m6 : Nat) (b_a_all_m6 : Nat → Int32) (size_m4 : Int32) (n_a_all_m4 : Nat) (b_a_all_m4 : Nat → Int32) (size_m22 : Int32) (n_a_all_m22 : Nat) (b_a_all_m22 : Nat → Int32) (ret : Int32) (o_0_17 : Int32) (o_0_18 : Int32) (o_0_19 : Int32) (o_0_23 : Int32) (o_3_1 : Int32) (o_6_1 : Int32) (o_14_1 : Int32) (on_nq_3_0 : Nat) (ob_nq_3_0 : Nat → Int32) (on_nq_6_0 : Nat) (ob_nq_6_0 : Nat → Int32) (on_nq_14_0 : Nat) (ob_nq_14_0 : Nat → Int32) (mc ms : Nat) (p : Program) (e : Env) (s : State) (m : MethodId) (below : List Frame) (meth : Method) (c : Code) (hr : meth.sig.returnType = (Option.some Jvm.ClassFile.FieldType.boolean)) (hnm : meth.name = y_Mo_readStatement.name) : ∀ (t0_352 : Int32) (t1_352 : Int32) (cl_352 sl_352 C_352 S_352 : Nat), F_Mo_readStatement_352 at_h0 bad_h0 levels_h0 least_h0 b_a_all_m5 size_m20 n_a_all_m20 b_a_all_m20 size_m21 n_a_all_m21 b_a_all_m21 size_m22 n_a_all_m22 b_a_all_m22   t0_352 t1_352 = some ((ret, o_0_17, o_0_18, o_0_19, o_0_23, o_3_1, o_6_1, o_14_1, on_nq_3_0, ob_nq_3_0, on_nq_6_0, ob_nq_6_0, on_nq_14_0, ob_nq_14_0), C_352, S_352) → cl_352 + C_352 ≤ mc → sl_352 + S_352 ≤ ms → J (KxOf p l e { frames := 8, cells := mc, slots := ms, locals := 176 } s m [.ref h0].toArray below meth c D (gT cI cB cJ cS) [(h0, .inr (9, moF am known_h0 thrown_h0 wrong_h0 lastEnd_h0 at_h0 bad_h0 levels_h0 least_h0 found_h0)), ((am 5), .inr (8, [.ref a_all_m5, .int size_m5])), (a_all_m5, .inl (cI, n_a_all_m5, .inl b_a_all_m5)), ((am 20), .inr (8, [.ref a_all_m20, .int size_m20])), (a_all_m20, .inl (cI, n_a_all_m20, .inl b_a_all_m20)), ((am 2), .inl (cI, n_m2, .inl b_m2)), ((am 21), .inr (8, [.ref a_all_m21, .int size_m21])), (a_all_m21, .inl (cI, n_a_all_m21, .inl b_a_all_m21)), ((am 7), .inr (8, [.ref a_all_m7, .int size_m7])), (a_all_m7, .inl (cI, n_a_all_m7, .inl b_a_all_m7)), ((am 6), .inr (8, [.ref a_all_m6, .int size_m6])), (a_all_m6, .inl (cI, n_a_all_m6, .inl b_a_all_m6)), ((am 4), .inr (8, [.ref a_all_m4, .int size_m4])), (a_all_m4, .inl (cI, n_a_all_m4, .inl b_a_all_m4)), ((am 22), .inr (8, [.ref a_all_m22, .int size_m22])), (a_all_m22, .inl (cI, n_a_all_m22, .inl b_a_all_m22))] (fun v w => ∃ nq_3_0 : Nat, ∃ nq_6_0 : Nat, ∃ nq_14_0 : Nat, v = some (.int ret) ∧ zb ret ∧ w = [(h0, .inr (9, moF am known_h0 thrown_h0 wrong_h0 lastEnd_h0 o_0_17 o_0_18 o_0_19 o_0_23 found_h0)), ((am 5), .inr (8, [.ref a_all_m5, .int size_m5])), (a_all_m5, .inl (cI, n_a_all_m5, .inl b_a_all_m5)), ((am 20), .inr (8, [.ref nq_3_0, .int o_3_1])), ((am 2), .inl (cI, n_m2, .inl b_m2)), ((am 21), .inr (8, [.ref nq_6_0, .int o_6_1])), ((am 7), .inr (8, [.ref a_all_m7, .int size_m7])), (a_all_m7, .inl (cI, n_a_all_m7, .inl b_a_all_m7)), ((am 6), .inr (8, [.ref a_all_m6, .int size_m6])), (a_all_m6, .inl (cI, n_a_all_m6, .inl b_a_all_m6)), ((am 4), .inr (8, [.ref a_all_m4, .int size_m4])), (a_all_m4, .inl (cI, n_a_all_m4, .inl b_a_all_m4)), ((am 22), .inr (8, [.ref nq_14_0, .int o_14_1])), (nq_3_0, .inl (cI, on_nq_3_0, .inl ob_nq_3_0)), (nq_6_0, .inl (cI, on_nq_6_0, .inl ob_nq_6_0)), (nq_14_0, .inl (cI, on_nq_14_0, .inl ob_nq_14_0))]) mc ms) prog_12_method_48_code 2 R_Mo 352 [(1, .int (b_a_all_m5 (Int32.toNatClampNeg at_h0))), (0, .ref h0)] [.int t0_352, .int t1_352] [((am 20), .inr (8, [.ref a_all_m20, .int size_m20])), (a_all_m20, .inl (cI, n_a_all_m20, .inl b_a_all_m20)), ((am 2), .inl (cI, n_m2, .inl b_m2)), ((am 7), .inr (8, [.ref a_all_m7, .int size_m7])), (a_all_m7, .inl (cI, n_a_all_m7, .inl b_a_all_m7)), ((am 6), .inr (8, [.ref a_all_m6, .int size_m6])), (a_all_m6, .inl (cI, n_a_all_m6, .inl b_a_all_m6)), ((am 4), .inr (8, [.ref a_all_m4, .int size_m4])), (a_all_m4, .inl (cI, n_a_all_m4, .inl b_a_all_m4)), ((am 22), .inr (8, [.ref a_all_m22, .int size_m22])), (a_all_m22, .inl (cI, n_a_all_m22, .inl b_a_all_m22)), ((am 5), .inr (8, [.ref a_all_m5, .int size_m5])), (a_all_m5, .inl (cI, n_a_all_m5, .inl b_a_all_m5)), (h0, .inr (9, moF am known_h0 thrown_h0 wrong_h0 lastEnd_h0 at_h0 bad_h0 levels_h0 least_h0 found_h0)), ((am 21), .inr (8, [.ref a_all_m21, .int size_m21])), (a_all_m21, .inl (cI, n_a_all_m21, .inl b_a_all_m21))] cl_352 sl_352 := by
  intro t0_352 t1_352 cl_352 sl_352 C_352 S_352 h hC hS
  unfold F_Mo_readStatement_352 at h
  refine j_icmp_eq (tgt := 360) d_Mo_readStatement_352 (by decide) (fun c1 => ?_) (fun c1 => ?_)
  · replace h := it_t c1 h
    refine j_aload_n d_Mo_readStatement_360 rfl 1 rfl ?_
    refine j_dup rfl d_Mo_readStatement_361 ?_
    refine j_get ig_Mo rfl 13 rfl 17 (by decide) rfl m_1130 rfl d_Mo_readStatement_362 ?_
    refine j_iconst (v := 1) d_Mo_readStatement_365 (by decide) ?_
    refine j_iadd d_Mo_readStatement_366 ?_
    refine j_put (ws' := [((am 20), .inr (8, [.ref a_all_m20, .int size_m20])), (a_all_m20, .inl (cI, n_a_all_m20, .inl b_a_all_m20)), ((am 2), .inl (cI, n_m2, .inl b_m2)), ((am 7), .inr (8, [.ref a_all_m7, .int size_m7])), (a_all_m7, .inl (cI, n_a_all_m7, .inl b_a_all_m7)), ((am 6), .inr (8, [.ref a_all_m6, .int size_m6])), (a_all_m6, .inl (cI, n_a_all_m6, .inl b_a_all_m6)), ((am 4), .inr (8, [.ref a_all_m4, .int size_m4])), (a_all_m4, .inl (cI, n_a_all_m4, .inl b_a_all_m4)), ((am 22), .inr (8, [.ref a_all_m22, .int size_m22])), (a_all_m22, .inl (cI, n_a_all_m22, .inl b_a_all_m22)), ((am 5), .inr (8, [.ref a_all_m5, .int size_m5])), (a_all_m5, .inl (cI, n_a_all_m5, .inl b_a_all_m5)), (h0, .inr (9, moF am known_h0 thrown_h0 wrong_h0 lastEnd_h0 (at_h0 + 1) bad_h0 levels_h0 least_h0 found_h0)), ((am 21), .inr (8, [.ref a_all_m21, .int size_m21])), (a_all_m21, .inl (cI, n_a_all_m21, .inl b_a_all_m21))]) ig_Mo tk_Mo nm_Mo rfl 13 rfl 17 (by decide) rfl m_1130 rfl (tk_Mo 17 (by decide)) rfl rfl (Nat.le_of_ble_eq_true rfl) d_Mo_readStatement_367 rfl ?_
    refine j_aload_n d_Mo_readStatement_370 rfl 1 rfl ?_
    refine j_get ig_Mo rfl 13 rfl 21 (by decide) rfl m_1134 rfl d_Mo_readStatement_371 ?_
    refine j_iconst (v := 1) d_Mo_readStatement_374 (by decide) ?_
    refine j_callV (n := 1) (As := [.int 1]) (rest := []) (wr := [((am 20), .inr (8, [.ref a_all_m20, .int size_m20])), (a_all_m20, .inl (cI, n_a_all_m20, .inl b_a_all_m20)), ((am 2), .inl (cI, n_m2, .inl b_m2)), ((am 7), .inr (8, [.ref a_all_m7, .int size_m7])), (a_all_m7, .inl (cI, n_a_all_m7, .inl b_a_all_m7)), ((am 6), .inr (8, [.ref a_all_m6, .int size_m6])), (a_all_m6, .inl (cI, n_a_all_m6, .inl b_a_all_m6)), ((am 4), .inr (8, [.ref a_all_m4, .int size_m4])), (a_all_m4, .inl (cI, n_a_all_m4, .inl b_a_all_m4)), ((am 22), .inr (8, [.ref a_all_m22, .int size_m22])), (a_all_m22, .inl (cI, n_a_all_m22, .inl b_a_all_m22)), ((am 5), .inr (8, [.ref a_all_m5, .int size_m5])), (a_all_m5, .inl (cI, n_a_all_m5, .inl b_a_all_m5)), (h0, .inr (9, moF am known_h0 thrown_h0 wrong_h0 lastEnd_h0 (at_h0 + 1) bad_h0 levels_h0 least_h0 found_h0)), (a_all_m21, .inl (cI, n_a_all_m21, .inl b_a_all_m21))]) (c_Nm_drop l D cI cB cJ cS (am 21) a_all_m21 1 size_m21  ) k_Mo_211 (by decide) ⟨Nat.le_of_ble_eq_true rfl, Nat.le_of_ble_eq_true rfl⟩ rfl 0 rfl [14] [0, 1, 2, 3, 4, 5, 6, 7, 8, 9, 10, 11, 12, 13, 15] rfl (by decide +kernel) rfl (by decide +kernel) (by decide +kernel) rfl rfl (Nat.le_of_ble_eq_true rfl) d_Mo_readStatement_375 ⟨show cl_352 + 0 ≤ mc by omega, show sl_352 + 0 ≤ ms by omega⟩ (fun v w hq => ?_)
    obtain ⟨rfl, rfl⟩ := hq
    refine j_norm (pc' := 378) (st' := []) (ws' := [((am 20), .inr (8, [.ref a_all_m20, .int size_m20])), (a_all_m20, .inl (cI, n_a_all_m20, .inl b_a_all_m20)), ((am 2), .inl (cI, n_m2, .inl b_m2)), ((am 7), .inr (8, [.ref a_all_m7, .int size_m7])), (a_all_m7, .inl (cI, n_a_all_m7, .inl b_a_all_m7)), ((am 6), .inr (8, [.ref a_all_m6, .int size_m6])), (a_all_m6, .inl (cI, n_a_all_m6, .inl b_a_all_m6)), ((am 4), .inr (8, [.ref a_all_m4, .int size_m4])), (a_all_m4, .inl (cI, n_a_all_m4, .inl b_a_all_m4)), ((am 22), .inr (8, [.ref a_all_m22, .int size_m22])), (a_all_m22, .inl (cI, n_a_all_m22, .inl b_a_all_m22)), ((am 5), .inr (8, [.ref a_all_m5, .int size_m5])), (a_all_m5, .inl (cI, n_a_all_m5, .inl b_a_all_m5)), (h0, .inr (9, moF am known_h0 thrown_h0 wrong_h0 lastEnd_h0 (at_h0 + 1) bad_h0 levels_h0 least_h0 found_h0)), (a_all_m21, .inl (cI, n_a_all_m21, .inl b_a_all_m21)), ((am 21), .inr (8, [.ref a_all_m21, .int (size_m21 - 1)]))]) (cl' := cl_352) (sl' := sl_352) rfl rfl rfl rfl rfl rfl ?_
    refine j_aload_n d_Mo_readStatement_378 rfl 1 rfl ?_
    refine j_get ig_Mo rfl 13 rfl 21 (by decide) rfl m_1134 rfl d_Mo_readStatement_379 ?_
    refine j_iload_n d_Mo_readStatement_382 rfl 0 rfl ?_
    replace h := bw_s h
    obtain ⟨⟨r3, r4⟩, C6, S7, C8, S9, k10, h, e1, e2⟩ := h
    replace hC : cl_352 + C6 + C8 ≤ mc := by omega
    replace hS : sl_352 + S7 + S9 ≤ ms := by omega
    clear e1 e2
    refine j_callV (n := 1) (As := [.int (b_a_all_m5 (Int32.toNatClampNeg at_h0))]) (rest := []) (wr := [((am 20), .inr (8, [.ref a_all_m20, .int size_m20])), (a_all_m20, .inl (cI, n_a_all_m20, .inl b_a_all_m20)), ((am 2), .inl (cI, n_m2, .inl b_m2)), ((am 7), .inr (8, [.ref a_all_m7, .int size_m7])), (a_all_m7, .inl (cI, n_a_all_m7, .inl b_a_all_m7)), ((am 6), .inr (8, [.ref a_all_m6, .int size_m6])), (a_all_m6, .inl (cI, n_a_all_m6, .inl b_a_all_m6)), ((am 4), .inr (8, [.ref a_all_m4, .int size_m4])), (a_all_m4, .inl (cI, n_a_all_m4, .inl b_a_all_m4)), ((am 22), .inr (8, [.ref a_all_m22, .int size_m22])), (a_all_m22, .inl (cI, n_a_all_m22, .inl b_a_all_m22)), ((am 5), .inr (8, [.ref a_all_m5, .int size_m5])), (a_all_m5, .inl (cI, n_a_all_m5, .inl b_a_all_m5)), (h0, .inr (9, moF am known_h0 thrown_h0 wrong_h0 lastEnd_h0 (at_h0 + 1) bad_h0 levels_h0 least_h0 found_h0))]) (c_Nm_add l D cI cB cJ cS (am 21) a_all_m21 (b_a_all_m5 (Int32.toNatClampNeg at_h0)) (size_m21 - 1) n_a_all_m21 b_a_all_m21  r3 r4 C6 S7 k10) k_Mo_200 (by decide) ⟨Nat.le_of_ble_eq_true rfl, Nat.le_of_ble_eq_true rfl⟩ rfl 0 rfl [15, 14] [0, 1, 2, 3, 4, 5, 6, 7, 8, 9, 10, 11, 12, 13] rfl (by decide +kernel) rfl (by decide +kernel) (by decide +kernel) rfl rfl (Nat.le_of_ble_eq_true rfl) d_Mo_readStatement_383 ⟨show cl_352 + C6 ≤ mc by omega, show sl_352 + S7 ≤ ms by omega⟩ (fun v w hq => ?_)
    obtain ⟨q5, rfl, rfl⟩ := hq
    refine j_norm (pc' := 386) (st' := []) (ws' := [((am 20), .inr (8, [.ref a_all_m20, .int size_m20])), (a_all_m20, .inl (cI, n_a_all_m20, .inl b_a_all_m20)), ((am 2), .inl (cI, n_m2, .inl b_m2)), ((am 7), .inr (8, [.ref a_all_m7, .int size_m7])), (a_all_m7, .inl (cI, n_a_all_m7, .inl b_a_all_m7)), ((am 6), .inr (8, [.ref a_all_m6, .int size_m6])), (a_all_m6, .inl (cI, n_a_all_m6, .inl b_a_all_m6)), ((am 4), .inr (8, [.ref a_all_m4, .int size_m4])), (a_all_m4, .inl (cI, n_a_all_m4, .inl b_a_all_m4)), ((am 22), .inr (8, [.ref a_all_m22, .int size_m22])), (a_all_m22, .inl (cI, n_a_all_m22, .inl b_a_all_m22)), ((am 5), .inr (8, [.ref a_all_m5, .int size_m5])), (a_all_m5, .inl (cI, n_a_all_m5, .inl b_a_all_m5)), (h0, .inr (9, moF am known_h0 thrown_h0 wrong_h0 lastEnd_h0 (at_h0 + 1) bad_h0 levels_h0 least_h0 found_h0)), ((am 21), .inr (8, [.ref q5, .int ((size_m21 - 1) + 1)])), (q5, .inl (cI, r3, .inl r4))]) (cl' := cl_352 + C6) (sl' := sl_352 + S7) rfl rfl rfl rfl rfl rfl ?_
    refine j_iconst (v := 1) d_Mo_readStatement_386 (by decide) ?_
    replace h := lf_s h
    obtain ⟨h, e1, e2⟩ := h
    replace h := Prod.mk.inj h
    obtain ⟨h9, h⟩ := h
    subst h9
    replace h := Prod.mk.inj h
    obtain ⟨h9, h⟩ := h
    subst h9
    replace h := Prod.mk.inj h
    obtain ⟨h9, h⟩ := h
    subst h9
    replace h := Prod.mk.inj h
    obtain ⟨h9, h⟩ := h
    subst h9
    replace h := Prod.mk.inj h
    obtain ⟨h9, h⟩ := h
    subst h9
    replace h := Prod.mk.inj h
    obtain ⟨h9, h⟩ := h
    subst h9
    replace h := Prod.mk.inj h
    obtain ⟨h9, h⟩ := h
    subst h9
    replace h := Prod.mk.inj h
    obtain ⟨h9, h⟩ := h
    subst h9
    replace h := Prod.mk.inj h
    obtain ⟨h9, h⟩ := h
    subst h9
    replace h := Prod.mk.inj h
    obtain ⟨h9, h⟩ := h
    subst h9
    replace h := Prod.mk.inj h
    obtain ⟨h9, h⟩ := h
    subst h9
    replace h := Prod.mk.inj h
    obtain ⟨h9, h⟩ := h
    subst h9
    replace h := Prod.mk.inj h
    obtain ⟨h9, h⟩ := h
    subst h9
    subst h
    refine j_widen (cl' := mc) (sl' := ms) (by omega) (by omega) ?_
    exact j_zret (w := [(h0, .inr (9, moF am known_h0 thrown_h0 wrong_h0 lastEnd_h0 (at_h0 + 1) bad_h0 levels_h0 least_h0 found_h0)), ((am 5), .inr (8, [.ref a_all_m5, .int size_m5])), (a_all_m5, .inl (cI, n_a_all_m5, .inl b_a_all_m5)), ((am 20), .inr (8, [.ref a_all_m20, .int size_m20])), ((am 2), .inl (cI, n_m2, .inl b_m2)), ((am 21), .inr (8, [.ref q5, .int ((size_m21 - 1) + 1)])), ((am 7), .inr (8, [.ref a_all_m7, .int size_m7])), (a_all_m7, .inl (cI, n_a_all_m7, .inl b_a_all_m7)), ((am 6), .inr (8, [.ref a_all_m6, .int size_m6])), (a_all_m6, .inl (cI, n_a_all_m6, .inl b_a_all_m6)), ((am 4), .inr (8, [.ref a_all_m4, .int size_m4])), (a_all_m4, .inl (cI, n_a_all_m4, .inl b_a_all_m4)), ((am 22), .inr (8, [.ref a_all_m22, .int size_m22])), (a_all_m20, .inl (cI, n_a_all_m20, .inl b_a_all_m20)), (q5, .inl (cI, r3, .inl r4)), (a_all_m22, .inl (cI, n_a_all_m22, .inl b_a_all_m22))]) hr (zb_n zb1) d_Mo_readStatement_387 [13, 11, 12, 0, 2, 14, 3, 4, 5, 6, 7, 8, 9, 1, 15, 10] rfl (by decide) ⟨a_all_m20, q5, a_all_m22, rfl, zb1, rfl⟩
  · replace h := it_f c1 h
    refine j_aload_n d_Mo_readStatement_355 rfl 1 rfl ?_
    refine j_callV (n := 0) (As := []) (rest := []) (wr := [((am 20), .inr (8, [.ref a_all_m20, .int size_m20])), (a_all_m20, .inl (cI, n_a_all_m20, .inl b_a_all_m20)), ((am 2), .inl (cI, n_m2, .inl b_m2)), ((am 7), .inr (8, [.ref a_all_m7, .int size_m7])), (a_all_m7, .inl (cI, n_a_all_m7, .inl b_a_all_m7)), ((am 6), .inr (8, [.ref a_all_m6, .int size_m6])), (a_all_m6, .inl (cI, n_a_all_m6, .inl b_a_all_m6)), ((am 4), .inr (8, [.ref a_all_m4, .int size_m4])), (a_all_m4, .inl (cI, n_a_all_m4, .inl b_a_all_m4)), ((am 22), .inr (8, [.ref a_all_m22, .int size_m22])), (a_all_m22, .inl (cI, n_a_all_m22, .inl b_a_all_m22)), ((am 5), .inr (8, [.ref a_all_m5, .int size_m5])), (a_all_m5, .inl (cI, n_a_all_m5, .inl b_a_all_m5)), ((am 21), .inr (8, [.ref a_all_m21, .int size_m21])), (a_all_m21, .inl (cI, n_a_all_m21, .inl b_a_all_m21))]) (c_Mo_fail l D cI cB cJ cS h0 am known_h0 thrown_h0 wrong_h0 lastEnd_h0 at_h0 bad_h0 levels_h0 least_h0 found_h0  ) k_Mo_278 (by decide) ⟨Nat.le_of_ble_eq_true rfl, Nat.le_of_ble_eq_true rfl⟩ rfl 0 rfl [13] [0, 1, 2, 3, 4, 5, 6, 7, 8, 9, 10, 11, 12, 14, 15] rfl (by decide +kernel) rfl (by decide +kernel) (by decide +kernel) rfl rfl (Nat.le_of_ble_eq_true rfl) d_Mo_readStatement_356 ⟨show cl_352 + 0 ≤ mc by omega, show sl_352 + 0 ≤ ms by omega⟩ (fun v w hq => ?_)
    obtain ⟨rfl, _, rfl⟩ := hq
    refine j_norm (pc' := 359) (st' := [.int 0]) (ws' := [((am 20), .inr (8, [.ref a_all_m20, .int size_m20])), (a_all_m20, .inl (cI, n_a_all_m20, .inl b_a_all_m20)), ((am 2), .inl (cI, n_m2, .inl b_m2)), ((am 7), .inr (8, [.ref a_all_m7, .int size_m7])), (a_all_m7, .inl (cI, n_a_all_m7, .inl b_a_all_m7)), ((am 6), .inr (8, [.ref a_all_m6, .int size_m6])), (a_all_m6, .inl (cI, n_a_all_m6, .inl b_a_all_m6)), ((am 4), .inr (8, [.ref a_all_m4, .int size_m4])), (a_all_m4, .inl (cI, n_a_all_m4, .inl b_a_all_m4)), ((am 22), .inr (8, [.ref a_all_m22, .int size_m22])), (a_all_m22, .inl (cI, n_a_all_m22, .inl b_a_all_m22)), ((am 5), .inr (8, [.ref a_all_m5, .int size_m5])), (a_all_m5, .inl (cI, n_a_all_m5, .inl b_a_all_m5)), ((am 21), .inr (8, [.ref a_all_m21, .int size_m21])), (a_all_m21, .inl (cI, n_a_all_m21, .inl b_a_all_m21)), (h0, .inr (9, moF am known_h0 thrown_h0 wrong_h0 lastEnd_h0 at_h0 at_h0 levels_h0 least_h0 found_h0))]) (cl' := cl_352) (sl' := sl_352) rfl rfl rfl rfl rfl rfl ?_
    replace h := lf_s h
    obtain ⟨h, e1, e2⟩ := h
    replace h := Prod.mk.inj h
    obtain ⟨h9, h⟩ := h
    subst h9
    replace h := Prod.mk.inj h
    obtain ⟨h9, h⟩ := h
    subst h9
    replace h := Prod.mk.inj h
    obtain ⟨h9, h⟩ := h
    subst h9
    replace h := Prod.mk.inj h
    obtain ⟨h9, h⟩ := h
    subst h9
    replace h := Prod.mk.inj h
    obtain ⟨h9, h⟩ := h
    subst h9
    replace h := Prod.mk.inj h
    obtain ⟨h9, h⟩ := h
    subst h9
    replace h := Prod.mk.inj h
    obtain ⟨h9, h⟩ := h
    subst h9
    replace h := Prod.mk.inj h
    obtain ⟨h9, h⟩ := h
    subst h9
    replace h := Prod.mk.inj h
    obtain ⟨h9, h⟩ := h
    subst h9
    replace h := Prod.mk.inj h
    obtain ⟨h9, h⟩ := h
    subst h9
    replace h := Prod.mk.inj h
    obtain ⟨h9, h⟩ := h
    subst h9
    replace h := Prod.mk.inj h
    obtain ⟨h9, h⟩ := h
    subst h9
    replace h := Prod.mk.inj h
    obtain ⟨h9, h⟩ := h
    subst h9
    subst h
    refine j_widen (cl' := mc) (sl' := ms) (by omega) (by omega) ?_
    exact j_zret (w := [(h0, .inr (9, moF am known_h0 thrown_h0 wrong_h0 lastEnd_h0 at_h0 at_h0 levels_h0 least_h0 found_h0)), ((am 5), .inr (8, [.ref a_all_m5, .int size_m5])), (a_all_m5, .inl (cI, n_a_all_m5, .inl b_a_all_m5)), ((am 20), .inr (8, [.ref a_all_m20, .int size_m20])), ((am 2), .inl (cI, n_m2, .inl b_m2)), ((am 21), .inr (8, [.ref a_all_m21, .int size_m21])), ((am 7), .inr (8, [.ref a_all_m7, .int size_m7])), (a_all_m7, .inl (cI, n_a_all_m7, .inl b_a_all_m7)), ((am 6), .inr (8, [.ref a_all_m6, .int size_m6])), (a_all_m6, .inl (cI, n_a_all_m6, .inl b_a_all_m6)), ((am 4), .inr (8, [.ref a_all_m4, .int size_m4])), (a_all_m4, .inl (cI, n_a_all_m4, .inl b_a_all_m4)), ((am 22), .inr (8, [.ref a_all_m22, .int size_m22])), (a_all_m20, .inl (cI, n_a_all_m20, .inl b_a_all_m20)), (a_all_m21, .inl (cI, n_a_all_m21, .inl b_a_all_m21)), (a_all_m22, .inl (cI, n_a_all_m22, .inl b_a_all_m22))]) hr (zb_n zb0) d_Mo_readStatement_359 [15, 11, 12, 0, 2, 13, 3, 4, 5, 6, 7, 8, 9, 1, 14, 10] rfl (by decide) ⟨a_all_m20, a_all_m21, a_all_m22, rfl, zb0, rfl⟩
set_option maxHeartbeats 4000000 in
set_option maxRecDepth 100000 in
theorem c_Mo_readStatement (l : Launch) (D : va_G) (cI cB cJ cS : ClassId) (h0 : Nat) (am : Nat → Nat) (a_all_m5 : Nat) (a_all_m20 : Nat) (a_all_m21 : Nat) (a_all_m7 : Nat) (a_all_m6 : Nat) (a_all_m4 : Nat) (a_all_m22 : Nat) (known_h0 : Int32) (thrown_h0 : Int32) (wrong_h0 : Int32) (lastEnd_h0 : Int32) (at_h0 : Int32) (bad_h0 : Int32) (levels_h0 : Int32) (least_h0 : Int32) (found_h0 : Int32) (size_m5 : Int32) (n_a_all_m5 : Nat) (b_a_all_m5 : Nat → Int32) (size_m20 : Int32) (n_a_all_m20 : Nat) (b_a_all_m20 : Nat → Int32) (n_m2 : Nat) (b_m2 : Nat → Int32) (size_m21 : Int32) (n_a_all_m21 : Nat) (b_a_all_m21 : Nat → Int32) (size_m7 : Int32) (n_a_all_m7 : Nat) (b_a_all_m7 : Nat → Int32) (size_m6 : Int32) (n_a_all_m6 : Nat) (b_a_all_m6 : Nat → Int32) (size_m4 : Int32) (n_a_all_m4 : Nat) (b_a_all_m4 : Nat → Int32) (size_m22 : Int32) (n_a_all_m22 : Nat) (b_a_all_m22 : Nat → Int32) (ret : Int32) (o_0_17 : Int32) (o_0_18 : Int32) (o_0_19 : Int32) (o_0_23 : Int32) (o_3_1 : Int32) (o_6_1 : Int32) (o_14_1 : Int32) (on_nq_3_0 : Nat) (ob_nq_3_0 : Nat → Int32) (on_nq_6_0 : Nat) (ob_nq_6_0 : Nat → Int32) (on_nq_14_0 : Nat) (ob_nq_14_0 : Nat → Int32) (mc ms : Nat) (h : F_Mo_readStatement known_h0 thrown_h0 wrong_h0 lastEnd_h0 at_h0 bad_h0 levels_h0 least_h0 found_h0 size_m5 n_a_all_m5 b_a_all_m5 size_m20 n_a_all_m20 b_a_all_m20 n_m2 b_m2 size_m21 n_a_all_m21 b_a_all_m21 size_m7 n_a_all_m7 b_a_all_m7 size_m6 n_a_all_m6 b_a_all_m6 size_m4 n_a_all_m4 b_a_all_m4 size_m22 n_a_all_m22 b_a_all_m22 = some ((ret, o_0_17, o_0_18, o_0_19, o_0_23, o_3_1, o_6_1, o_14_1, on_nq_3_0, ob_nq_3_0, on_nq_6_0, ob_nq_6_0, on_nq_14_0, ob_nq_14_0), mc, ms)) : Ct l D (gT cI cB cJ cS) y_Mo_readStatement prog_12_method_48_code 2 (Option.some Jvm.ClassFile.FieldType.boolean) 8 176 mc ms [.ref h0] [(h0, .inr (9, moF am known_h0 thrown_h0 wrong_h0 lastEnd_h0 at_h0 bad_h0 levels_h0 least_h0 found_h0)), ((am 5), .inr (8, [.ref a_all_m5, .int size_m5])), (a_all_m5, .inl (cI, n_a_all_m5, .inl b_a_all_m5)), ((am 20), .inr (8, [.ref a_all_m20, .int size_m20])), (a_all_m20, .inl (cI, n_a_all_m20, .inl b_a_all_m20)), ((am 2), .inl (cI, n_m2, .inl b_m2)), ((am 21), .inr (8, [.ref a_all_m21, .int size_m21])), (a_all_m21, .inl (cI, n_a_all_m21, .inl b_a_all_m21)), ((am 7), .inr (8, [.ref a_all_m7, .int size_m7])), (a_all_m7, .inl (cI, n_a_all_m7, .inl b_a_all_m7)), ((am 6), .inr (8, [.ref a_all_m6, .int size_m6])), (a_all_m6, .inl (cI, n_a_all_m6, .inl b_a_all_m6)), ((am 4), .inr (8, [.ref a_all_m4, .int size_m4])), (a_all_m4, .inl (cI, n_a_all_m4, .inl b_a_all_m4)), ((am 22), .inr (8, [.ref a_all_m22, .int size_m22])), (a_all_m22, .inl (cI, n_a_all_m22, .inl b_a_all_m22))] (fun v w => ∃ nq_3_0 : Nat, ∃ nq_6_0 : Nat, ∃ nq_14_0 : Nat, v = some (.int ret) ∧ zb ret ∧ w = [(h0, .inr (9, moF am known_h0 thrown_h0 wrong_h0 lastEnd_h0 o_0_17 o_0_18 o_0_19 o_0_23 found_h0)), ((am 5), .inr (8, [.ref a_all_m5, .int size_m5])), (a_all_m5, .inl (cI, n_a_all_m5, .inl b_a_all_m5)), ((am 20), .inr (8, [.ref nq_3_0, .int o_3_1])), ((am 2), .inl (cI, n_m2, .inl b_m2)), ((am 21), .inr (8, [.ref nq_6_0, .int o_6_1])), ((am 7), .inr (8, [.ref a_all_m7, .int size_m7])), (a_all_m7, .inl (cI, n_a_all_m7, .inl b_a_all_m7)), ((am 6), .inr (8, [.ref a_all_m6, .int size_m6])), (a_all_m6, .inl (cI, n_a_all_m6, .inl b_a_all_m6)), ((am 4), .inr (8, [.ref a_all_m4, .int size_m4])), (a_all_m4, .inl (cI, n_a_all_m4, .inl b_a_all_m4)), ((am 22), .inr (8, [.ref nq_14_0, .int o_14_1])), (nq_3_0, .inl (cI, on_nq_3_0, .inl ob_nq_3_0)), (nq_6_0, .inl (cI, on_nq_6_0, .inl ob_nq_6_0)), (nq_14_0, .inl (cI, on_nq_14_0, .inl ob_nq_14_0))]) := by
  refine Ct.mk (by decide) (Nat.le_of_ble_eq_true rfl) ?_
  intro p e s m below meth c hr hnm
  refine j_norm (pc' := 0) (lv' := [(0, .ref h0)]) (st' := []) (ws' := [(h0, .inr (9, moF am known_h0 thrown_h0 wrong_h0 lastEnd_h0 at_h0 bad_h0 levels_h0 least_h0 found_h0)), ((am 5), .inr (8, [.ref a_all_m5, .int size_m5])), (a_all_m5, .inl (cI, n_a_all_m5, .inl b_a_all_m5)), ((am 20), .inr (8, [.ref a_all_m20, .int size_m20])), (a_all_m20, .inl (cI, n_a_all_m20, .inl b_a_all_m20)), ((am 2), .inl (cI, n_m2, .inl b_m2)), ((am 21), .inr (8, [.ref a_all_m21, .int size_m21])), (a_all_m21, .inl (cI, n_a_all_m21, .inl b_a_all_m21)), ((am 7), .inr (8, [.ref a_all_m7, .int size_m7])), (a_all_m7, .inl (cI, n_a_all_m7, .inl b_a_all_m7)), ((am 6), .inr (8, [.ref a_all_m6, .int size_m6])), (a_all_m6, .inl (cI, n_a_all_m6, .inl b_a_all_m6)), ((am 4), .inr (8, [.ref a_all_m4, .int size_m4])), (a_all_m4, .inl (cI, n_a_all_m4, .inl b_a_all_m4)), ((am 22), .inr (8, [.ref a_all_m22, .int size_m22])), (a_all_m22, .inl (cI, n_a_all_m22, .inl b_a_all_m22))]) (cl' := 0) (sl' := 0) rfl rfl rfl rfl rfl rfl ?_
  unfold F_Mo_readStatement at h
  have hC : 0 + mc ≤ mc := by omega
  have hS : 0 + ms ≤ ms := by omega
  refine j_aload_n d_Mo_readStatement_0 rfl 0 rfl ?_
  replace h := bd_s h
  obtain ⟨_, k12, h⟩ := h
  refine j_callV (n := 0) (As := []) (rest := []) (wr := [((am 20), .inr (8, [.ref a_all_m20, .int size_m20])), (a_all_m20, .inl (cI, n_a_all_m20, .inl b_a_all_m20)), ((am 2), .inl (cI, n_m2, .inl b_m2)), ((am 21), .inr (8, [.ref a_all_m21, .int size_m21])), (a_all_m21, .inl (cI, n_a_all_m21, .inl b_a_all_m21)), ((am 7), .inr (8, [.ref a_all_m7, .int size_m7])), (a_all_m7, .inl (cI, n_a_all_m7, .inl b_a_all_m7)), ((am 6), .inr (8, [.ref a_all_m6, .int size_m6])), (a_all_m6, .inl (cI, n_a_all_m6, .inl b_a_all_m6)), ((am 4), .inr (8, [.ref a_all_m4, .int size_m4])), (a_all_m4, .inl (cI, n_a_all_m4, .inl b_a_all_m4)), ((am 22), .inr (8, [.ref a_all_m22, .int size_m22])), (a_all_m22, .inl (cI, n_a_all_m22, .inl b_a_all_m22))]) (c_Mo_kind l D cI cB cJ cS h0 am a_all_m5 known_h0 thrown_h0 wrong_h0 lastEnd_h0 at_h0 bad_h0 levels_h0 least_h0 found_h0 size_m5 n_a_all_m5 b_a_all_m5  k12) k_Mo_275 (by decide) ⟨Nat.le_of_ble_eq_true rfl, Nat.le_of_ble_eq_true rfl⟩ rfl 0 rfl [0, 1, 2] [3, 4, 5, 6, 7, 8, 9, 10, 11, 12, 13, 14, 15] rfl (by decide +kernel) rfl (by decide +kernel) (by decide +kernel) rfl rfl (Nat.le_of_ble_eq_true rfl) d_Mo_readStatement_1 ⟨show 0 + 0 ≤ mc by omega, show 0 + 0 ≤ ms by omega⟩ (fun v w hq => ?_)
  obtain ⟨rfl, rfl⟩ := hq
  refine j_norm (pc' := 4) (st' := [.int (b_a_all_m5 (Int32.toNatClampNeg at_h0))]) (ws' := [((am 20), .inr (8, [.ref a_all_m20, .int size_m20])), (a_all_m20, .inl (cI, n_a_all_m20, .inl b_a_all_m20)), ((am 2), .inl (cI, n_m2, .inl b_m2)), ((am 21), .inr (8, [.ref a_all_m21, .int size_m21])), (a_all_m21, .inl (cI, n_a_all_m21, .inl b_a_all_m21)), ((am 7), .inr (8, [.ref a_all_m7, .int size_m7])), (a_all_m7, .inl (cI, n_a_all_m7, .inl b_a_all_m7)), ((am 6), .inr (8, [.ref a_all_m6, .int size_m6])), (a_all_m6, .inl (cI, n_a_all_m6, .inl b_a_all_m6)), ((am 4), .inr (8, [.ref a_all_m4, .int size_m4])), (a_all_m4, .inl (cI, n_a_all_m4, .inl b_a_all_m4)), ((am 22), .inr (8, [.ref a_all_m22, .int size_m22])), (a_all_m22, .inl (cI, n_a_all_m22, .inl b_a_all_m22)), (h0, .inr (9, moF am known_h0 thrown_h0 wrong_h0 lastEnd_h0 at_h0 bad_h0 levels_h0 least_h0 found_h0)), ((am 5), .inr (8, [.ref a_all_m5, .int size_m5])), (a_all_m5, .inl (cI, n_a_all_m5, .inl b_a_all_m5))]) (cl' := 0) (sl' := 0) rfl rfl rfl rfl rfl rfl ?_
  refine j_istore_n (lv' := [(1, .int (b_a_all_m5 (Int32.toNatClampNeg at_h0))), (0, .ref h0)]) d_Mo_readStatement_4 rfl (by decide) rfl ?_
  refine j_iload_n d_Mo_readStatement_5 rfl 0 rfl ?_
  by_cases c13 : (b_a_all_m5 (Int32.toNatClampNeg at_h0)) = 10
  · replace h := it_t c13 h
    refine j_tabIn (tgt := 197) (off := 191) d_Mo_readStatement_6 10 c13 (by decide) (by decide) (by decide) (by decide) ?_
    refine j_aload_n d_Mo_readStatement_197 rfl 1 rfl ?_
    refine j_iload_n d_Mo_readStatement_198 rfl 0 rfl ?_
    replace h := bd_s h
    obtain ⟨⟨r14, r15, r16, r17⟩, k19, h⟩ := h
    refine j_callV (n := 1) (As := [.int (b_a_all_m5 (Int32.toNatClampNeg at_h0))]) (rest := []) (wr := [((am 20), .inr (8, [.ref a_all_m20, .int size_m20])), (a_all_m20, .inl (cI, n_a_all_m20, .inl b_a_all_m20)), ((am 2), .inl (cI, n_m2, .inl b_m2)), ((am 21), .inr (8, [.ref a_all_m21, .int size_m21])), (a_all_m21, .inl (cI, n_a_all_m21, .inl b_a_all_m21)), ((am 7), .inr (8, [.ref a_all_m7, .int size_m7])), (a_all_m7, .inl (cI, n_a_all_m7, .inl b_a_all_m7)), ((am 6), .inr (8, [.ref a_all_m6, .int size_m6])), (a_all_m6, .inl (cI, n_a_all_m6, .inl b_a_all_m6)), ((am 4), .inr (8, [.ref a_all_m4, .int size_m4])), (a_all_m4, .inl (cI, n_a_all_m4, .inl b_a_all_m4)), ((am 22), .inr (8, [.ref a_all_m22, .int size_m22])), (a_all_m22, .inl (cI, n_a_all_m22, .inl b_a_all_m22))]) (c_Mo_enter l D cI cB cJ cS h0 am a_all_m5 (b_a_all_m5 (Int32.toNatClampNeg at_h0)) known_h0 thrown_h0 wrong_h0 lastEnd_h0 at_h0 bad_h0 levels_h0 least_h0 found_h0 size_m5 n_a_all_m5 b_a_all_m5  r14 r15 r16 r17 k19) k_Mo_297 (by decide) ⟨Nat.le_of_ble_eq_true rfl, Nat.le_of_ble_eq_true rfl⟩ rfl 0 rfl [13, 14, 15] [0, 1, 2, 3, 4, 5, 6, 7, 8, 9, 10, 11, 12] rfl (by decide +kernel) rfl (by decide +kernel) (by decide +kernel) rfl rfl (Nat.le_of_ble_eq_true rfl) d_Mo_readStatement_199 ⟨show 0 + 0 ≤ mc by omega, show 0 + 0 ≤ ms by omega⟩ (fun v w hq => ?_)
    obtain ⟨rfl, z18, rfl⟩ := hq
    refine j_norm (pc' := 202) (st' := [.int r14]) (ws' := [((am 20), .inr (8, [.ref a_all_m20, .int size_m20])), (a_all_m20, .inl (cI, n_a_all_m20, .inl b_a_all_m20)), ((am 2), .inl (cI, n_m2, .inl b_m2)), ((am 21), .inr (8, [.ref a_all_m21, .int size_m21])), (a_all_m21, .inl (cI, n_a_all_m21, .inl b_a_all_m21)), ((am 7), .inr (8, [.ref a_all_m7, .int size_m7])), (a_all_m7, .inl (cI, n_a_all_m7, .inl b_a_all_m7)), ((am 6), .inr (8, [.ref a_all_m6, .int size_m6])), (a_all_m6, .inl (cI, n_a_all_m6, .inl b_a_all_m6)), ((am 4), .inr (8, [.ref a_all_m4, .int size_m4])), (a_all_m4, .inl (cI, n_a_all_m4, .inl b_a_all_m4)), ((am 22), .inr (8, [.ref a_all_m22, .int size_m22])), (a_all_m22, .inl (cI, n_a_all_m22, .inl b_a_all_m22)), (h0, .inr (9, moF am known_h0 thrown_h0 wrong_h0 lastEnd_h0 r15 r16 r17 least_h0 found_h0)), ((am 5), .inr (8, [.ref a_all_m5, .int size_m5])), (a_all_m5, .inl (cI, n_a_all_m5, .inl b_a_all_m5))]) (cl' := 0) (sl' := 0) rfl rfl rfl rfl rfl rfl ?_
    refine j_if_eq (tgt := 212) d_Mo_readStatement_202 (by decide) (fun c20 => ?_) (fun c20 => ?_)
    · replace h := it_t c20 h
      refine j_iconst (v := 0) d_Mo_readStatement_212 (by decide) ?_
      replace h := lf_s h
      obtain ⟨h, e1, e2⟩ := h
      replace h := Prod.mk.inj h
      obtain ⟨h9, h⟩ := h
      subst h9
      replace h := Prod.mk.inj h
      obtain ⟨h9, h⟩ := h
      subst h9
      replace h := Prod.mk.inj h
      obtain ⟨h9, h⟩ := h
      subst h9
      replace h := Prod.mk.inj h
      obtain ⟨h9, h⟩ := h
      subst h9
      replace h := Prod.mk.inj h
      obtain ⟨h9, h⟩ := h
      subst h9
      replace h := Prod.mk.inj h
      obtain ⟨h9, h⟩ := h
      subst h9
      replace h := Prod.mk.inj h
      obtain ⟨h9, h⟩ := h
      subst h9
      replace h := Prod.mk.inj h
      obtain ⟨h9, h⟩ := h
      subst h9
      replace h := Prod.mk.inj h
      obtain ⟨h9, h⟩ := h
      subst h9
      replace h := Prod.mk.inj h
      obtain ⟨h9, h⟩ := h
      subst h9
      replace h := Prod.mk.inj h
      obtain ⟨h9, h⟩ := h
      subst h9
      replace h := Prod.mk.inj h
      obtain ⟨h9, h⟩ := h
      subst h9
      replace h := Prod.mk.inj h
      obtain ⟨h9, h⟩ := h
      subst h9
      subst h
      refine j_widen (cl' := mc) (sl' := ms) (by omega) (by omega) ?_
      exact j_zret (w := [(h0, .inr (9, moF am known_h0 thrown_h0 wrong_h0 lastEnd_h0 r15 r16 r17 least_h0 found_h0)), ((am 5), .inr (8, [.ref a_all_m5, .int size_m5])), (a_all_m5, .inl (cI, n_a_all_m5, .inl b_a_all_m5)), ((am 20), .inr (8, [.ref a_all_m20, .int size_m20])), ((am 2), .inl (cI, n_m2, .inl b_m2)), ((am 21), .inr (8, [.ref a_all_m21, .int size_m21])), ((am 7), .inr (8, [.ref a_all_m7, .int size_m7])), (a_all_m7, .inl (cI, n_a_all_m7, .inl b_a_all_m7)), ((am 6), .inr (8, [.ref a_all_m6, .int size_m6])), (a_all_m6, .inl (cI, n_a_all_m6, .inl b_a_all_m6)), ((am 4), .inr (8, [.ref a_all_m4, .int size_m4])), (a_all_m4, .inl (cI, n_a_all_m4, .inl b_a_all_m4)), ((am 22), .inr (8, [.ref a_all_m22, .int size_m22])), (a_all_m20, .inl (cI, n_a_all_m20, .inl b_a_all_m20)), (a_all_m21, .inl (cI, n_a_all_m21, .inl b_a_all_m21)), (a_all_m22, .inl (cI, n_a_all_m22, .inl b_a_all_m22))]) hr (zb_n zb0) d_Mo_readStatement_213 [13, 14, 15, 0, 2, 3, 5, 6, 7, 8, 9, 10, 11, 1, 4, 12] rfl (by decide) ⟨a_all_m20, a_all_m21, a_all_m22, rfl, zb0, rfl⟩
    · replace h := it_f c20 h
      refine j_aload_n d_Mo_readStatement_205 rfl 1 rfl ?_
      replace h := bw_s h
      obtain ⟨⟨r21, r22, r23, r24, r25, r26, r27⟩, C30, S31, C32, S33, k34, h, e1, e2⟩ := h
      replace hC : 0 + C30 + C32 ≤ mc := by omega
      replace hS : 0 + S31 + S33 ≤ ms := by omega
      clear e1 e2
      refine j_callV (n := 0) (As := []) (rest := []) (wr := [((am 21), .inr (8, [.ref a_all_m21, .int size_m21])), (a_all_m21, .inl (cI, n_a_all_m21, .inl b_a_all_m21)), ((am 7), .inr (8, [.ref a_all_m7, .int size_m7])), (a_all_m7, .inl (cI, n_a_all_m7, .inl b_a_all_m7)), ((am 6), .inr (8, [.ref a_all_m6, .int size_m6])), (a_all_m6, .inl (cI, n_a_all_m6, .inl b_a_all_m6)), ((am 4), .inr (8, [.ref a_all_m4, .int size_m4])), (a_all_m4, .inl (cI, n_a_all_m4, .inl b_a_all_m4)), ((am 22), .inr (8, [.ref a_all_m22, .int size_m22])), (a_all_m22, .inl (cI, n_a_all_m22, .inl b_a_all_m22))]) (c_Mo_readCondition l D cI cB cJ cS h0 am a_all_m5 a_all_m20 known_h0 thrown_h0 wrong_h0 lastEnd_h0 r15 r16 r17 least_h0 found_h0 size_m5 n_a_all_m5 b_a_all_m5 size_m20 n_a_all_m20 b_a_all_m20 n_m2 b_m2  r21 r22 r23 r24 r25 r26 r27 C30 S31 k34) k_Mo_368 (by decide) ⟨Nat.le_of_ble_eq_true rfl, Nat.le_of_ble_eq_true rfl⟩ rfl 0 rfl [13, 14, 15, 0, 1, 2] [3, 4, 5, 6, 7, 8, 9, 10, 11, 12] rfl (by decide +kernel) rfl (by decide +kernel) (by decide +kernel) rfl rfl (Nat.le_of_ble_eq_true rfl) d_Mo_readStatement_206 ⟨show 0 + C30 ≤ mc by omega, show 0 + S31 ≤ ms by omega⟩ (fun v w hq => ?_)
      obtain ⟨q28, rfl, z29, rfl⟩ := hq
      refine j_norm (pc' := 209) (st' := [.int r21]) (ws' := [((am 21), .inr (8, [.ref a_all_m21, .int size_m21])), (a_all_m21, .inl (cI, n_a_all_m21, .inl b_a_all_m21)), ((am 7), .inr (8, [.ref a_all_m7, .int size_m7])), (a_all_m7, .inl (cI, n_a_all_m7, .inl b_a_all_m7)), ((am 6), .inr (8, [.ref a_all_m6, .int size_m6])), (a_all_m6, .inl (cI, n_a_all_m6, .inl b_a_all_m6)), ((am 4), .inr (8, [.ref a_all_m4, .int size_m4])), (a_all_m4, .inl (cI, n_a_all_m4, .inl b_a_all_m4)), ((am 22), .inr (8, [.ref a_all_m22, .int size_m22])), (a_all_m22, .inl (cI, n_a_all_m22, .inl b_a_all_m22)), (h0, .inr (9, moF am known_h0 thrown_h0 wrong_h0 lastEnd_h0 r22 r23 r24 least_h0 found_h0)), ((am 5), .inr (8, [.ref a_all_m5, .int size_m5])), (a_all_m5, .inl (cI, n_a_all_m5, .inl b_a_all_m5)), ((am 20), .inr (8, [.ref q28, .int r25])), ((am 2), .inl (cI, n_m2, .inl b_m2)), (q28, .inl (cI, r26, .inl r27))]) (cl' := 0 + C30) (sl' := 0 + S31) rfl rfl rfl rfl rfl rfl ?_
      refine j_if_ne (tgt := 214) d_Mo_readStatement_209 (by decide) (fun c35 => ?_) (fun c35 => ?_)
      · replace h := it_f c35 h
        refine j_aload_n d_Mo_readStatement_214 rfl 1 rfl ?_
        refine j_get ig_Mo rfl 10 rfl 21 (by decide) rfl m_1134 rfl d_Mo_readStatement_215 ?_
        refine j_iload_n d_Mo_readStatement_218 rfl 0 rfl ?_
        replace h := bw_s h
        obtain ⟨⟨r36, r37⟩, C39, S40, C41, S42, k43, h, e1, e2⟩ := h
        replace hC : 0 + C30 + C39 + C41 ≤ mc := by omega
        replace hS : 0 + S31 + S40 + S42 ≤ ms := by omega
        clear e1 e2
        refine j_callV (n := 1) (As := [.int (b_a_all_m5 (Int32.toNatClampNeg at_h0))]) (rest := []) (wr := [((am 7), .inr (8, [.ref a_all_m7, .int size_m7])), (a_all_m7, .inl (cI, n_a_all_m7, .inl b_a_all_m7)), ((am 6), .inr (8, [.ref a_all_m6, .int size_m6])), (a_all_m6, .inl (cI, n_a_all_m6, .inl b_a_all_m6)), ((am 4), .inr (8, [.ref a_all_m4, .int size_m4])), (a_all_m4, .inl (cI, n_a_all_m4, .inl b_a_all_m4)), ((am 22), .inr (8, [.ref a_all_m22, .int size_m22])), (a_all_m22, .inl (cI, n_a_all_m22, .inl b_a_all_m22)), (h0, .inr (9, moF am known_h0 thrown_h0 wrong_h0 lastEnd_h0 r22 r23 r24 least_h0 found_h0)), ((am 5), .inr (8, [.ref a_all_m5, .int size_m5])), (a_all_m5, .inl (cI, n_a_all_m5, .inl b_a_all_m5)), ((am 20), .inr (8, [.ref q28, .int r25])), ((am 2), .inl (cI, n_m2, .inl b_m2)), (q28, .inl (cI, r26, .inl r27))]) (c_Nm_add l D cI cB cJ cS (am 21) a_all_m21 (b_a_all_m5 (Int32.toNatClampNeg at_h0)) size_m21 n_a_all_m21 b_a_all_m21  r36 r37 C39 S40 k43) k_Mo_200 (by decide) ⟨Nat.le_of_ble_eq_true rfl, Nat.le_of_ble_eq_true rfl⟩ rfl 0 rfl [0, 1] [2, 3, 4, 5, 6, 7, 8, 9, 10, 11, 12, 13, 14, 15] rfl (by decide +kernel) rfl (by decide +kernel) (by decide +kernel) rfl rfl (Nat.le_of_ble_eq_true rfl) d_Mo_readStatement_219 ⟨show 0 + C30 + C39 ≤ mc by omega, show 0 + S31 + S40 ≤ ms by omega⟩ (fun v w hq => ?_)
        obtain ⟨q38, rfl, rfl⟩ := hq
        refine j_norm (pc' := 222) (st' := []) (ws' := [((am 7), .inr (8, [.ref a_all_m7, .int size_m7])), (a_all_m7, .inl (cI, n_a_all_m7, .inl b_a_all_m7)), ((am 6), .inr (8, [.ref a_all_m6, .int size_m6])), (a_all_m6, .inl (cI, n_a_all_m6, .inl b_a_all_m6)), ((am 4), .inr (8, [.ref a_all_m4, .int size_m4])), (a_all_m4, .inl (cI, n_a_all_m4, .inl b_a_all_m4)), ((am 22), .inr (8, [.ref a_all_m22, .int size_m22])), (a_all_m22, .inl (cI, n_a_all_m22, .inl b_a_all_m22)), (h0, .inr (9, moF am known_h0 thrown_h0 wrong_h0 lastEnd_h0 r22 r23 r24 least_h0 found_h0)), ((am 5), .inr (8, [.ref a_all_m5, .int size_m5])), (a_all_m5, .inl (cI, n_a_all_m5, .inl b_a_all_m5)), ((am 20), .inr (8, [.ref q28, .int r25])), ((am 2), .inl (cI, n_m2, .inl b_m2)), (q28, .inl (cI, r26, .inl r27)), ((am 21), .inr (8, [.ref q38, .int (size_m21 + 1)])), (q38, .inl (cI, r36, .inl r37))]) (cl' := 0 + C30 + C39) (sl' := 0 + S31 + S40) rfl rfl rfl rfl rfl rfl ?_
        refine j_iconst (v := 1) d_Mo_readStatement_222 (by decide) ?_
        replace h := lf_s h
        obtain ⟨h, e1, e2⟩ := h
        replace h := Prod.mk.inj h
        obtain ⟨h9, h⟩ := h
        subst h9
        replace h := Prod.mk.inj h
        obtain ⟨h9, h⟩ := h
        subst h9
        replace h := Prod.mk.inj h
        obtain ⟨h9, h⟩ := h
        subst h9
        replace h := Prod.mk.inj h
        obtain ⟨h9, h⟩ := h
        subst h9
        replace h := Prod.mk.inj h
        obtain ⟨h9, h⟩ := h
        subst h9
        replace h := Prod.mk.inj h
        obtain ⟨h9, h⟩ := h
        subst h9
        replace h := Prod.mk.inj h
        obtain ⟨h9, h⟩ := h
        subst h9
        replace h := Prod.mk.inj h
        obtain ⟨h9, h⟩ := h
        subst h9
        replace h := Prod.mk.inj h
        obtain ⟨h9, h⟩ := h
        subst h9
        replace h := Prod.mk.inj h
        obtain ⟨h9, h⟩ := h
        subst h9
        replace h := Prod.mk.inj h
        obtain ⟨h9, h⟩ := h
        subst h9
        replace h := Prod.mk.inj h
        obtain ⟨h9, h⟩ := h
        subst h9
        replace h := Prod.mk.inj h
        obtain ⟨h9, h⟩ := h
        subst h9
        subst h
        refine j_widen (cl' := mc) (sl' := ms) (by omega) (by omega) ?_
        exact j_zret (w := [(h0, .inr (9, moF am known_h0 thrown_h0 wrong_h0 lastEnd_h0 r22 r23 r24 least_h0 found_h0)), ((am 5), .inr (8, [.ref a_all_m5, .int size_m5])), (a_all_m5, .inl (cI, n_a_all_m5, .inl b_a_all_m5)), ((am 20), .inr (8, [.ref q28, .int r25])), ((am 2), .inl (cI, n_m2, .inl b_m2)), ((am 21), .inr (8, [.ref q38, .int (size_m21 + 1)])), ((am 7), .inr (8, [.ref a_all_m7, .int size_m7])), (a_all_m7, .inl (cI, n_a_all_m7, .inl b_a_all_m7)), ((am 6), .inr (8, [.ref a_all_m6, .int size_m6])), (a_all_m6, .inl (cI, n_a_all_m6, .inl b_a_all_m6)), ((am 4), .inr (8, [.ref a_all_m4, .int size_m4])), (a_all_m4, .inl (cI, n_a_all_m4, .inl b_a_all_m4)), ((am 22), .inr (8, [.ref a_all_m22, .int size_m22])), (q28, .inl (cI, r26, .inl r27)), (q38, .inl (cI, r36, .inl r37)), (a_all_m22, .inl (cI, n_a_all_m22, .inl b_a_all_m22))]) hr (zb_n zb1) d_Mo_readStatement_223 [8, 9, 10, 11, 12, 14, 0, 1, 2, 3, 4, 5, 6, 13, 15, 7] rfl (by decide) ⟨q28, q38, a_all_m22, rfl, zb1, rfl⟩
      · replace h := it_t c35 h
        refine j_iconst (v := 0) d_Mo_readStatement_212 (by decide) ?_
        replace h := lf_s h
        obtain ⟨h, e1, e2⟩ := h
        replace h := Prod.mk.inj h
        obtain ⟨h9, h⟩ := h
        subst h9
        replace h := Prod.mk.inj h
        obtain ⟨h9, h⟩ := h
        subst h9
        replace h := Prod.mk.inj h
        obtain ⟨h9, h⟩ := h
        subst h9
        replace h := Prod.mk.inj h
        obtain ⟨h9, h⟩ := h
        subst h9
        replace h := Prod.mk.inj h
        obtain ⟨h9, h⟩ := h
        subst h9
        replace h := Prod.mk.inj h
        obtain ⟨h9, h⟩ := h
        subst h9
        replace h := Prod.mk.inj h
        obtain ⟨h9, h⟩ := h
        subst h9
        replace h := Prod.mk.inj h
        obtain ⟨h9, h⟩ := h
        subst h9
        replace h := Prod.mk.inj h
        obtain ⟨h9, h⟩ := h
        subst h9
        replace h := Prod.mk.inj h
        obtain ⟨h9, h⟩ := h
        subst h9
        replace h := Prod.mk.inj h
        obtain ⟨h9, h⟩ := h
        subst h9
        replace h := Prod.mk.inj h
        obtain ⟨h9, h⟩ := h
        subst h9
        replace h := Prod.mk.inj h
        obtain ⟨h9, h⟩ := h
        subst h9
        subst h
        refine j_widen (cl' := mc) (sl' := ms) (by omega) (by omega) ?_
        exact j_zret (w := [(h0, .inr (9, moF am known_h0 thrown_h0 wrong_h0 lastEnd_h0 r22 r23 r24 least_h0 found_h0)), ((am 5), .inr (8, [.ref a_all_m5, .int size_m5])), (a_all_m5, .inl (cI, n_a_all_m5, .inl b_a_all_m5)), ((am 20), .inr (8, [.ref q28, .int r25])), ((am 2), .inl (cI, n_m2, .inl b_m2)), ((am 21), .inr (8, [.ref a_all_m21, .int size_m21])), ((am 7), .inr (8, [.ref a_all_m7, .int size_m7])), (a_all_m7, .inl (cI, n_a_all_m7, .inl b_a_all_m7)), ((am 6), .inr (8, [.ref a_all_m6, .int size_m6])), (a_all_m6, .inl (cI, n_a_all_m6, .inl b_a_all_m6)), ((am 4), .inr (8, [.ref a_all_m4, .int size_m4])), (a_all_m4, .inl (cI, n_a_all_m4, .inl b_a_all_m4)), ((am 22), .inr (8, [.ref a_all_m22, .int size_m22])), (q28, .inl (cI, r26, .inl r27)), (a_all_m21, .inl (cI, n_a_all_m21, .inl b_a_all_m21)), (a_all_m22, .inl (cI, n_a_all_m22, .inl b_a_all_m22))]) hr (zb_n zb0) d_Mo_readStatement_213 [10, 11, 12, 13, 14, 0, 2, 3, 4, 5, 6, 7, 8, 15, 1, 9] rfl (by decide) ⟨q28, a_all_m21, a_all_m22, rfl, zb0, rfl⟩
  · replace h := it_f c13 h
    by_cases c44 : (b_a_all_m5 (Int32.toNatClampNeg at_h0)) = 11
    · replace h := it_t c44 h
      refine j_tabIn (tgt := 306) (off := 300) d_Mo_readStatement_6 11 c44 (by decide) (by decide) (by decide) (by decide) ?_
      refine j_aload_n d_Mo_readStatement_306 rfl 1 rfl ?_
      replace h := bd_s h
      obtain ⟨r45, k46, h⟩ := h
      refine j_callV (n := 0) (As := []) (rest := []) (wr := [((am 20), .inr (8, [.ref a_all_m20, .int size_m20])), (a_all_m20, .inl (cI, n_a_all_m20, .inl b_a_all_m20)), ((am 2), .inl (cI, n_m2, .inl b_m2)), ((am 7), .inr (8, [.ref a_all_m7, .int size_m7])), (a_all_m7, .inl (cI, n_a_all_m7, .inl b_a_all_m7)), ((am 6), .inr (8, [.ref a_all_m6, .int size_m6])), (a_all_m6, .inl (cI, n_a_all_m6, .inl b_a_all_m6)), ((am 4), .inr (8, [.ref a_all_m4, .int size_m4])), (a_all_m4, .inl (cI, n_a_all_m4, .inl b_a_all_m4)), ((am 22), .inr (8, [.ref a_all_m22, .int size_m22])), (a_all_m22, .inl (cI, n_a_all_m22, .inl b_a_all_m22)), ((am 5), .inr (8, [.ref a_all_m5, .int size_m5])), (a_all_m5, .inl (cI, n_a_all_m5, .inl b_a_all_m5))]) (c_Mo_block l D cI cB cJ cS h0 am a_all_m21 known_h0 thrown_h0 wrong_h0 lastEnd_h0 at_h0 bad_h0 levels_h0 least_h0 found_h0 size_m21 n_a_all_m21 b_a_all_m21  r45 k46) k_Mo_371 (by decide) ⟨Nat.le_of_ble_eq_true rfl, Nat.le_of_ble_eq_true rfl⟩ rfl 0 rfl [13, 3, 4] [0, 1, 2, 5, 6, 7, 8, 9, 10, 11, 12, 14, 15] rfl (by decide +kernel) rfl (by decide +kernel) (by decide +kernel) rfl rfl (Nat.le_of_ble_eq_true rfl) d_Mo_readStatement_307 ⟨show 0 + 0 ≤ mc by omega, show 0 + 0 ≤ ms by omega⟩ (fun v w hq => ?_)
      obtain ⟨rfl, rfl⟩ := hq
      refine j_norm (pc' := 310) (st' := [.int r45]) (ws' := [((am 20), .inr (8, [.ref a_all_m20, .int size_m20])), (a_all_m20, .inl (cI, n_a_all_m20, .inl b_a_all_m20)), ((am 2), .inl (cI, n_m2, .inl b_m2)), ((am 7), .inr (8, [.ref a_all_m7, .int size_m7])), (a_all_m7, .inl (cI, n_a_all_m7, .inl b_a_all_m7)), ((am 6), .inr (8, [.ref a_all_m6, .int size_m6])), (a_all_m6, .inl (cI, n_a_all_m6, .inl b_a_all_m6)), ((am 4), .inr (8, [.ref a_all_m4, .int size_m4])), (a_all_m4, .inl (cI, n_a_all_m4, .inl b_a_all_m4)), ((am 22), .inr (8, [.ref a_all_m22, .int size_m22])), (a_all_m22, .inl (cI, n_a_all_m22, .inl b_a_all_m22)), ((am 5), .inr (8, [.ref a_all_m5, .int size_m5])), (a_all_m5, .inl (cI, n_a_all_m5, .inl b_a_all_m5)), (h0, .inr (9, moF am known_h0 thrown_h0 wrong_h0 lastEnd_h0 at_h0 bad_h0 levels_h0 least_h0 found_h0)), ((am 21), .inr (8, [.ref a_all_m21, .int size_m21])), (a_all_m21, .inl (cI, n_a_all_m21, .inl b_a_all_m21))]) (cl' := 0) (sl' := 0) rfl rfl rfl rfl rfl rfl ?_
      refine j_bipush (v := 10) d_Mo_readStatement_310 (by decide) ?_
      refine j_icmp_eq (tgt := 320) d_Mo_readStatement_312 (by decide) (fun c47 => ?_) (fun c47 => ?_)
      · replace h := it_t c47 h
        refine j_aload_n d_Mo_readStatement_320 rfl 1 rfl ?_
        refine j_dup rfl d_Mo_readStatement_321 ?_
        refine j_get ig_Mo rfl 13 rfl 17 (by decide) rfl m_1130 rfl d_Mo_readStatement_322 ?_
        refine j_iconst (v := 1) d_Mo_readStatement_325 (by decide) ?_
        refine j_iadd d_Mo_readStatement_326 ?_
        refine j_put (ws' := [((am 20), .inr (8, [.ref a_all_m20, .int size_m20])), (a_all_m20, .inl (cI, n_a_all_m20, .inl b_a_all_m20)), ((am 2), .inl (cI, n_m2, .inl b_m2)), ((am 7), .inr (8, [.ref a_all_m7, .int size_m7])), (a_all_m7, .inl (cI, n_a_all_m7, .inl b_a_all_m7)), ((am 6), .inr (8, [.ref a_all_m6, .int size_m6])), (a_all_m6, .inl (cI, n_a_all_m6, .inl b_a_all_m6)), ((am 4), .inr (8, [.ref a_all_m4, .int size_m4])), (a_all_m4, .inl (cI, n_a_all_m4, .inl b_a_all_m4)), ((am 22), .inr (8, [.ref a_all_m22, .int size_m22])), (a_all_m22, .inl (cI, n_a_all_m22, .inl b_a_all_m22)), ((am 5), .inr (8, [.ref a_all_m5, .int size_m5])), (a_all_m5, .inl (cI, n_a_all_m5, .inl b_a_all_m5)), (h0, .inr (9, moF am known_h0 thrown_h0 wrong_h0 lastEnd_h0 (at_h0 + 1) bad_h0 levels_h0 least_h0 found_h0)), ((am 21), .inr (8, [.ref a_all_m21, .int size_m21])), (a_all_m21, .inl (cI, n_a_all_m21, .inl b_a_all_m21))]) ig_Mo tk_Mo nm_Mo rfl 13 rfl 17 (by decide) rfl m_1130 rfl (tk_Mo 17 (by decide)) rfl rfl (Nat.le_of_ble_eq_true rfl) d_Mo_readStatement_327 rfl ?_
        refine j_aload_n d_Mo_readStatement_330 rfl 1 rfl ?_
        replace h := bw_s h
        obtain ⟨⟨r48, r49, r50, r51, r52, r53, r54⟩, C57, S58, C59, S60, k61, h, e1, e2⟩ := h
        replace hC : 0 + C57 + C59 ≤ mc := by omega
        replace hS : 0 + S58 + S60 ≤ ms := by omega
        clear e1 e2
        refine j_callV (n := 0) (As := []) (rest := []) (wr := [((am 7), .inr (8, [.ref a_all_m7, .int size_m7])), (a_all_m7, .inl (cI, n_a_all_m7, .inl b_a_all_m7)), ((am 6), .inr (8, [.ref a_all_m6, .int size_m6])), (a_all_m6, .inl (cI, n_a_all_m6, .inl b_a_all_m6)), ((am 4), .inr (8, [.ref a_all_m4, .int size_m4])), (a_all_m4, .inl (cI, n_a_all_m4, .inl b_a_all_m4)), ((am 22), .inr (8, [.ref a_all_m22, .int size_m22])), (a_all_m22, .inl (cI, n_a_all_m22, .inl b_a_all_m22)), ((am 21), .inr (8, [.ref a_all_m21, .int size_m21])), (a_all_m21, .inl (cI, n_a_all_m21, .inl b_a_all_m21))]) (c_Mo_readCondition l D cI cB cJ cS h0 am a_all_m5 a_all_m20 known_h0 thrown_h0 wrong_h0 lastEnd_h0 (at_h0 + 1) bad_h0 levels_h0 least_h0 found_h0 size_m5 n_a_all_m5 b_a_all_m5 size_m20 n_a_all_m20 b_a_all_m20 n_m2 b_m2  r48 r49 r50 r51 r52 r53 r54 C57 S58 k61) k_Mo_368 (by decide) ⟨Nat.le_of_ble_eq_true rfl, Nat.le_of_ble_eq_true rfl⟩ rfl 0 rfl [13, 11, 12, 0, 1, 2] [3, 4, 5, 6, 7, 8, 9, 10, 14, 15] rfl (by decide +kernel) rfl (by decide +kernel) (by decide +kernel) rfl rfl (Nat.le_of_ble_eq_true rfl) d_Mo_readStatement_331 ⟨show 0 + C57 ≤ mc by omega, show 0 + S58 ≤ ms by omega⟩ (fun v w hq => ?_)
        obtain ⟨q55, rfl, z56, rfl⟩ := hq
        refine j_norm (pc' := 334) (st' := [.int r48]) (ws' := [((am 7), .inr (8, [.ref a_all_m7, .int size_m7])), (a_all_m7, .inl (cI, n_a_all_m7, .inl b_a_all_m7)), ((am 6), .inr (8, [.ref a_all_m6, .int size_m6])), (a_all_m6, .inl (cI, n_a_all_m6, .inl b_a_all_m6)), ((am 4), .inr (8, [.ref a_all_m4, .int size_m4])), (a_all_m4, .inl (cI, n_a_all_m4, .inl b_a_all_m4)), ((am 22), .inr (8, [.ref a_all_m22, .int size_m22])), (a_all_m22, .inl (cI, n_a_all_m22, .inl b_a_all_m22)), ((am 21), .inr (8, [.ref a_all_m21, .int size_m21])), (a_all_m21, .inl (cI, n_a_all_m21, .inl b_a_all_m21)), (h0, .inr (9, moF am known_h0 thrown_h0 wrong_h0 lastEnd_h0 r49 r50 r51 least_h0 found_h0)), ((am 5), .inr (8, [.ref a_all_m5, .int size_m5])), (a_all_m5, .inl (cI, n_a_all_m5, .inl b_a_all_m5)), ((am 20), .inr (8, [.ref q55, .int r52])), ((am 2), .inl (cI, n_m2, .inl b_m2)), (q55, .inl (cI, r53, .inl r54))]) (cl' := 0 + C57) (sl' := 0 + S58) rfl rfl rfl rfl rfl rfl ?_
        replace h := lf_s h
        obtain ⟨h, e1, e2⟩ := h
        replace h := Prod.mk.inj h
        obtain ⟨h9, h⟩ := h
        subst h9
        replace h := Prod.mk.inj h
        obtain ⟨h9, h⟩ := h
        subst h9
        replace h := Prod.mk.inj h
        obtain ⟨h9, h⟩ := h
        subst h9
        replace h := Prod.mk.inj h
        obtain ⟨h9, h⟩ := h
        subst h9
        replace h := Prod.mk.inj h
        obtain ⟨h9, h⟩ := h
        subst h9
        replace h := Prod.mk.inj h
        obtain ⟨h9, h⟩ := h
        subst h9
        replace h := Prod.mk.inj h
        obtain ⟨h9, h⟩ := h
        subst h9
        replace h := Prod.mk.inj h
        obtain ⟨h9, h⟩ := h
        subst h9
        replace h := Prod.mk.inj h
        obtain ⟨h9, h⟩ := h
        subst h9
        replace h := Prod.mk.inj h
        obtain ⟨h9, h⟩ := h
        subst h9
        replace h := Prod.mk.inj h
        obtain ⟨h9, h⟩ := h
        subst h9
        replace h := Prod.mk.inj h
        obtain ⟨h9, h⟩ := h
        subst h9
        replace h := Prod.mk.inj h
        obtain ⟨h9, h⟩ := h
        subst h9
        subst h
        refine j_widen (cl' := mc) (sl' := ms) (by omega) (by omega) ?_
        exact j_zret (w := [(h0, .inr (9, moF am known_h0 thrown_h0 wrong_h0 lastEnd_h0 r49 r50 r51 least_h0 found_h0)), ((am 5), .inr (8, [.ref a_all_m5, .int size_m5])), (a_all_m5, .inl (cI, n_a_all_m5, .inl b_a_all_m5)), ((am 20), .inr (8, [.ref q55, .int r52])), ((am 2), .inl (cI, n_m2, .inl b_m2)), ((am 21), .inr (8, [.ref a_all_m21, .int size_m21])), ((am 7), .inr (8, [.ref a_all_m7, .int size_m7])), (a_all_m7, .inl (cI, n_a_all_m7, .inl b_a_all_m7)), ((am 6), .inr (8, [.ref a_all_m6, .int size_m6])), (a_all_m6, .inl (cI, n_a_all_m6, .inl b_a_all_m6)), ((am 4), .inr (8, [.ref a_all_m4, .int size_m4])), (a_all_m4, .inl (cI, n_a_all_m4, .inl b_a_all_m4)), ((am 22), .inr (8, [.ref a_all_m22, .int size_m22])), (q55, .inl (cI, r53, .inl r54)), (a_all_m21, .inl (cI, n_a_all_m21, .inl b_a_all_m21)), (a_all_m22, .inl (cI, n_a_all_m22, .inl b_a_all_m22))]) hr (zb_n z56) d_Mo_readStatement_334 [10, 11, 12, 13, 14, 8, 0, 1, 2, 3, 4, 5, 6, 15, 9, 7] rfl (by decide) ⟨q55, a_all_m21, a_all_m22, rfl, z56, rfl⟩
      · replace h := it_f c47 h
        refine j_aload_n d_Mo_readStatement_315 rfl 1 rfl ?_
        refine j_callV (n := 0) (As := []) (rest := []) (wr := [((am 20), .inr (8, [.ref a_all_m20, .int size_m20])), (a_all_m20, .inl (cI, n_a_all_m20, .inl b_a_all_m20)), ((am 2), .inl (cI, n_m2, .inl b_m2)), ((am 7), .inr (8, [.ref a_all_m7, .int size_m7])), (a_all_m7, .inl (cI, n_a_all_m7, .inl b_a_all_m7)), ((am 6), .inr (8, [.ref a_all_m6, .int size_m6])), (a_all_m6, .inl (cI, n_a_all_m6, .inl b_a_all_m6)), ((am 4), .inr (8, [.ref a_all_m4, .int size_m4])), (a_all_m4, .inl (cI, n_a_all_m4, .inl b_a_all_m4)), ((am 22), .inr (8, [.ref a_all_m22, .int size_m22])), (a_all_m22, .inl (cI, n_a_all_m22, .inl b_a_all_m22)), ((am 5), .inr (8, [.ref a_all_m5, .int size_m5])), (a_all_m5, .inl (cI, n_a_all_m5, .inl b_a_all_m5)), ((am 21), .inr (8, [.ref a_all_m21, .int size_m21])), (a_all_m21, .inl (cI, n_a_all_m21, .inl b_a_all_m21))]) (c_Mo_fail l D cI cB cJ cS h0 am known_h0 thrown_h0 wrong_h0 lastEnd_h0 at_h0 bad_h0 levels_h0 least_h0 found_h0  ) k_Mo_278 (by decide) ⟨Nat.le_of_ble_eq_true rfl, Nat.le_of_ble_eq_true rfl⟩ rfl 0 rfl [13] [0, 1, 2, 3, 4, 5, 6, 7, 8, 9, 10, 11, 12, 14, 15] rfl (by decide +kernel) rfl (by decide +kernel) (by decide +kernel) rfl rfl (Nat.le_of_ble_eq_true rfl) d_Mo_readStatement_316 ⟨show 0 + 0 ≤ mc by omega, show 0 + 0 ≤ ms by omega⟩ (fun v w hq => ?_)
        obtain ⟨rfl, _, rfl⟩ := hq
        refine j_norm (pc' := 319) (st' := [.int 0]) (ws' := [((am 20), .inr (8, [.ref a_all_m20, .int size_m20])), (a_all_m20, .inl (cI, n_a_all_m20, .inl b_a_all_m20)), ((am 2), .inl (cI, n_m2, .inl b_m2)), ((am 7), .inr (8, [.ref a_all_m7, .int size_m7])), (a_all_m7, .inl (cI, n_a_all_m7, .inl b_a_all_m7)), ((am 6), .inr (8, [.ref a_all_m6, .int size_m6])), (a_all_m6, .inl (cI, n_a_all_m6, .inl b_a_all_m6)), ((am 4), .inr (8, [.ref a_all_m4, .int size_m4])), (a_all_m4, .inl (cI, n_a_all_m4, .inl b_a_all_m4)), ((am 22), .inr (8, [.ref a_all_m22, .int size_m22])), (a_all_m22, .inl (cI, n_a_all_m22, .inl b_a_all_m22)), ((am 5), .inr (8, [.ref a_all_m5, .int size_m5])), (a_all_m5, .inl (cI, n_a_all_m5, .inl b_a_all_m5)), ((am 21), .inr (8, [.ref a_all_m21, .int size_m21])), (a_all_m21, .inl (cI, n_a_all_m21, .inl b_a_all_m21)), (h0, .inr (9, moF am known_h0 thrown_h0 wrong_h0 lastEnd_h0 at_h0 at_h0 levels_h0 least_h0 found_h0))]) (cl' := 0) (sl' := 0) rfl rfl rfl rfl rfl rfl ?_
        replace h := lf_s h
        obtain ⟨h, e1, e2⟩ := h
        replace h := Prod.mk.inj h
        obtain ⟨h9, h⟩ := h
        subst h9
        replace h := Prod.mk.inj h
        obtain ⟨h9, h⟩ := h
        subst h9
        replace h := Prod.mk.inj h
        obtain ⟨h9, h⟩ := h
        subst h9
        replace h := Prod.mk.inj h
        obtain ⟨h9, h⟩ := h
        subst h9
        replace h := Prod.mk.inj h
        obtain ⟨h9, h⟩ := h
        subst h9
        replace h := Prod.mk.inj h
        obtain ⟨h9, h⟩ := h
        subst h9
        replace h := Prod.mk.inj h
        obtain ⟨h9, h⟩ := h
        subst h9
        replace h := Prod.mk.inj h
        obtain ⟨h9, h⟩ := h
        subst h9
        replace h := Prod.mk.inj h
        obtain ⟨h9, h⟩ := h
        subst h9
        replace h := Prod.mk.inj h
        obtain ⟨h9, h⟩ := h
        subst h9
        replace h := Prod.mk.inj h
        obtain ⟨h9, h⟩ := h
        subst h9
        replace h := Prod.mk.inj h
        obtain ⟨h9, h⟩ := h
        subst h9
        replace h := Prod.mk.inj h
        obtain ⟨h9, h⟩ := h
        subst h9
        subst h
        refine j_widen (cl' := mc) (sl' := ms) (by omega) (by omega) ?_
        exact j_zret (w := [(h0, .inr (9, moF am known_h0 thrown_h0 wrong_h0 lastEnd_h0 at_h0 at_h0 levels_h0 least_h0 found_h0)), ((am 5), .inr (8, [.ref a_all_m5, .int size_m5])), (a_all_m5, .inl (cI, n_a_all_m5, .inl b_a_all_m5)), ((am 20), .inr (8, [.ref a_all_m20, .int size_m20])), ((am 2), .inl (cI, n_m2, .inl b_m2)), ((am 21), .inr (8, [.ref a_all_m21, .int size_m21])), ((am 7), .inr (8, [.ref a_all_m7, .int size_m7])), (a_all_m7, .inl (cI, n_a_all_m7, .inl b_a_all_m7)), ((am 6), .inr (8, [.ref a_all_m6, .int size_m6])), (a_all_m6, .inl (cI, n_a_all_m6, .inl b_a_all_m6)), ((am 4), .inr (8, [.ref a_all_m4, .int size_m4])), (a_all_m4, .inl (cI, n_a_all_m4, .inl b_a_all_m4)), ((am 22), .inr (8, [.ref a_all_m22, .int size_m22])), (a_all_m20, .inl (cI, n_a_all_m20, .inl b_a_all_m20)), (a_all_m21, .inl (cI, n_a_all_m21, .inl b_a_all_m21)), (a_all_m22, .inl (cI, n_a_all_m22, .inl b_a_all_m22))]) hr (zb_n zb0) d_Mo_readStatement_319 [15, 11, 12, 0, 2, 13, 3, 4, 5, 6, 7, 8, 9, 1, 14, 10] rfl (by decide) ⟨a_all_m20, a_all_m21, a_all_m22, rfl, zb0, rfl⟩
    · replace h := it_f c44 h
      by_cases c63 : (b_a_all_m5 (Int32.toNatClampNeg at_h0)) = 12
      · replace h := it_t c63 h
        refine j_tabIn (tgt := 335) (off := 329) d_Mo_readStatement_6 12 c63 (by decide) (by decide) (by decide) (by decide) ?_
        refine j_aload_n d_Mo_readStatement_335 rfl 1 rfl ?_
        replace h := bd_s h
        obtain ⟨r64, k65, h⟩ := h
        refine j_callV (n := 0) (As := []) (rest := []) (wr := [((am 20), .inr (8, [.ref a_all_m20, .int size_m20])), (a_all_m20, .inl (cI, n_a_all_m20, .inl b_a_all_m20)), ((am 2), .inl (cI, n_m2, .inl b_m2)), ((am 7), .inr (8, [.ref a_all_m7, .int size_m7])), (a_all_m7, .inl (cI, n_a_all_m7, .inl b_a_all_m7)), ((am 6), .inr (8, [.ref a_all_m6, .int size_m6])), (a_all_m6, .inl (cI, n_a_all_m6, .inl b_a_all_m6)), ((am 4), .inr (8, [.ref a_all_m4, .int size_m4])), (a_all_m4, .inl (cI, n_a_all_m4, .inl b_a_all_m4)), ((am 22), .inr (8, [.ref a_all_m22, .int size_m22])), (a_all_m22, .inl (cI, n_a_all_m22, .inl b_a_all_m22)), ((am 5), .inr (8, [.ref a_all_m5, .int size_m5])), (a_all_m5, .inl (cI, n_a_all_m5, .inl b_a_all_m5))]) (c_Mo_block l D cI cB cJ cS h0 am a_all_m21 known_h0 thrown_h0 wrong_h0 lastEnd_h0 at_h0 bad_h0 levels_h0 least_h0 found_h0 size_m21 n_a_all_m21 b_a_all_m21  r64 k65) k_Mo_371 (by decide) ⟨Nat.le_of_ble_eq_true rfl, Nat.le_of_ble_eq_true rfl⟩ rfl 0 rfl [13, 3, 4] [0, 1, 2, 5, 6, 7, 8, 9, 10, 11, 12, 14, 15] rfl (by decide +kernel) rfl (by decide +kernel) (by decide +kernel) rfl rfl (Nat.le_of_ble_eq_true rfl) d_Mo_readStatement_336 ⟨show 0 + 0 ≤ mc by omega, show 0 + 0 ≤ ms by omega⟩ (fun v w hq => ?_)
        obtain ⟨rfl, rfl⟩ := hq
        refine j_norm (pc' := 339) (st' := [.int r64]) (ws' := [((am 20), .inr (8, [.ref a_all_m20, .int size_m20])), (a_all_m20, .inl (cI, n_a_all_m20, .inl b_a_all_m20)), ((am 2), .inl (cI, n_m2, .inl b_m2)), ((am 7), .inr (8, [.ref a_all_m7, .int size_m7])), (a_all_m7, .inl (cI, n_a_all_m7, .inl b_a_all_m7)), ((am 6), .inr (8, [.ref a_all_m6, .int size_m6])), (a_all_m6, .inl (cI, n_a_all_m6, .inl b_a_all_m6)), ((am 4), .inr (8, [.ref a_all_m4, .int size_m4])), (a_all_m4, .inl (cI, n_a_all_m4, .inl b_a_all_m4)), ((am 22), .inr (8, [.ref a_all_m22, .int size_m22])), (a_all_m22, .inl (cI, n_a_all_m22, .inl b_a_all_m22)), ((am 5), .inr (8, [.ref a_all_m5, .int size_m5])), (a_all_m5, .inl (cI, n_a_all_m5, .inl b_a_all_m5)), (h0, .inr (9, moF am known_h0 thrown_h0 wrong_h0 lastEnd_h0 at_h0 bad_h0 levels_h0 least_h0 found_h0)), ((am 21), .inr (8, [.ref a_all_m21, .int size_m21])), (a_all_m21, .inl (cI, n_a_all_m21, .inl b_a_all_m21))]) (cl' := 0) (sl' := 0) rfl rfl rfl rfl rfl rfl ?_
        refine j_iload_n d_Mo_readStatement_339 rfl 0 rfl ?_
        refine j_bipush (v := 12) d_Mo_readStatement_340 (by decide) ?_
        refine j_icmp_ne (tgt := 350) d_Mo_readStatement_342 (by decide) (fun c66 => ?_) (fun c66 => ?_)
        · replace h := it_f c66 h
          refine j_bipush (v := 22) d_Mo_readStatement_350 (by decide) ?_
          refine j_sub (w := [((am 20), .inr (8, [.ref a_all_m20, .int size_m20])), (a_all_m20, .inl (cI, n_a_all_m20, .inl b_a_all_m20)), ((am 2), .inl (cI, n_m2, .inl b_m2)), ((am 7), .inr (8, [.ref a_all_m7, .int size_m7])), (a_all_m7, .inl (cI, n_a_all_m7, .inl b_a_all_m7)), ((am 6), .inr (8, [.ref a_all_m6, .int size_m6])), (a_all_m6, .inl (cI, n_a_all_m6, .inl b_a_all_m6)), ((am 4), .inr (8, [.ref a_all_m4, .int size_m4])), (a_all_m4, .inl (cI, n_a_all_m4, .inl b_a_all_m4)), ((am 22), .inr (8, [.ref a_all_m22, .int size_m22])), (a_all_m22, .inl (cI, n_a_all_m22, .inl b_a_all_m22)), ((am 5), .inr (8, [.ref a_all_m5, .int size_m5])), (a_all_m5, .inl (cI, n_a_all_m5, .inl b_a_all_m5)), (h0, .inr (9, moF am known_h0 thrown_h0 wrong_h0 lastEnd_h0 at_h0 bad_h0 levels_h0 least_h0 found_h0)), ((am 21), .inr (8, [.ref a_all_m21, .int size_m21])), (a_all_m21, .inl (cI, n_a_all_m21, .inl b_a_all_m21))]) (lv' := [(1, .int (b_a_all_m5 (Int32.toNatClampNeg at_h0))), (0, .ref h0)]) [0, 1, 2, 3, 4, 5, 6, 7, 8, 9, 10, 11, 12, 13, 14, 15] rfl (by decide +kernel) [0, 1] rfl ?_
          exact L_Mo_readStatement_352 l D cI cB cJ cS h0 am a_all_m5 a_all_m20 a_all_m21 a_all_m7 a_all_m6 a_all_m4 a_all_m22 known_h0 thrown_h0 wrong_h0 lastEnd_h0 at_h0 bad_h0 levels_h0 least_h0 found_h0 size_m5 n_a_all_m5 b_a_all_m5 size_m20 n_a_all_m20 b_a_all_m20 n_m2 b_m2 size_m21 n_a_all_m21 b_a_all_m21 size_m7 n_a_all_m7 b_a_all_m7 size_m6 n_a_all_m6 b_a_all_m6 size_m4 n_a_all_m4 b_a_all_m4 size_m22 n_a_all_m22 b_a_all_m22 ret o_0_17 o_0_18 o_0_19 o_0_23 o_3_1 o_6_1 o_14_1 on_nq_3_0 ob_nq_3_0 on_nq_6_0 ob_nq_6_0 on_nq_14_0 ob_nq_14_0 mc ms p e s m below meth c hr hnm 22 r64 0 0 mc ms h hC hS
        · replace h := it_t c66 h
          refine j_bipush (v := 10) d_Mo_readStatement_345 (by decide) ?_
          refine j_goto (tgt := 352) d_Mo_readStatement_347 (by decide) ?_
          refine j_sub (w := [((am 20), .inr (8, [.ref a_all_m20, .int size_m20])), (a_all_m20, .inl (cI, n_a_all_m20, .inl b_a_all_m20)), ((am 2), .inl (cI, n_m2, .inl b_m2)), ((am 7), .inr (8, [.ref a_all_m7, .int size_m7])), (a_all_m7, .inl (cI, n_a_all_m7, .inl b_a_all_m7)), ((am 6), .inr (8, [.ref a_all_m6, .int size_m6])), (a_all_m6, .inl (cI, n_a_all_m6, .inl b_a_all_m6)), ((am 4), .inr (8, [.ref a_all_m4, .int size_m4])), (a_all_m4, .inl (cI, n_a_all_m4, .inl b_a_all_m4)), ((am 22), .inr (8, [.ref a_all_m22, .int size_m22])), (a_all_m22, .inl (cI, n_a_all_m22, .inl b_a_all_m22)), ((am 5), .inr (8, [.ref a_all_m5, .int size_m5])), (a_all_m5, .inl (cI, n_a_all_m5, .inl b_a_all_m5)), (h0, .inr (9, moF am known_h0 thrown_h0 wrong_h0 lastEnd_h0 at_h0 bad_h0 levels_h0 least_h0 found_h0)), ((am 21), .inr (8, [.ref a_all_m21, .int size_m21])), (a_all_m21, .inl (cI, n_a_all_m21, .inl b_a_all_m21))]) (lv' := [(1, .int (b_a_all_m5 (Int32.toNatClampNeg at_h0))), (0, .ref h0)]) [0, 1, 2, 3, 4, 5, 6, 7, 8, 9, 10, 11, 12, 13, 14, 15] rfl (by decide +kernel) [0, 1] rfl ?_
          exact L_Mo_readStatement_352 l D cI cB cJ cS h0 am a_all_m5 a_all_m20 a_all_m21 a_all_m7 a_all_m6 a_all_m4 a_all_m22 known_h0 thrown_h0 wrong_h0 lastEnd_h0 at_h0 bad_h0 levels_h0 least_h0 found_h0 size_m5 n_a_all_m5 b_a_all_m5 size_m20 n_a_all_m20 b_a_all_m20 n_m2 b_m2 size_m21 n_a_all_m21 b_a_all_m21 size_m7 n_a_all_m7 b_a_all_m7 size_m6 n_a_all_m6 b_a_all_m6 size_m4 n_a_all_m4 b_a_all_m4 size_m22 n_a_all_m22 b_a_all_m22 ret o_0_17 o_0_18 o_0_19 o_0_23 o_3_1 o_6_1 o_14_1 on_nq_3_0 ob_nq_3_0 on_nq_6_0 ob_nq_6_0 on_nq_14_0 ob_nq_14_0 mc ms p e s m below meth c hr hnm 10 r64 0 0 mc ms h hC hS
      · replace h := it_f c63 h
        by_cases c67 : (b_a_all_m5 (Int32.toNatClampNeg at_h0)) = 13
        · replace h := it_t c67 h
          refine j_tabIn (tgt := 388) (off := 382) d_Mo_readStatement_6 13 c67 (by decide) (by decide) (by decide) (by decide) ?_
          refine j_aload_n d_Mo_readStatement_388 rfl 1 rfl ?_
          replace h := bd_s h
          obtain ⟨r68, k69, h⟩ := h
          refine j_callV (n := 0) (As := []) (rest := []) (wr := [((am 20), .inr (8, [.ref a_all_m20, .int size_m20])), (a_all_m20, .inl (cI, n_a_all_m20, .inl b_a_all_m20)), ((am 2), .inl (cI, n_m2, .inl b_m2)), ((am 7), .inr (8, [.ref a_all_m7, .int size_m7])), (a_all_m7, .inl (cI, n_a_all_m7, .inl b_a_all_m7)), ((am 6), .inr (8, [.ref a_all_m6, .int size_m6])), (a_all_m6, .inl (cI, n_a_all_m6, .inl b_a_all_m6)), ((am 4), .inr (8, [.ref a_all_m4, .int size_m4])), (a_all_m4, .inl (cI, n_a_all_m4, .inl b_a_all_m4)), ((am 22), .inr (8, [.ref a_all_m22, .int size_m22])), (a_all_m22, .inl (cI, n_a_all_m22, .inl b_a_all_m22)), ((am 5), .inr (8, [.ref a_all_m5, .int size_m5])), (a_all_m5, .inl (cI, n_a_all_m5, .inl b_a_all_m5))]) (c_Mo_block l D cI cB cJ cS h0 am a_all_m21 known_h0 thrown_h0 wrong_h0 lastEnd_h0 at_h0 bad_h0 levels_h0 least_h0 found_h0 size_m21 n_a_all_m21 b_a_all_m21  r68 k69) k_Mo_371 (by decide) ⟨Nat.le_of_ble_eq_true rfl, Nat.le_of_ble_eq_true rfl⟩ rfl 0 rfl [13, 3, 4] [0, 1, 2, 5, 6, 7, 8, 9, 10, 11, 12, 14, 15] rfl (by decide +kernel) rfl (by decide +kernel) (by decide +kernel) rfl rfl (Nat.le_of_ble_eq_true rfl) d_Mo_readStatement_389 ⟨show 0 + 0 ≤ mc by omega, show 0 + 0 ≤ ms by omega⟩ (fun v w hq => ?_)
          obtain ⟨rfl, rfl⟩ := hq
          refine j_norm (pc' := 392) (st' := [.int r68]) (ws' := [((am 20), .inr (8, [.ref a_all_m20, .int size_m20])), (a_all_m20, .inl (cI, n_a_all_m20, .inl b_a_all_m20)), ((am 2), .inl (cI, n_m2, .inl b_m2)), ((am 7), .inr (8, [.ref a_all_m7, .int size_m7])), (a_all_m7, .inl (cI, n_a_all_m7, .inl b_a_all_m7)), ((am 6), .inr (8, [.ref a_all_m6, .int size_m6])), (a_all_m6, .inl (cI, n_a_all_m6, .inl b_a_all_m6)), ((am 4), .inr (8, [.ref a_all_m4, .int size_m4])), (a_all_m4, .inl (cI, n_a_all_m4, .inl b_a_all_m4)), ((am 22), .inr (8, [.ref a_all_m22, .int size_m22])), (a_all_m22, .inl (cI, n_a_all_m22, .inl b_a_all_m22)), ((am 5), .inr (8, [.ref a_all_m5, .int size_m5])), (a_all_m5, .inl (cI, n_a_all_m5, .inl b_a_all_m5)), (h0, .inr (9, moF am known_h0 thrown_h0 wrong_h0 lastEnd_h0 at_h0 bad_h0 levels_h0 least_h0 found_h0)), ((am 21), .inr (8, [.ref a_all_m21, .int size_m21])), (a_all_m21, .inl (cI, n_a_all_m21, .inl b_a_all_m21))]) (cl' := 0) (sl' := 0) rfl rfl rfl rfl rfl rfl ?_
          refine j_iconst (v := (-1)) d_Mo_readStatement_392 (by decide) ?_
          refine j_icmp_eq (tgt := 405) d_Mo_readStatement_393 (by decide) (fun c70 => ?_) (fun c70 => ?_)
          · replace h := it_t c70 h
            refine j_aload_n d_Mo_readStatement_405 rfl 1 rfl ?_
            refine j_callV (n := 0) (As := []) (rest := []) (wr := [((am 20), .inr (8, [.ref a_all_m20, .int size_m20])), (a_all_m20, .inl (cI, n_a_all_m20, .inl b_a_all_m20)), ((am 2), .inl (cI, n_m2, .inl b_m2)), ((am 7), .inr (8, [.ref a_all_m7, .int size_m7])), (a_all_m7, .inl (cI, n_a_all_m7, .inl b_a_all_m7)), ((am 6), .inr (8, [.ref a_all_m6, .int size_m6])), (a_all_m6, .inl (cI, n_a_all_m6, .inl b_a_all_m6)), ((am 4), .inr (8, [.ref a_all_m4, .int size_m4])), (a_all_m4, .inl (cI, n_a_all_m4, .inl b_a_all_m4)), ((am 22), .inr (8, [.ref a_all_m22, .int size_m22])), (a_all_m22, .inl (cI, n_a_all_m22, .inl b_a_all_m22)), ((am 5), .inr (8, [.ref a_all_m5, .int size_m5])), (a_all_m5, .inl (cI, n_a_all_m5, .inl b_a_all_m5)), ((am 21), .inr (8, [.ref a_all_m21, .int size_m21])), (a_all_m21, .inl (cI, n_a_all_m21, .inl b_a_all_m21))]) (c_Mo_fail l D cI cB cJ cS h0 am known_h0 thrown_h0 wrong_h0 lastEnd_h0 at_h0 bad_h0 levels_h0 least_h0 found_h0  ) k_Mo_278 (by decide) ⟨Nat.le_of_ble_eq_true rfl, Nat.le_of_ble_eq_true rfl⟩ rfl 0 rfl [13] [0, 1, 2, 3, 4, 5, 6, 7, 8, 9, 10, 11, 12, 14, 15] rfl (by decide +kernel) rfl (by decide +kernel) (by decide +kernel) rfl rfl (Nat.le_of_ble_eq_true rfl) d_Mo_readStatement_406 ⟨show 0 + 0 ≤ mc by omega, show 0 + 0 ≤ ms by omega⟩ (fun v w hq => ?_)
            obtain ⟨rfl, _, rfl⟩ := hq
            refine j_norm (pc' := 409) (st' := [.int 0]) (ws' := [((am 20), .inr (8, [.ref a_all_m20, .int size_m20])), (a_all_m20, .inl (cI, n_a_all_m20, .inl b_a_all_m20)), ((am 2), .inl (cI, n_m2, .inl b_m2)), ((am 7), .inr (8, [.ref a_all_m7, .int size_m7])), (a_all_m7, .inl (cI, n_a_all_m7, .inl b_a_all_m7)), ((am 6), .inr (8, [.ref a_all_m6, .int size_m6])), (a_all_m6, .inl (cI, n_a_all_m6, .inl b_a_all_m6)), ((am 4), .inr (8, [.ref a_all_m4, .int size_m4])), (a_all_m4, .inl (cI, n_a_all_m4, .inl b_a_all_m4)), ((am 22), .inr (8, [.ref a_all_m22, .int size_m22])), (a_all_m22, .inl (cI, n_a_all_m22, .inl b_a_all_m22)), ((am 5), .inr (8, [.ref a_all_m5, .int size_m5])), (a_all_m5, .inl (cI, n_a_all_m5, .inl b_a_all_m5)), ((am 21), .inr (8, [.ref a_all_m21, .int size_m21])), (a_all_m21, .inl (cI, n_a_all_m21, .inl b_a_all_m21)), (h0, .inr (9, moF am known_h0 thrown_h0 wrong_h0 lastEnd_h0 at_h0 at_h0 levels_h0 least_h0 found_h0))]) (cl' := 0) (sl' := 0) rfl rfl rfl rfl rfl rfl ?_
            replace h := lf_s h
            obtain ⟨h, e1, e2⟩ := h
            replace h := Prod.mk.inj h
            obtain ⟨h9, h⟩ := h
            subst h9
            replace h := Prod.mk.inj h
            obtain ⟨h9, h⟩ := h
            subst h9
            replace h := Prod.mk.inj h
            obtain ⟨h9, h⟩ := h
            subst h9
            replace h := Prod.mk.inj h
            obtain ⟨h9, h⟩ := h
            subst h9
            replace h := Prod.mk.inj h
            obtain ⟨h9, h⟩ := h
            subst h9
            replace h := Prod.mk.inj h
            obtain ⟨h9, h⟩ := h
            subst h9
            replace h := Prod.mk.inj h
            obtain ⟨h9, h⟩ := h
            subst h9
            replace h := Prod.mk.inj h
            obtain ⟨h9, h⟩ := h
            subst h9
            replace h := Prod.mk.inj h
            obtain ⟨h9, h⟩ := h
            subst h9
            replace h := Prod.mk.inj h
            obtain ⟨h9, h⟩ := h
            subst h9
            replace h := Prod.mk.inj h
            obtain ⟨h9, h⟩ := h
            subst h9
            replace h := Prod.mk.inj h
            obtain ⟨h9, h⟩ := h
            subst h9
            replace h := Prod.mk.inj h
            obtain ⟨h9, h⟩ := h
            subst h9
            subst h
            refine j_widen (cl' := mc) (sl' := ms) (by omega) (by omega) ?_
            exact j_zret (w := [(h0, .inr (9, moF am known_h0 thrown_h0 wrong_h0 lastEnd_h0 at_h0 at_h0 levels_h0 least_h0 found_h0)), ((am 5), .inr (8, [.ref a_all_m5, .int size_m5])), (a_all_m5, .inl (cI, n_a_all_m5, .inl b_a_all_m5)), ((am 20), .inr (8, [.ref a_all_m20, .int size_m20])), ((am 2), .inl (cI, n_m2, .inl b_m2)), ((am 21), .inr (8, [.ref a_all_m21, .int size_m21])), ((am 7), .inr (8, [.ref a_all_m7, .int size_m7])), (a_all_m7, .inl (cI, n_a_all_m7, .inl b_a_all_m7)), ((am 6), .inr (8, [.ref a_all_m6, .int size_m6])), (a_all_m6, .inl (cI, n_a_all_m6, .inl b_a_all_m6)), ((am 4), .inr (8, [.ref a_all_m4, .int size_m4])), (a_all_m4, .inl (cI, n_a_all_m4, .inl b_a_all_m4)), ((am 22), .inr (8, [.ref a_all_m22, .int size_m22])), (a_all_m20, .inl (cI, n_a_all_m20, .inl b_a_all_m20)), (a_all_m21, .inl (cI, n_a_all_m21, .inl b_a_all_m21)), (a_all_m22, .inl (cI, n_a_all_m22, .inl b_a_all_m22))]) hr (zb_n zb0) d_Mo_readStatement_409 [15, 11, 12, 0, 2, 13, 3, 4, 5, 6, 7, 8, 9, 1, 14, 10] rfl (by decide) ⟨a_all_m20, a_all_m21, a_all_m22, rfl, zb0, rfl⟩
          · replace h := it_f c70 h
            refine j_aload_n d_Mo_readStatement_396 rfl 1 rfl ?_
            replace h := bd_s h
            obtain ⟨r72, k73, h⟩ := h
            refine j_callV (n := 0) (As := []) (rest := []) (wr := [((am 20), .inr (8, [.ref a_all_m20, .int size_m20])), (a_all_m20, .inl (cI, n_a_all_m20, .inl b_a_all_m20)), ((am 2), .inl (cI, n_m2, .inl b_m2)), ((am 7), .inr (8, [.ref a_all_m7, .int size_m7])), (a_all_m7, .inl (cI, n_a_all_m7, .inl b_a_all_m7)), ((am 6), .inr (8, [.ref a_all_m6, .int size_m6])), (a_all_m6, .inl (cI, n_a_all_m6, .inl b_a_all_m6)), ((am 4), .inr (8, [.ref a_all_m4, .int size_m4])), (a_all_m4, .inl (cI, n_a_all_m4, .inl b_a_all_m4)), ((am 22), .inr (8, [.ref a_all_m22, .int size_m22])), (a_all_m22, .inl (cI, n_a_all_m22, .inl b_a_all_m22)), ((am 5), .inr (8, [.ref a_all_m5, .int size_m5])), (a_all_m5, .inl (cI, n_a_all_m5, .inl b_a_all_m5))]) (c_Mo_block l D cI cB cJ cS h0 am a_all_m21 known_h0 thrown_h0 wrong_h0 lastEnd_h0 at_h0 bad_h0 levels_h0 least_h0 found_h0 size_m21 n_a_all_m21 b_a_all_m21  r72 k73) k_Mo_371 (by decide) ⟨Nat.le_of_ble_eq_true rfl, Nat.le_of_ble_eq_true rfl⟩ rfl 0 rfl [13, 14, 15] [0, 1, 2, 3, 4, 5, 6, 7, 8, 9, 10, 11, 12] rfl (by decide +kernel) rfl (by decide +kernel) (by decide +kernel) rfl rfl (Nat.le_of_ble_eq_true rfl) d_Mo_readStatement_397 ⟨show 0 + 0 ≤ mc by omega, show 0 + 0 ≤ ms by omega⟩ (fun v w hq => ?_)
            obtain ⟨rfl, rfl⟩ := hq
            refine j_norm (pc' := 400) (st' := [.int r72]) (ws' := [((am 20), .inr (8, [.ref a_all_m20, .int size_m20])), (a_all_m20, .inl (cI, n_a_all_m20, .inl b_a_all_m20)), ((am 2), .inl (cI, n_m2, .inl b_m2)), ((am 7), .inr (8, [.ref a_all_m7, .int size_m7])), (a_all_m7, .inl (cI, n_a_all_m7, .inl b_a_all_m7)), ((am 6), .inr (8, [.ref a_all_m6, .int size_m6])), (a_all_m6, .inl (cI, n_a_all_m6, .inl b_a_all_m6)), ((am 4), .inr (8, [.ref a_all_m4, .int size_m4])), (a_all_m4, .inl (cI, n_a_all_m4, .inl b_a_all_m4)), ((am 22), .inr (8, [.ref a_all_m22, .int size_m22])), (a_all_m22, .inl (cI, n_a_all_m22, .inl b_a_all_m22)), ((am 5), .inr (8, [.ref a_all_m5, .int size_m5])), (a_all_m5, .inl (cI, n_a_all_m5, .inl b_a_all_m5)), (h0, .inr (9, moF am known_h0 thrown_h0 wrong_h0 lastEnd_h0 at_h0 bad_h0 levels_h0 least_h0 found_h0)), ((am 21), .inr (8, [.ref a_all_m21, .int size_m21])), (a_all_m21, .inl (cI, n_a_all_m21, .inl b_a_all_m21))]) (cl' := 0) (sl' := 0) rfl rfl rfl rfl rfl rfl ?_
            refine j_bipush (v := 22) d_Mo_readStatement_400 (by decide) ?_
            refine j_icmp_ne (tgt := 410) d_Mo_readStatement_402 (by decide) (fun c74 => ?_) (fun c74 => ?_)
            · replace h := it_f c74 h
              refine j_aload_n d_Mo_readStatement_410 rfl 1 rfl ?_
              refine j_dup rfl d_Mo_readStatement_411 ?_
              refine j_get ig_Mo rfl 13 rfl 17 (by decide) rfl m_1130 rfl d_Mo_readStatement_412 ?_
              refine j_iconst (v := 1) d_Mo_readStatement_415 (by decide) ?_
              refine j_iadd d_Mo_readStatement_416 ?_
              refine j_put (ws' := [((am 20), .inr (8, [.ref a_all_m20, .int size_m20])), (a_all_m20, .inl (cI, n_a_all_m20, .inl b_a_all_m20)), ((am 2), .inl (cI, n_m2, .inl b_m2)), ((am 7), .inr (8, [.ref a_all_m7, .int size_m7])), (a_all_m7, .inl (cI, n_a_all_m7, .inl b_a_all_m7)), ((am 6), .inr (8, [.ref a_all_m6, .int size_m6])), (a_all_m6, .inl (cI, n_a_all_m6, .inl b_a_all_m6)), ((am 4), .inr (8, [.ref a_all_m4, .int size_m4])), (a_all_m4, .inl (cI, n_a_all_m4, .inl b_a_all_m4)), ((am 22), .inr (8, [.ref a_all_m22, .int size_m22])), (a_all_m22, .inl (cI, n_a_all_m22, .inl b_a_all_m22)), ((am 5), .inr (8, [.ref a_all_m5, .int size_m5])), (a_all_m5, .inl (cI, n_a_all_m5, .inl b_a_all_m5)), (h0, .inr (9, moF am known_h0 thrown_h0 wrong_h0 lastEnd_h0 (at_h0 + 1) bad_h0 levels_h0 least_h0 found_h0)), ((am 21), .inr (8, [.ref a_all_m21, .int size_m21])), (a_all_m21, .inl (cI, n_a_all_m21, .inl b_a_all_m21))]) ig_Mo tk_Mo nm_Mo rfl 13 rfl 17 (by decide) rfl m_1130 rfl (tk_Mo 17 (by decide)) rfl rfl (Nat.le_of_ble_eq_true rfl) d_Mo_readStatement_417 rfl ?_
              refine j_aload_n d_Mo_readStatement_420 rfl 1 rfl ?_
              refine j_dup rfl d_Mo_readStatement_421 ?_
              refine j_get ig_Mo rfl 13 rfl 19 (by decide) rfl m_1132 rfl d_Mo_readStatement_422 ?_
              refine j_iconst (v := 1) d_Mo_readStatement_425 (by decide) ?_
              refine j_isub d_Mo_readStatement_426 ?_
              refine j_put (ws' := [((am 20), .inr (8, [.ref a_all_m20, .int size_m20])), (a_all_m20, .inl (cI, n_a_all_m20, .inl b_a_all_m20)), ((am 2), .inl (cI, n_m2, .inl b_m2)), ((am 7), .inr (8, [.ref a_all_m7, .int size_m7])), (a_all_m7, .inl (cI, n_a_all_m7, .inl b_a_all_m7)), ((am 6), .inr (8, [.ref a_all_m6, .int size_m6])), (a_all_m6, .inl (cI, n_a_all_m6, .inl b_a_all_m6)), ((am 4), .inr (8, [.ref a_all_m4, .int size_m4])), (a_all_m4, .inl (cI, n_a_all_m4, .inl b_a_all_m4)), ((am 22), .inr (8, [.ref a_all_m22, .int size_m22])), (a_all_m22, .inl (cI, n_a_all_m22, .inl b_a_all_m22)), ((am 5), .inr (8, [.ref a_all_m5, .int size_m5])), (a_all_m5, .inl (cI, n_a_all_m5, .inl b_a_all_m5)), (h0, .inr (9, moF am known_h0 thrown_h0 wrong_h0 lastEnd_h0 (at_h0 + 1) bad_h0 (levels_h0 - 1) least_h0 found_h0)), ((am 21), .inr (8, [.ref a_all_m21, .int size_m21])), (a_all_m21, .inl (cI, n_a_all_m21, .inl b_a_all_m21))]) ig_Mo tk_Mo nm_Mo rfl 13 rfl 19 (by decide) rfl m_1132 rfl (tk_Mo 19 (by decide)) rfl rfl (Nat.le_of_ble_eq_true rfl) d_Mo_readStatement_427 rfl ?_
              refine j_aload_n d_Mo_readStatement_430 rfl 1 rfl ?_
              refine j_get ig_Mo rfl 13 rfl 21 (by decide) rfl m_1134 rfl d_Mo_readStatement_431 ?_
              refine j_iconst (v := 1) d_Mo_readStatement_434 (by decide) ?_
              refine j_callV (n := 1) (As := [.int 1]) (rest := []) (wr := [((am 20), .inr (8, [.ref a_all_m20, .int size_m20])), (a_all_m20, .inl (cI, n_a_all_m20, .inl b_a_all_m20)), ((am 2), .inl (cI, n_m2, .inl b_m2)), ((am 7), .inr (8, [.ref a_all_m7, .int size_m7])), (a_all_m7, .inl (cI, n_a_all_m7, .inl b_a_all_m7)), ((am 6), .inr (8, [.ref a_all_m6, .int size_m6])), (a_all_m6, .inl (cI, n_a_all_m6, .inl b_a_all_m6)), ((am 4), .inr (8, [.ref a_all_m4, .int size_m4])), (a_all_m4, .inl (cI, n_a_all_m4, .inl b_a_all_m4)), ((am 22), .inr (8, [.ref a_all_m22, .int size_m22])), (a_all_m22, .inl (cI, n_a_all_m22, .inl b_a_all_m22)), ((am 5), .inr (8, [.ref a_all_m5, .int size_m5])), (a_all_m5, .inl (cI, n_a_all_m5, .inl b_a_all_m5)), (h0, .inr (9, moF am known_h0 thrown_h0 wrong_h0 lastEnd_h0 (at_h0 + 1) bad_h0 (levels_h0 - 1) least_h0 found_h0)), (a_all_m21, .inl (cI, n_a_all_m21, .inl b_a_all_m21))]) (c_Nm_drop l D cI cB cJ cS (am 21) a_all_m21 1 size_m21  ) k_Mo_211 (by decide) ⟨Nat.le_of_ble_eq_true rfl, Nat.le_of_ble_eq_true rfl⟩ rfl 0 rfl [14] [0, 1, 2, 3, 4, 5, 6, 7, 8, 9, 10, 11, 12, 13, 15] rfl (by decide +kernel) rfl (by decide +kernel) (by decide +kernel) rfl rfl (Nat.le_of_ble_eq_true rfl) d_Mo_readStatement_435 ⟨show 0 + 0 ≤ mc by omega, show 0 + 0 ≤ ms by omega⟩ (fun v w hq => ?_)
              obtain ⟨rfl, rfl⟩ := hq
              refine j_norm (pc' := 438) (st' := []) (ws' := [((am 20), .inr (8, [.ref a_all_m20, .int size_m20])), (a_all_m20, .inl (cI, n_a_all_m20, .inl b_a_all_m20)), ((am 2), .inl (cI, n_m2, .inl b_m2)), ((am 7), .inr (8, [.ref a_all_m7, .int size_m7])), (a_all_m7, .inl (cI, n_a_all_m7, .inl b_a_all_m7)), ((am 6), .inr (8, [.ref a_all_m6, .int size_m6])), (a_all_m6, .inl (cI, n_a_all_m6, .inl b_a_all_m6)), ((am 4), .inr (8, [.ref a_all_m4, .int size_m4])), (a_all_m4, .inl (cI, n_a_all_m4, .inl b_a_all_m4)), ((am 22), .inr (8, [.ref a_all_m22, .int size_m22])), (a_all_m22, .inl (cI, n_a_all_m22, .inl b_a_all_m22)), ((am 5), .inr (8, [.ref a_all_m5, .int size_m5])), (a_all_m5, .inl (cI, n_a_all_m5, .inl b_a_all_m5)), (h0, .inr (9, moF am known_h0 thrown_h0 wrong_h0 lastEnd_h0 (at_h0 + 1) bad_h0 (levels_h0 - 1) least_h0 found_h0)), (a_all_m21, .inl (cI, n_a_all_m21, .inl b_a_all_m21)), ((am 21), .inr (8, [.ref a_all_m21, .int (size_m21 - 1)]))]) (cl' := 0) (sl' := 0) rfl rfl rfl rfl rfl rfl ?_
              refine j_iconst (v := 1) d_Mo_readStatement_438 (by decide) ?_
              replace h := lf_s h
              obtain ⟨h, e1, e2⟩ := h
              replace h := Prod.mk.inj h
              obtain ⟨h9, h⟩ := h
              subst h9
              replace h := Prod.mk.inj h
              obtain ⟨h9, h⟩ := h
              subst h9
              replace h := Prod.mk.inj h
              obtain ⟨h9, h⟩ := h
              subst h9
              replace h := Prod.mk.inj h
              obtain ⟨h9, h⟩ := h
              subst h9
              replace h := Prod.mk.inj h
              obtain ⟨h9, h⟩ := h
              subst h9
              replace h := Prod.mk.inj h
              obtain ⟨h9, h⟩ := h
              subst h9
              replace h := Prod.mk.inj h
              obtain ⟨h9, h⟩ := h
              subst h9
              replace h := Prod.mk.inj h
              obtain ⟨h9, h⟩ := h
              subst h9
              replace h := Prod.mk.inj h
              obtain ⟨h9, h⟩ := h
              subst h9
              replace h := Prod.mk.inj h
              obtain ⟨h9, h⟩ := h
              subst h9
              replace h := Prod.mk.inj h
              obtain ⟨h9, h⟩ := h
              subst h9
              replace h := Prod.mk.inj h
              obtain ⟨h9, h⟩ := h
              subst h9
              replace h := Prod.mk.inj h
              obtain ⟨h9, h⟩ := h
              subst h9
              subst h
              refine j_widen (cl' := mc) (sl' := ms) (by omega) (by omega) ?_
              exact j_zret (w := [(h0, .inr (9, moF am known_h0 thrown_h0 wrong_h0 lastEnd_h0 (at_h0 + 1) bad_h0 (levels_h0 - 1) least_h0 found_h0)), ((am 5), .inr (8, [.ref a_all_m5, .int size_m5])), (a_all_m5, .inl (cI, n_a_all_m5, .inl b_a_all_m5)), ((am 20), .inr (8, [.ref a_all_m20, .int size_m20])), ((am 2), .inl (cI, n_m2, .inl b_m2)), ((am 21), .inr (8, [.ref a_all_m21, .int (size_m21 - 1)])), ((am 7), .inr (8, [.ref a_all_m7, .int size_m7])), (a_all_m7, .inl (cI, n_a_all_m7, .inl b_a_all_m7)), ((am 6), .inr (8, [.ref a_all_m6, .int size_m6])), (a_all_m6, .inl (cI, n_a_all_m6, .inl b_a_all_m6)), ((am 4), .inr (8, [.ref a_all_m4, .int size_m4])), (a_all_m4, .inl (cI, n_a_all_m4, .inl b_a_all_m4)), ((am 22), .inr (8, [.ref a_all_m22, .int size_m22])), (a_all_m20, .inl (cI, n_a_all_m20, .inl b_a_all_m20)), (a_all_m21, .inl (cI, n_a_all_m21, .inl b_a_all_m21)), (a_all_m22, .inl (cI, n_a_all_m22, .inl b_a_all_m22))]) hr (zb_n zb1) d_Mo_readStatement_439 [13, 11, 12, 0, 2, 15, 3, 4, 5, 6, 7, 8, 9, 1, 14, 10] rfl (by decide) ⟨a_all_m20, a_all_m21, a_all_m22, rfl, zb1, rfl⟩
            · replace h := it_t c74 h
              refine j_aload_n d_Mo_readStatement_405 rfl 1 rfl ?_
              refine j_callV (n := 0) (As := []) (rest := []) (wr := [((am 20), .inr (8, [.ref a_all_m20, .int size_m20])), (a_all_m20, .inl (cI, n_a_all_m20, .inl b_a_all_m20)), ((am 2), .inl (cI, n_m2, .inl b_m2)), ((am 7), .inr (8, [.ref a_all_m7, .int size_m7])), (a_all_m7, .inl (cI, n_a_all_m7, .inl b_a_all_m7)), ((am 6), .inr (8, [.ref a_all_m6, .int size_m6])), (a_all_m6, .inl (cI, n_a_all_m6, .inl b_a_all_m6)), ((am 4), .inr (8, [.ref a_all_m4, .int size_m4])), (a_all_m4, .inl (cI, n_a_all_m4, .inl b_a_all_m4)), ((am 22), .inr (8, [.ref a_all_m22, .int size_m22])), (a_all_m22, .inl (cI, n_a_all_m22, .inl b_a_all_m22)), ((am 5), .inr (8, [.ref a_all_m5, .int size_m5])), (a_all_m5, .inl (cI, n_a_all_m5, .inl b_a_all_m5)), ((am 21), .inr (8, [.ref a_all_m21, .int size_m21])), (a_all_m21, .inl (cI, n_a_all_m21, .inl b_a_all_m21))]) (c_Mo_fail l D cI cB cJ cS h0 am known_h0 thrown_h0 wrong_h0 lastEnd_h0 at_h0 bad_h0 levels_h0 least_h0 found_h0  ) k_Mo_278 (by decide) ⟨Nat.le_of_ble_eq_true rfl, Nat.le_of_ble_eq_true rfl⟩ rfl 0 rfl [13] [0, 1, 2, 3, 4, 5, 6, 7, 8, 9, 10, 11, 12, 14, 15] rfl (by decide +kernel) rfl (by decide +kernel) (by decide +kernel) rfl rfl (Nat.le_of_ble_eq_true rfl) d_Mo_readStatement_406 ⟨show 0 + 0 ≤ mc by omega, show 0 + 0 ≤ ms by omega⟩ (fun v w hq => ?_)
              obtain ⟨rfl, _, rfl⟩ := hq
              refine j_norm (pc' := 409) (st' := [.int 0]) (ws' := [((am 20), .inr (8, [.ref a_all_m20, .int size_m20])), (a_all_m20, .inl (cI, n_a_all_m20, .inl b_a_all_m20)), ((am 2), .inl (cI, n_m2, .inl b_m2)), ((am 7), .inr (8, [.ref a_all_m7, .int size_m7])), (a_all_m7, .inl (cI, n_a_all_m7, .inl b_a_all_m7)), ((am 6), .inr (8, [.ref a_all_m6, .int size_m6])), (a_all_m6, .inl (cI, n_a_all_m6, .inl b_a_all_m6)), ((am 4), .inr (8, [.ref a_all_m4, .int size_m4])), (a_all_m4, .inl (cI, n_a_all_m4, .inl b_a_all_m4)), ((am 22), .inr (8, [.ref a_all_m22, .int size_m22])), (a_all_m22, .inl (cI, n_a_all_m22, .inl b_a_all_m22)), ((am 5), .inr (8, [.ref a_all_m5, .int size_m5])), (a_all_m5, .inl (cI, n_a_all_m5, .inl b_a_all_m5)), ((am 21), .inr (8, [.ref a_all_m21, .int size_m21])), (a_all_m21, .inl (cI, n_a_all_m21, .inl b_a_all_m21)), (h0, .inr (9, moF am known_h0 thrown_h0 wrong_h0 lastEnd_h0 at_h0 at_h0 levels_h0 least_h0 found_h0))]) (cl' := 0) (sl' := 0) rfl rfl rfl rfl rfl rfl ?_
              replace h := lf_s h
              obtain ⟨h, e1, e2⟩ := h
              replace h := Prod.mk.inj h
              obtain ⟨h9, h⟩ := h
              subst h9
              replace h := Prod.mk.inj h
              obtain ⟨h9, h⟩ := h
              subst h9
              replace h := Prod.mk.inj h
              obtain ⟨h9, h⟩ := h
              subst h9
              replace h := Prod.mk.inj h
              obtain ⟨h9, h⟩ := h
              subst h9
              replace h := Prod.mk.inj h
              obtain ⟨h9, h⟩ := h
              subst h9
              replace h := Prod.mk.inj h
              obtain ⟨h9, h⟩ := h
              subst h9
              replace h := Prod.mk.inj h
              obtain ⟨h9, h⟩ := h
              subst h9
              replace h := Prod.mk.inj h
              obtain ⟨h9, h⟩ := h
              subst h9
              replace h := Prod.mk.inj h
              obtain ⟨h9, h⟩ := h
              subst h9
              replace h := Prod.mk.inj h
              obtain ⟨h9, h⟩ := h
              subst h9
              replace h := Prod.mk.inj h
              obtain ⟨h9, h⟩ := h
              subst h9
              replace h := Prod.mk.inj h
              obtain ⟨h9, h⟩ := h
              subst h9
              replace h := Prod.mk.inj h
              obtain ⟨h9, h⟩ := h
              subst h9
              subst h
              refine j_widen (cl' := mc) (sl' := ms) (by omega) (by omega) ?_
              exact j_zret (w := [(h0, .inr (9, moF am known_h0 thrown_h0 wrong_h0 lastEnd_h0 at_h0 at_h0 levels_h0 least_h0 found_h0)), ((am 5), .inr (8, [.ref a_all_m5, .int size_m5])), (a_all_m5, .inl (cI, n_a_all_m5, .inl b_a_all_m5)), ((am 20), .inr (8, [.ref a_all_m20, .int size_m20])), ((am 2), .inl (cI, n_m2, .inl b_m2)), ((am 21), .inr (8, [.ref a_all_m21, .int size_m21])), ((am 7), .inr (8, [.ref a_all_m7, .int size_m7])), (a_all_m7, .inl (cI, n_a_all_m7, .inl b_a_all_m7)), ((am 6), .inr (8, [.ref a_all_m6, .int size_m6])), (a_all_m6, .inl (cI, n_a_all_m6, .inl b_a_all_m6)), ((am 4), .inr (8, [.ref a_all_m4, .int size_m4])), (a_all_m4, .inl (cI, n_a_all_m4, .inl b_a_all_m4)), ((am 22), .inr (8, [.ref a_all_m22, .int size_m22])), (a_all_m20, .inl (cI, n_a_all_m20, .inl b_a_all_m20)), (a_all_m21, .inl (cI, n_a_all_m21, .inl b_a_all_m21)), (a_all_m22, .inl (cI, n_a_all_m22, .inl b_a_all_m22))]) hr (zb_n zb0) d_Mo_readStatement_409 [15, 11, 12, 0, 2, 13, 3, 4, 5, 6, 7, 8, 9, 1, 14, 10] rfl (by decide) ⟨a_all_m20, a_all_m21, a_all_m22, rfl, zb0, rfl⟩
        · replace h := it_f c67 h
          by_cases c77 : (b_a_all_m5 (Int32.toNatClampNeg at_h0)) = 14
          · replace h := it_t c77 h
            refine j_tabIn (tgt := 197) (off := 191) d_Mo_readStatement_6 14 c77 (by decide) (by decide) (by decide) (by decide) ?_
            refine j_aload_n d_Mo_readStatement_197 rfl 1 rfl ?_
            refine j_iload_n d_Mo_readStatement_198 rfl 0 rfl ?_
            replace h := bd_s h
            obtain ⟨⟨r78, r79, r80, r81⟩, k83, h⟩ := h
            refine j_callV (n := 1) (As := [.int (b_a_all_m5 (Int32.toNatClampNeg at_h0))]) (rest := []) (wr := [((am 20), .inr (8, [.ref a_all_m20, .int size_m20])), (a_all_m20, .inl (cI, n_a_all_m20, .inl b_a_all_m20)), ((am 2), .inl (cI, n_m2, .inl b_m2)), ((am 21), .inr (8, [.ref a_all_m21, .int size_m21])), (a_all_m21, .inl (cI, n_a_all_m21, .inl b_a_all_m21)), ((am 7), .inr (8, [.ref a_all_m7, .int size_m7])), (a_all_m7, .inl (cI, n_a_all_m7, .inl b_a_all_m7)), ((am 6), .inr (8, [.ref a_all_m6, .int size_m6])), (a_all_m6, .inl (cI, n_a_all_m6, .inl b_a_all_m6)), ((am 4), .inr (8, [.ref a_all_m4, .int size_m4])), (a_all_m4, .inl (cI, n_a_all_m4, .inl b_a_all_m4)), ((am 22), .inr (8, [.ref a_all_m22, .int size_m22])), (a_all_m22, .inl (cI, n_a_all_m22, .inl b_a_all_m22))]) (c_Mo_enter l D cI cB cJ cS h0 am a_all_m5 (b_a_all_m5 (Int32.toNatClampNeg at_h0)) known_h0 thrown_h0 wrong_h0 lastEnd_h0 at_h0 bad_h0 levels_h0 least_h0 found_h0 size_m5 n_a_all_m5 b_a_all_m5  r78 r79 r80 r81 k83) k_Mo_297 (by decide) ⟨Nat.le_of_ble_eq_true rfl, Nat.le_of_ble_eq_true rfl⟩ rfl 0 rfl [13, 14, 15] [0, 1, 2, 3, 4, 5, 6, 7, 8, 9, 10, 11, 12] rfl (by decide +kernel) rfl (by decide +kernel) (by decide +kernel) rfl rfl (Nat.le_of_ble_eq_true rfl) d_Mo_readStatement_199 ⟨show 0 + 0 ≤ mc by omega, show 0 + 0 ≤ ms by omega⟩ (fun v w hq => ?_)
            obtain ⟨rfl, z82, rfl⟩ := hq
            refine j_norm (pc' := 202) (st' := [.int r78]) (ws' := [((am 20), .inr (8, [.ref a_all_m20, .int size_m20])), (a_all_m20, .inl (cI, n_a_all_m20, .inl b_a_all_m20)), ((am 2), .inl (cI, n_m2, .inl b_m2)), ((am 21), .inr (8, [.ref a_all_m21, .int size_m21])), (a_all_m21, .inl (cI, n_a_all_m21, .inl b_a_all_m21)), ((am 7), .inr (8, [.ref a_all_m7, .int size_m7])), (a_all_m7, .inl (cI, n_a_all_m7, .inl b_a_all_m7)), ((am 6), .inr (8, [.ref a_all_m6, .int size_m6])), (a_all_m6, .inl (cI, n_a_all_m6, .inl b_a_all_m6)), ((am 4), .inr (8, [.ref a_all_m4, .int size_m4])), (a_all_m4, .inl (cI, n_a_all_m4, .inl b_a_all_m4)), ((am 22), .inr (8, [.ref a_all_m22, .int size_m22])), (a_all_m22, .inl (cI, n_a_all_m22, .inl b_a_all_m22)), (h0, .inr (9, moF am known_h0 thrown_h0 wrong_h0 lastEnd_h0 r79 r80 r81 least_h0 found_h0)), ((am 5), .inr (8, [.ref a_all_m5, .int size_m5])), (a_all_m5, .inl (cI, n_a_all_m5, .inl b_a_all_m5))]) (cl' := 0) (sl' := 0) rfl rfl rfl rfl rfl rfl ?_
            refine j_if_eq (tgt := 212) d_Mo_readStatement_202 (by decide) (fun c84 => ?_) (fun c84 => ?_)
            · replace h := it_t c84 h
              refine j_iconst (v := 0) d_Mo_readStatement_212 (by decide) ?_
              replace h := lf_s h
              obtain ⟨h, e1, e2⟩ := h
              replace h := Prod.mk.inj h
              obtain ⟨h9, h⟩ := h
              subst h9
              replace h := Prod.mk.inj h
              obtain ⟨h9, h⟩ := h
              subst h9
              replace h := Prod.mk.inj h
              obtain ⟨h9, h⟩ := h
              subst h9
              replace h := Prod.mk.inj h
              obtain ⟨h9, h⟩ := h
              subst h9
              replace h := Prod.mk.inj h
              obtain ⟨h9, h⟩ := h
              subst h9
              replace h := Prod.mk.inj h
              obtain ⟨h9, h⟩ := h
              subst h9
              replace h := Prod.mk.inj h
              obtain ⟨h9, h⟩ := h
              subst h9
              replace h := Prod.mk.inj h
              obtain ⟨h9, h⟩ := h
              subst h9
              replace h := Prod.mk.inj h
              obtain ⟨h9, h⟩ := h
              subst h9
              replace h := Prod.mk.inj h
              obtain ⟨h9, h⟩ := h
              subst h9
              replace h := Prod.mk.inj h
              obtain ⟨h9, h⟩ := h
              subst h9
              replace h := Prod.mk.inj h
              obtain ⟨h9, h⟩ := h
              subst h9
              replace h := Prod.mk.inj h
              obtain ⟨h9, h⟩ := h
              subst h9
              subst h
              refine j_widen (cl' := mc) (sl' := ms) (by omega) (by omega) ?_
              exact j_zret (w := [(h0, .inr (9, moF am known_h0 thrown_h0 wrong_h0 lastEnd_h0 r79 r80 r81 least_h0 found_h0)), ((am 5), .inr (8, [.ref a_all_m5, .int size_m5])), (a_all_m5, .inl (cI, n_a_all_m5, .inl b_a_all_m5)), ((am 20), .inr (8, [.ref a_all_m20, .int size_m20])), ((am 2), .inl (cI, n_m2, .inl b_m2)), ((am 21), .inr (8, [.ref a_all_m21, .int size_m21])), ((am 7), .inr (8, [.ref a_all_m7, .int size_m7])), (a_all_m7, .inl (cI, n_a_all_m7, .inl b_a_all_m7)), ((am 6), .inr (8, [.ref a_all_m6, .int size_m6])), (a_all_m6, .inl (cI, n_a_all_m6, .inl b_a_all_m6)), ((am 4), .inr (8, [.ref a_all_m4, .int size_m4])), (a_all_m4, .inl (cI, n_a_all_m4, .inl b_a_all_m4)), ((am 22), .inr (8, [.ref a_all_m22, .int size_m22])), (a_all_m20, .inl (cI, n_a_all_m20, .inl b_a_all_m20)), (a_all_m21, .inl (cI, n_a_all_m21, .inl b_a_all_m21)), (a_all_m22, .inl (cI, n_a_all_m22, .inl b_a_all_m22))]) hr (zb_n zb0) d_Mo_readStatement_213 [13, 14, 15, 0, 2, 3, 5, 6, 7, 8, 9, 10, 11, 1, 4, 12] rfl (by decide) ⟨a_all_m20, a_all_m21, a_all_m22, rfl, zb0, rfl⟩
            · replace h := it_f c84 h
              refine j_aload_n d_Mo_readStatement_205 rfl 1 rfl ?_
              replace h := bw_s h
              obtain ⟨⟨r85, r86, r87, r88, r89, r90, r91⟩, C94, S95, C96, S97, k98, h, e1, e2⟩ := h
              replace hC : 0 + C94 + C96 ≤ mc := by omega
              replace hS : 0 + S95 + S97 ≤ ms := by omega
              clear e1 e2
              refine j_callV (n := 0) (As := []) (rest := []) (wr := [((am 21), .inr (8, [.ref a_all_m21, .int size_m21])), (a_all_m21, .inl (cI, n_a_all_m21, .inl b_a_all_m21)), ((am 7), .inr (8, [.ref a_all_m7, .int size_m7])), (a_all_m7, .inl (cI, n_a_all_m7, .inl b_a_all_m7)), ((am 6), .inr (8, [.ref a_all_m6, .int size_m6])), (a_all_m6, .inl (cI, n_a_all_m6, .inl b_a_all_m6)), ((am 4), .inr (8, [.ref a_all_m4, .int size_m4])), (a_all_m4, .inl (cI, n_a_all_m4, .inl b_a_all_m4)), ((am 22), .inr (8, [.ref a_all_m22, .int size_m22])), (a_all_m22, .inl (cI, n_a_all_m22, .inl b_a_all_m22))]) (c_Mo_readCondition l D cI cB cJ cS h0 am a_all_m5 a_all_m20 known_h0 thrown_h0 wrong_h0 lastEnd_h0 r79 r80 r81 least_h0 found_h0 size_m5 n_a_all_m5 b_a_all_m5 size_m20 n_a_all_m20 b_a_all_m20 n_m2 b_m2  r85 r86 r87 r88 r89 r90 r91 C94 S95 k98) k_Mo_368 (by decide) ⟨Nat.le_of_ble_eq_true rfl, Nat.le_of_ble_eq_true rfl⟩ rfl 0 rfl [13, 14, 15, 0, 1, 2] [3, 4, 5, 6, 7, 8, 9, 10, 11, 12] rfl (by decide +kernel) rfl (by decide +kernel) (by decide +kernel) rfl rfl (Nat.le_of_ble_eq_true rfl) d_Mo_readStatement_206 ⟨show 0 + C94 ≤ mc by omega, show 0 + S95 ≤ ms by omega⟩ (fun v w hq => ?_)
              obtain ⟨q92, rfl, z93, rfl⟩ := hq
              refine j_norm (pc' := 209) (st' := [.int r85]) (ws' := [((am 21), .inr (8, [.ref a_all_m21, .int size_m21])), (a_all_m21, .inl (cI, n_a_all_m21, .inl b_a_all_m21)), ((am 7), .inr (8, [.ref a_all_m7, .int size_m7])), (a_all_m7, .inl (cI, n_a_all_m7, .inl b_a_all_m7)), ((am 6), .inr (8, [.ref a_all_m6, .int size_m6])), (a_all_m6, .inl (cI, n_a_all_m6, .inl b_a_all_m6)), ((am 4), .inr (8, [.ref a_all_m4, .int size_m4])), (a_all_m4, .inl (cI, n_a_all_m4, .inl b_a_all_m4)), ((am 22), .inr (8, [.ref a_all_m22, .int size_m22])), (a_all_m22, .inl (cI, n_a_all_m22, .inl b_a_all_m22)), (h0, .inr (9, moF am known_h0 thrown_h0 wrong_h0 lastEnd_h0 r86 r87 r88 least_h0 found_h0)), ((am 5), .inr (8, [.ref a_all_m5, .int size_m5])), (a_all_m5, .inl (cI, n_a_all_m5, .inl b_a_all_m5)), ((am 20), .inr (8, [.ref q92, .int r89])), ((am 2), .inl (cI, n_m2, .inl b_m2)), (q92, .inl (cI, r90, .inl r91))]) (cl' := 0 + C94) (sl' := 0 + S95) rfl rfl rfl rfl rfl rfl ?_
              refine j_if_ne (tgt := 214) d_Mo_readStatement_209 (by decide) (fun c99 => ?_) (fun c99 => ?_)
              · replace h := it_f c99 h
                refine j_aload_n d_Mo_readStatement_214 rfl 1 rfl ?_
                refine j_get ig_Mo rfl 10 rfl 21 (by decide) rfl m_1134 rfl d_Mo_readStatement_215 ?_
                refine j_iload_n d_Mo_readStatement_218 rfl 0 rfl ?_
                replace h := bw_s h
                obtain ⟨⟨r100, r101⟩, C103, S104, C105, S106, k107, h, e1, e2⟩ := h
                replace hC : 0 + C94 + C103 + C105 ≤ mc := by omega
                replace hS : 0 + S95 + S104 + S106 ≤ ms := by omega
                clear e1 e2
                refine j_callV (n := 1) (As := [.int (b_a_all_m5 (Int32.toNatClampNeg at_h0))]) (rest := []) (wr := [((am 7), .inr (8, [.ref a_all_m7, .int size_m7])), (a_all_m7, .inl (cI, n_a_all_m7, .inl b_a_all_m7)), ((am 6), .inr (8, [.ref a_all_m6, .int size_m6])), (a_all_m6, .inl (cI, n_a_all_m6, .inl b_a_all_m6)), ((am 4), .inr (8, [.ref a_all_m4, .int size_m4])), (a_all_m4, .inl (cI, n_a_all_m4, .inl b_a_all_m4)), ((am 22), .inr (8, [.ref a_all_m22, .int size_m22])), (a_all_m22, .inl (cI, n_a_all_m22, .inl b_a_all_m22)), (h0, .inr (9, moF am known_h0 thrown_h0 wrong_h0 lastEnd_h0 r86 r87 r88 least_h0 found_h0)), ((am 5), .inr (8, [.ref a_all_m5, .int size_m5])), (a_all_m5, .inl (cI, n_a_all_m5, .inl b_a_all_m5)), ((am 20), .inr (8, [.ref q92, .int r89])), ((am 2), .inl (cI, n_m2, .inl b_m2)), (q92, .inl (cI, r90, .inl r91))]) (c_Nm_add l D cI cB cJ cS (am 21) a_all_m21 (b_a_all_m5 (Int32.toNatClampNeg at_h0)) size_m21 n_a_all_m21 b_a_all_m21  r100 r101 C103 S104 k107) k_Mo_200 (by decide) ⟨Nat.le_of_ble_eq_true rfl, Nat.le_of_ble_eq_true rfl⟩ rfl 0 rfl [0, 1] [2, 3, 4, 5, 6, 7, 8, 9, 10, 11, 12, 13, 14, 15] rfl (by decide +kernel) rfl (by decide +kernel) (by decide +kernel) rfl rfl (Nat.le_of_ble_eq_true rfl) d_Mo_readStatement_219 ⟨show 0 + C94 + C103 ≤ mc by omega, show 0 + S95 + S104 ≤ ms by omega⟩ (fun v w hq => ?_)
                obtain ⟨q102, rfl, rfl⟩ := hq
                refine j_norm (pc' := 222) (st' := []) (ws' := [((am 7), .inr (8, [.ref a_all_m7, .int size_m7])), (a_all_m7, .inl (cI, n_a_all_m7, .inl b_a_all_m7)), ((am 6), .inr (8, [.ref a_all_m6, .int size_m6])), (a_all_m6, .inl (cI, n_a_all_m6, .inl b_a_all_m6)), ((am 4), .inr (8, [.ref a_all_m4, .int size_m4])), (a_all_m4, .inl (cI, n_a_all_m4, .inl b_a_all_m4)), ((am 22), .inr (8, [.ref a_all_m22, .int size_m22])), (a_all_m22, .inl (cI, n_a_all_m22, .inl b_a_all_m22)), (h0, .inr (9, moF am known_h0 thrown_h0 wrong_h0 lastEnd_h0 r86 r87 r88 least_h0 found_h0)), ((am 5), .inr (8, [.ref a_all_m5, .int size_m5])), (a_all_m5, .inl (cI, n_a_all_m5, .inl b_a_all_m5)), ((am 20), .inr (8, [.ref q92, .int r89])), ((am 2), .inl (cI, n_m2, .inl b_m2)), (q92, .inl (cI, r90, .inl r91)), ((am 21), .inr (8, [.ref q102, .int (size_m21 + 1)])), (q102, .inl (cI, r100, .inl r101))]) (cl' := 0 + C94 + C103) (sl' := 0 + S95 + S104) rfl rfl rfl rfl rfl rfl ?_
                refine j_iconst (v := 1) d_Mo_readStatement_222 (by decide) ?_
                replace h := lf_s h
                obtain ⟨h, e1, e2⟩ := h
                replace h := Prod.mk.inj h
                obtain ⟨h9, h⟩ := h
                subst h9
                replace h := Prod.mk.inj h
                obtain ⟨h9, h⟩ := h
                subst h9
                replace h := Prod.mk.inj h
                obtain ⟨h9, h⟩ := h
                subst h9
                replace h := Prod.mk.inj h
                obtain ⟨h9, h⟩ := h
                subst h9
                replace h := Prod.mk.inj h
                obtain ⟨h9, h⟩ := h
                subst h9
                replace h := Prod.mk.inj h
                obtain ⟨h9, h⟩ := h
                subst h9
                replace h := Prod.mk.inj h
                obtain ⟨h9, h⟩ := h
                subst h9
                replace h := Prod.mk.inj h
                obtain ⟨h9, h⟩ := h
                subst h9
                replace h := Prod.mk.inj h
                obtain ⟨h9, h⟩ := h
                subst h9
                replace h := Prod.mk.inj h
                obtain ⟨h9, h⟩ := h
                subst h9
                replace h := Prod.mk.inj h
                obtain ⟨h9, h⟩ := h
                subst h9
                replace h := Prod.mk.inj h
                obtain ⟨h9, h⟩ := h
                subst h9
                replace h := Prod.mk.inj h
                obtain ⟨h9, h⟩ := h
                subst h9
                subst h
                refine j_widen (cl' := mc) (sl' := ms) (by omega) (by omega) ?_
                exact j_zret (w := [(h0, .inr (9, moF am known_h0 thrown_h0 wrong_h0 lastEnd_h0 r86 r87 r88 least_h0 found_h0)), ((am 5), .inr (8, [.ref a_all_m5, .int size_m5])), (a_all_m5, .inl (cI, n_a_all_m5, .inl b_a_all_m5)), ((am 20), .inr (8, [.ref q92, .int r89])), ((am 2), .inl (cI, n_m2, .inl b_m2)), ((am 21), .inr (8, [.ref q102, .int (size_m21 + 1)])), ((am 7), .inr (8, [.ref a_all_m7, .int size_m7])), (a_all_m7, .inl (cI, n_a_all_m7, .inl b_a_all_m7)), ((am 6), .inr (8, [.ref a_all_m6, .int size_m6])), (a_all_m6, .inl (cI, n_a_all_m6, .inl b_a_all_m6)), ((am 4), .inr (8, [.ref a_all_m4, .int size_m4])), (a_all_m4, .inl (cI, n_a_all_m4, .inl b_a_all_m4)), ((am 22), .inr (8, [.ref a_all_m22, .int size_m22])), (q92, .inl (cI, r90, .inl r91)), (q102, .inl (cI, r100, .inl r101)), (a_all_m22, .inl (cI, n_a_all_m22, .inl b_a_all_m22))]) hr (zb_n zb1) d_Mo_readStatement_223 [8, 9, 10, 11, 12, 14, 0, 1, 2, 3, 4, 5, 6, 13, 15, 7] rfl (by decide) ⟨q92, q102, a_all_m22, rfl, zb1, rfl⟩
              · replace h := it_t c99 h
                refine j_iconst (v := 0) d_Mo_readStatement_212 (by decide) ?_
                replace h := lf_s h
                obtain ⟨h, e1, e2⟩ := h
                replace h := Prod.mk.inj h
                obtain ⟨h9, h⟩ := h
                subst h9
                replace h := Prod.mk.inj h
                obtain ⟨h9, h⟩ := h
                subst h9
                replace h := Prod.mk.inj h
                obtain ⟨h9, h⟩ := h
                subst h9
                replace h := Prod.mk.inj h
                obtain ⟨h9, h⟩ := h
                subst h9
                replace h := Prod.mk.inj h
                obtain ⟨h9, h⟩ := h
                subst h9
                replace h := Prod.mk.inj h
                obtain ⟨h9, h⟩ := h
                subst h9
                replace h := Prod.mk.inj h
                obtain ⟨h9, h⟩ := h
                subst h9
                replace h := Prod.mk.inj h
                obtain ⟨h9, h⟩ := h
                subst h9
                replace h := Prod.mk.inj h
                obtain ⟨h9, h⟩ := h
                subst h9
                replace h := Prod.mk.inj h
                obtain ⟨h9, h⟩ := h
                subst h9
                replace h := Prod.mk.inj h
                obtain ⟨h9, h⟩ := h
                subst h9
                replace h := Prod.mk.inj h
                obtain ⟨h9, h⟩ := h
                subst h9
                replace h := Prod.mk.inj h
                obtain ⟨h9, h⟩ := h
                subst h9
                subst h
                refine j_widen (cl' := mc) (sl' := ms) (by omega) (by omega) ?_
                exact j_zret (w := [(h0, .inr (9, moF am known_h0 thrown_h0 wrong_h0 lastEnd_h0 r86 r87 r88 least_h0 found_h0)), ((am 5), .inr (8, [.ref a_all_m5, .int size_m5])), (a_all_m5, .inl (cI, n_a_all_m5, .inl b_a_all_m5)), ((am 20), .inr (8, [.ref q92, .int r89])), ((am 2), .inl (cI, n_m2, .inl b_m2)), ((am 21), .inr (8, [.ref a_all_m21, .int size_m21])), ((am 7), .inr (8, [.ref a_all_m7, .int size_m7])), (a_all_m7, .inl (cI, n_a_all_m7, .inl b_a_all_m7)), ((am 6), .inr (8, [.ref a_all_m6, .int size_m6])), (a_all_m6, .inl (cI, n_a_all_m6, .inl b_a_all_m6)), ((am 4), .inr (8, [.ref a_all_m4, .int size_m4])), (a_all_m4, .inl (cI, n_a_all_m4, .inl b_a_all_m4)), ((am 22), .inr (8, [.ref a_all_m22, .int size_m22])), (q92, .inl (cI, r90, .inl r91)), (a_all_m21, .inl (cI, n_a_all_m21, .inl b_a_all_m21)), (a_all_m22, .inl (cI, n_a_all_m22, .inl b_a_all_m22))]) hr (zb_n zb0) d_Mo_readStatement_213 [10, 11, 12, 13, 14, 0, 2, 3, 4, 5, 6, 7, 8, 15, 1, 9] rfl (by decide) ⟨q92, a_all_m21, a_all_m22, rfl, zb0, rfl⟩
          · replace h := it_f c77 h
            by_cases c108 : (b_a_all_m5 (Int32.toNatClampNeg at_h0)) = 15
            · replace h := it_t c108 h
              refine j_tabIn (tgt := 224) (off := 218) d_Mo_readStatement_6 15 c108 (by decide) (by decide) (by decide) (by decide) ?_
              refine j_aload_n d_Mo_readStatement_224 rfl 1 rfl ?_
              refine j_iload_n d_Mo_readStatement_225 rfl 0 rfl ?_
              replace h := bd_s h
              obtain ⟨⟨r109, r110, r111, r112⟩, k114, h⟩ := h
              refine j_callV (n := 1) (As := [.int (b_a_all_m5 (Int32.toNatClampNeg at_h0))]) (rest := []) (wr := [((am 20), .inr (8, [.ref a_all_m20, .int size_m20])), (a_all_m20, .inl (cI, n_a_all_m20, .inl b_a_all_m20)), ((am 2), .inl (cI, n_m2, .inl b_m2)), ((am 21), .inr (8, [.ref a_all_m21, .int size_m21])), (a_all_m21, .inl (cI, n_a_all_m21, .inl b_a_all_m21)), ((am 7), .inr (8, [.ref a_all_m7, .int size_m7])), (a_all_m7, .inl (cI, n_a_all_m7, .inl b_a_all_m7)), ((am 6), .inr (8, [.ref a_all_m6, .int size_m6])), (a_all_m6, .inl (cI, n_a_all_m6, .inl b_a_all_m6)), ((am 4), .inr (8, [.ref a_all_m4, .int size_m4])), (a_all_m4, .inl (cI, n_a_all_m4, .inl b_a_all_m4)), ((am 22), .inr (8, [.ref a_all_m22, .int size_m22])), (a_all_m22, .inl (cI, n_a_all_m22, .inl b_a_all_m22))]) (c_Mo_enter l D cI cB cJ cS h0 am a_all_m5 (b_a_all_m5 (Int32.toNatClampNeg at_h0)) known_h0 thrown_h0 wrong_h0 lastEnd_h0 at_h0 bad_h0 levels_h0 least_h0 found_h0 size_m5 n_a_all_m5 b_a_all_m5  r109 r110 r111 r112 k114) k_Mo_297 (by decide) ⟨Nat.le_of_ble_eq_true rfl, Nat.le_of_ble_eq_true rfl⟩ rfl 0 rfl [13, 14, 15] [0, 1, 2, 3, 4, 5, 6, 7, 8, 9, 10, 11, 12] rfl (by decide +kernel) rfl (by decide +kernel) (by decide +kernel) rfl rfl (Nat.le_of_ble_eq_true rfl) d_Mo_readStatement_226 ⟨show 0 + 0 ≤ mc by omega, show 0 + 0 ≤ ms by omega⟩ (fun v w hq => ?_)
              obtain ⟨rfl, z113, rfl⟩ := hq
              refine j_norm (pc' := 229) (st' := [.int r109]) (ws' := [((am 20), .inr (8, [.ref a_all_m20, .int size_m20])), (a_all_m20, .inl (cI, n_a_all_m20, .inl b_a_all_m20)), ((am 2), .inl (cI, n_m2, .inl b_m2)), ((am 21), .inr (8, [.ref a_all_m21, .int size_m21])), (a_all_m21, .inl (cI, n_a_all_m21, .inl b_a_all_m21)), ((am 7), .inr (8, [.ref a_all_m7, .int size_m7])), (a_all_m7, .inl (cI, n_a_all_m7, .inl b_a_all_m7)), ((am 6), .inr (8, [.ref a_all_m6, .int size_m6])), (a_all_m6, .inl (cI, n_a_all_m6, .inl b_a_all_m6)), ((am 4), .inr (8, [.ref a_all_m4, .int size_m4])), (a_all_m4, .inl (cI, n_a_all_m4, .inl b_a_all_m4)), ((am 22), .inr (8, [.ref a_all_m22, .int size_m22])), (a_all_m22, .inl (cI, n_a_all_m22, .inl b_a_all_m22)), (h0, .inr (9, moF am known_h0 thrown_h0 wrong_h0 lastEnd_h0 r110 r111 r112 least_h0 found_h0)), ((am 5), .inr (8, [.ref a_all_m5, .int size_m5])), (a_all_m5, .inl (cI, n_a_all_m5, .inl b_a_all_m5))]) (cl' := 0) (sl' := 0) rfl rfl rfl rfl rfl rfl ?_
              refine j_if_eq (tgt := 274) d_Mo_readStatement_229 (by decide) (fun c115 => ?_) (fun c115 => ?_)
              · replace h := it_t c115 h
                refine j_iconst (v := 0) d_Mo_readStatement_274 (by decide) ?_
                replace h := lf_s h
                obtain ⟨h, e1, e2⟩ := h
                replace h := Prod.mk.inj h
                obtain ⟨h9, h⟩ := h
                subst h9
                replace h := Prod.mk.inj h
                obtain ⟨h9, h⟩ := h
                subst h9
                replace h := Prod.mk.inj h
                obtain ⟨h9, h⟩ := h
                subst h9
                replace h := Prod.mk.inj h
                obtain ⟨h9, h⟩ := h
                subst h9
                replace h := Prod.mk.inj h
                obtain ⟨h9, h⟩ := h
                subst h9
                replace h := Prod.mk.inj h
                obtain ⟨h9, h⟩ := h
                subst h9
                replace h := Prod.mk.inj h
                obtain ⟨h9, h⟩ := h
                subst h9
                replace h := Prod.mk.inj h
                obtain ⟨h9, h⟩ := h
                subst h9
                replace h := Prod.mk.inj h
                obtain ⟨h9, h⟩ := h
                subst h9
                replace h := Prod.mk.inj h
                obtain ⟨h9, h⟩ := h
                subst h9
                replace h := Prod.mk.inj h
                obtain ⟨h9, h⟩ := h
                subst h9
                replace h := Prod.mk.inj h
                obtain ⟨h9, h⟩ := h
                subst h9
                replace h := Prod.mk.inj h
                obtain ⟨h9, h⟩ := h
                subst h9
                subst h
                refine j_widen (cl' := mc) (sl' := ms) (by omega) (by omega) ?_
                exact j_zret (w := [(h0, .inr (9, moF am known_h0 thrown_h0 wrong_h0 lastEnd_h0 r110 r111 r112 least_h0 found_h0)), ((am 5), .inr (8, [.ref a_all_m5, .int size_m5])), (a_all_m5, .inl (cI, n_a_all_m5, .inl b_a_all_m5)), ((am 20), .inr (8, [.ref a_all_m20, .int size_m20])), ((am 2), .inl (cI, n_m2, .inl b_m2)), ((am 21), .inr (8, [.ref a_all_m21, .int size_m21])), ((am 7), .inr (8, [.ref a_all_m7, .int size_m7])), (a_all_m7, .inl (cI, n_a_all_m7, .inl b_a_all_m7)), ((am 6), .inr (8, [.ref a_all_m6, .int size_m6])), (a_all_m6, .inl (cI, n_a_all_m6, .inl b_a_all_m6)), ((am 4), .inr (8, [.ref a_all_m4, .int size_m4])), (a_all_m4, .inl (cI, n_a_all_m4, .inl b_a_all_m4)), ((am 22), .inr (8, [.ref a_all_m22, .int size_m22])), (a_all_m20, .inl (cI, n_a_all_m20, .inl b_a_all_m20)), (a_all_m21, .inl (cI, n_a_all_m21, .inl b_a_all_m21)), (a_all_m22, .inl (cI, n_a_all_m22, .inl b_a_all_m22))]) hr (zb_n zb0) d_Mo_readStatement_275 [13, 14, 15, 0, 2, 3, 5, 6, 7, 8, 9, 10, 11, 1, 4, 12] rfl (by decide) ⟨a_all_m20, a_all_m21, a_all_m22, rfl, zb0, rfl⟩
              · replace h := it_f c115 h
                refine j_aload_n d_Mo_readStatement_232 rfl 1 rfl ?_
                refine j_bipush (v := 50) d_Mo_readStatement_233 (by decide) ?_
                replace h := bd_s h
                obtain ⟨⟨r116, r117, r118, r119⟩, k121, h⟩ := h
                refine j_callV (n := 1) (As := [.int 50]) (rest := []) (wr := [((am 20), .inr (8, [.ref a_all_m20, .int size_m20])), (a_all_m20, .inl (cI, n_a_all_m20, .inl b_a_all_m20)), ((am 2), .inl (cI, n_m2, .inl b_m2)), ((am 21), .inr (8, [.ref a_all_m21, .int size_m21])), (a_all_m21, .inl (cI, n_a_all_m21, .inl b_a_all_m21)), ((am 7), .inr (8, [.ref a_all_m7, .int size_m7])), (a_all_m7, .inl (cI, n_a_all_m7, .inl b_a_all_m7)), ((am 6), .inr (8, [.ref a_all_m6, .int size_m6])), (a_all_m6, .inl (cI, n_a_all_m6, .inl b_a_all_m6)), ((am 4), .inr (8, [.ref a_all_m4, .int size_m4])), (a_all_m4, .inl (cI, n_a_all_m4, .inl b_a_all_m4)), ((am 22), .inr (8, [.ref a_all_m22, .int size_m22])), (a_all_m22, .inl (cI, n_a_all_m22, .inl b_a_all_m22))]) (c_Mo_enter l D cI cB cJ cS h0 am a_all_m5 50 known_h0 thrown_h0 wrong_h0 lastEnd_h0 r110 r111 r112 least_h0 found_h0 size_m5 n_a_all_m5 b_a_all_m5  r116 r117 r118 r119 k121) k_Mo_297 (by decide) ⟨Nat.le_of_ble_eq_true rfl, Nat.le_of_ble_eq_true rfl⟩ rfl 0 rfl [13, 14, 15] [0, 1, 2, 3, 4, 5, 6, 7, 8, 9, 10, 11, 12] rfl (by decide +kernel) rfl (by decide +kernel) (by decide +kernel) rfl rfl (Nat.le_of_ble_eq_true rfl) d_Mo_readStatement_235 ⟨show 0 + 0 ≤ mc by omega, show 0 + 0 ≤ ms by omega⟩ (fun v w hq => ?_)
                obtain ⟨rfl, z120, rfl⟩ := hq
                refine j_norm (pc' := 238) (st' := [.int r116]) (ws' := [((am 20), .inr (8, [.ref a_all_m20, .int size_m20])), (a_all_m20, .inl (cI, n_a_all_m20, .inl b_a_all_m20)), ((am 2), .inl (cI, n_m2, .inl b_m2)), ((am 21), .inr (8, [.ref a_all_m21, .int size_m21])), (a_all_m21, .inl (cI, n_a_all_m21, .inl b_a_all_m21)), ((am 7), .inr (8, [.ref a_all_m7, .int size_m7])), (a_all_m7, .inl (cI, n_a_all_m7, .inl b_a_all_m7)), ((am 6), .inr (8, [.ref a_all_m6, .int size_m6])), (a_all_m6, .inl (cI, n_a_all_m6, .inl b_a_all_m6)), ((am 4), .inr (8, [.ref a_all_m4, .int size_m4])), (a_all_m4, .inl (cI, n_a_all_m4, .inl b_a_all_m4)), ((am 22), .inr (8, [.ref a_all_m22, .int size_m22])), (a_all_m22, .inl (cI, n_a_all_m22, .inl b_a_all_m22)), (h0, .inr (9, moF am known_h0 thrown_h0 wrong_h0 lastEnd_h0 r117 r118 r119 least_h0 found_h0)), ((am 5), .inr (8, [.ref a_all_m5, .int size_m5])), (a_all_m5, .inl (cI, n_a_all_m5, .inl b_a_all_m5))]) (cl' := 0) (sl' := 0) rfl rfl rfl rfl rfl rfl ?_
                refine j_if_eq (tgt := 274) d_Mo_readStatement_238 (by decide) (fun c122 => ?_) (fun c122 => ?_)
                · replace h := it_t c122 h
                  refine j_iconst (v := 0) d_Mo_readStatement_274 (by decide) ?_
                  replace h := lf_s h
                  obtain ⟨h, e1, e2⟩ := h
                  replace h := Prod.mk.inj h
                  obtain ⟨h9, h⟩ := h
                  subst h9
                  replace h := Prod.mk.inj h
                  obtain ⟨h9, h⟩ := h
                  subst h9
                  replace h := Prod.mk.inj h
                  obtain ⟨h9, h⟩ := h
                  subst h9
                  replace h := Prod.mk.inj h
                  obtain ⟨h9, h⟩ := h
                  subst h9
                  replace h := Prod.mk.inj h
                  obtain ⟨h9, h⟩ := h
                  subst h9
                  replace h := Prod.mk.inj h
                  obtain ⟨h9, h⟩ := h
                  subst h9
                  replace h := Prod.mk.inj h
                  obtain ⟨h9, h⟩ := h
                  subst h9
                  replace h := Prod.mk.inj h
                  obtain ⟨h9, h⟩ := h
                  subst h9
                  replace h := Prod.mk.inj h
                  obtain ⟨h9, h⟩ := h
                  subst h9
                  replace h := Prod.mk.inj h
                  obtain ⟨h9, h⟩ := h
                  subst h9
                  replace h := Prod.mk.inj h
                  obtain ⟨h9, h⟩ := h
                  subst h9
                  replace h := Prod.mk.inj h
                  obtain ⟨h9, h⟩ := h
                  subst h9
                  replace h := Prod.mk.inj h
                  obtain ⟨h9, h⟩ := h
                  subst h9
                  subst h
                  refine j_widen (cl' := mc) (sl' := ms) (by omega) (by omega) ?_
                  exact j_zret (w := [(h0, .inr (9, moF am known_h0 thrown_h0 wrong_h0 lastEnd_h0 r117 r118 r119 least_h0 found_h0)), ((am 5), .inr (8, [.ref a_all_m5, .int size_m5])), (a_all_m5, .inl (cI, n_a_all_m5, .inl b_a_all_m5)), ((am 20), .inr (8, [.ref a_all_m20, .int size_m20])), ((am 2), .inl (cI, n_m2, .inl b_m2)), ((am 21), .inr (8, [.ref a_all_m21, .int size_m21])), ((am 7), .inr (8, [.ref a_all_m7, .int size_m7])), (a_all_m7, .inl (cI, n_a_all_m7, .inl b_a_all_m7)), ((am 6), .inr (8, [.ref a_all_m6, .int size_m6])), (a_all_m6, .inl (cI, n_a_all_m6, .inl b_a_all_m6)), ((am 4), .inr (8, [.ref a_all_m4, .int size_m4])), (a_all_m4, .inl (cI, n_a_all_m4, .inl b_a_all_m4)), ((am 22), .inr (8, [.ref a_all_m22, .int size_m22])), (a_all_m20, .inl (cI, n_a_all_m20, .inl b_a_all_m20)), (a_all_m21, .inl (cI, n_a_all_m21, .inl b_a_all_m21)), (a_all_m22, .inl (cI, n_a_all_m22, .inl b_a_all_m22))]) hr (zb_n zb0) d_Mo_readStatement_275 [13, 14, 15, 0, 2, 3, 5, 6, 7, 8, 9, 10, 11, 1, 4, 12] rfl (by decide) ⟨a_all_m20, a_all_m21, a_all_m22, rfl, zb0, rfl⟩
                · replace h := it_f c122 h
                  refine j_aload_n d_Mo_readStatement_241 rfl 1 rfl ?_
                  refine j_iconst (v := 2) d_Mo_readStatement_242 (by decide) ?_
                  replace h := bd_s h
                  obtain ⟨⟨r123, r124, r125⟩, k127, h⟩ := h
                  refine j_callV (n := 1) (As := [.int 2]) (rest := []) (wr := [((am 20), .inr (8, [.ref a_all_m20, .int size_m20])), (a_all_m20, .inl (cI, n_a_all_m20, .inl b_a_all_m20)), ((am 2), .inl (cI, n_m2, .inl b_m2)), ((am 21), .inr (8, [.ref a_all_m21, .int size_m21])), (a_all_m21, .inl (cI, n_a_all_m21, .inl b_a_all_m21)), ((am 7), .inr (8, [.ref a_all_m7, .int size_m7])), (a_all_m7, .inl (cI, n_a_all_m7, .inl b_a_all_m7)), ((am 6), .inr (8, [.ref a_all_m6, .int size_m6])), (a_all_m6, .inl (cI, n_a_all_m6, .inl b_a_all_m6)), ((am 4), .inr (8, [.ref a_all_m4, .int size_m4])), (a_all_m4, .inl (cI, n_a_all_m4, .inl b_a_all_m4)), ((am 22), .inr (8, [.ref a_all_m22, .int size_m22])), (a_all_m22, .inl (cI, n_a_all_m22, .inl b_a_all_m22))]) (c_Mo_take l D cI cB cJ cS h0 am a_all_m5 2 known_h0 thrown_h0 wrong_h0 lastEnd_h0 r117 r118 r119 least_h0 found_h0 size_m5 n_a_all_m5 b_a_all_m5  r123 r124 r125 k127) k_Mo_285 (by decide) ⟨Nat.le_of_ble_eq_true rfl, Nat.le_of_ble_eq_true rfl⟩ rfl 0 rfl [13, 14, 15] [0, 1, 2, 3, 4, 5, 6, 7, 8, 9, 10, 11, 12] rfl (by decide +kernel) rfl (by decide +kernel) (by decide +kernel) rfl rfl (Nat.le_of_ble_eq_true rfl) d_Mo_readStatement_243 ⟨show 0 + 0 ≤ mc by omega, show 0 + 0 ≤ ms by omega⟩ (fun v w hq => ?_)
                  obtain ⟨rfl, z126, rfl⟩ := hq
                  refine j_norm (pc' := 246) (st' := [.int r123]) (ws' := [((am 20), .inr (8, [.ref a_all_m20, .int size_m20])), (a_all_m20, .inl (cI, n_a_all_m20, .inl b_a_all_m20)), ((am 2), .inl (cI, n_m2, .inl b_m2)), ((am 21), .inr (8, [.ref a_all_m21, .int size_m21])), (a_all_m21, .inl (cI, n_a_all_m21, .inl b_a_all_m21)), ((am 7), .inr (8, [.ref a_all_m7, .int size_m7])), (a_all_m7, .inl (cI, n_a_all_m7, .inl b_a_all_m7)), ((am 6), .inr (8, [.ref a_all_m6, .int size_m6])), (a_all_m6, .inl (cI, n_a_all_m6, .inl b_a_all_m6)), ((am 4), .inr (8, [.ref a_all_m4, .int size_m4])), (a_all_m4, .inl (cI, n_a_all_m4, .inl b_a_all_m4)), ((am 22), .inr (8, [.ref a_all_m22, .int size_m22])), (a_all_m22, .inl (cI, n_a_all_m22, .inl b_a_all_m22)), (h0, .inr (9, moF am known_h0 thrown_h0 wrong_h0 lastEnd_h0 r124 r125 r119 least_h0 found_h0)), ((am 5), .inr (8, [.ref a_all_m5, .int size_m5])), (a_all_m5, .inl (cI, n_a_all_m5, .inl b_a_all_m5))]) (cl' := 0) (sl' := 0) rfl rfl rfl rfl rfl rfl ?_
                  refine j_if_eq (tgt := 274) d_Mo_readStatement_246 (by decide) (fun c128 => ?_) (fun c128 => ?_)
                  · replace h := it_t c128 h
                    refine j_iconst (v := 0) d_Mo_readStatement_274 (by decide) ?_
                    replace h := lf_s h
                    obtain ⟨h, e1, e2⟩ := h
                    replace h := Prod.mk.inj h
                    obtain ⟨h9, h⟩ := h
                    subst h9
                    replace h := Prod.mk.inj h
                    obtain ⟨h9, h⟩ := h
                    subst h9
                    replace h := Prod.mk.inj h
                    obtain ⟨h9, h⟩ := h
                    subst h9
                    replace h := Prod.mk.inj h
                    obtain ⟨h9, h⟩ := h
                    subst h9
                    replace h := Prod.mk.inj h
                    obtain ⟨h9, h⟩ := h
                    subst h9
                    replace h := Prod.mk.inj h
                    obtain ⟨h9, h⟩ := h
                    subst h9
                    replace h := Prod.mk.inj h
                    obtain ⟨h9, h⟩ := h
                    subst h9
                    replace h := Prod.mk.inj h
                    obtain ⟨h9, h⟩ := h
                    subst h9
                    replace h := Prod.mk.inj h
                    obtain ⟨h9, h⟩ := h
                    subst h9
                    replace h := Prod.mk.inj h
                    obtain ⟨h9, h⟩ := h
                    subst h9
                    replace h := Prod.mk.inj h
                    obtain ⟨h9, h⟩ := h
                    subst h9
                    replace h := Prod.mk.inj h
                    obtain ⟨h9, h⟩ := h
                    subst h9
                    replace h := Prod.mk.inj h
                    obtain ⟨h9, h⟩ := h
                    subst h9
                    subst h
                    refine j_widen (cl' := mc) (sl' := ms) (by omega) (by omega) ?_
                    exact j_zret (w := [(h0, .inr (9, moF am known_h0 thrown_h0 wrong_h0 lastEnd_h0 r124 r125 r119 least_h0 found_h0)), ((am 5), .inr (8, [.ref a_all_m5, .int size_m5])), (a_all_m5, .inl (cI, n_a_all_m5, .inl b_a_all_m5)), ((am 20), .inr (8, [.ref a_all_m20, .int size_m20])), ((am 2), .inl (cI, n_m2, .inl b_m2)), ((am 21), .inr (8, [.ref a_all_m21, .int size_m21])), ((am 7), .inr (8, [.ref a_all_m7, .int size_m7])), (a_all_m7, .inl (cI, n_a_all_m7, .inl b_a_all_m7)), ((am 6), .inr (8, [.ref a_all_m6, .int size_m6])), (a_all_m6, .inl (cI, n_a_all_m6, .inl b_a_all_m6)), ((am 4), .inr (8, [.ref a_all_m4, .int size_m4])), (a_all_m4, .inl (cI, n_a_all_m4, .inl b_a_all_m4)), ((am 22), .inr (8, [.ref a_all_m22, .int size_m22])), (a_all_m20, .inl (cI, n_a_all_m20, .inl b_a_all_m20)), (a_all_m21, .inl (cI, n_a_all_m21, .inl b_a_all_m21)), (a_all_m22, .inl (cI, n_a_all_m22, .inl b_a_all_m22))]) hr (zb_n zb0) d_Mo_readStatement_275 [13, 14, 15, 0, 2, 3, 5, 6, 7, 8, 9, 10, 11, 1, 4, 12] rfl (by decide) ⟨a_all_m20, a_all_m21, a_all_m22, rfl, zb0, rfl⟩
                  · replace h := it_f c128 h
                    refine j_aload_n d_Mo_readStatement_249 rfl 1 rfl ?_
                    refine j_bipush (v := 56) d_Mo_readStatement_250 (by decide) ?_
                    replace h := bd_s h
                    obtain ⟨⟨r129, r130, r131⟩, k133, h⟩ := h
                    refine j_callV (n := 1) (As := [.int 56]) (rest := []) (wr := [((am 20), .inr (8, [.ref a_all_m20, .int size_m20])), (a_all_m20, .inl (cI, n_a_all_m20, .inl b_a_all_m20)), ((am 2), .inl (cI, n_m2, .inl b_m2)), ((am 21), .inr (8, [.ref a_all_m21, .int size_m21])), (a_all_m21, .inl (cI, n_a_all_m21, .inl b_a_all_m21)), ((am 7), .inr (8, [.ref a_all_m7, .int size_m7])), (a_all_m7, .inl (cI, n_a_all_m7, .inl b_a_all_m7)), ((am 6), .inr (8, [.ref a_all_m6, .int size_m6])), (a_all_m6, .inl (cI, n_a_all_m6, .inl b_a_all_m6)), ((am 4), .inr (8, [.ref a_all_m4, .int size_m4])), (a_all_m4, .inl (cI, n_a_all_m4, .inl b_a_all_m4)), ((am 22), .inr (8, [.ref a_all_m22, .int size_m22])), (a_all_m22, .inl (cI, n_a_all_m22, .inl b_a_all_m22))]) (c_Mo_take l D cI cB cJ cS h0 am a_all_m5 56 known_h0 thrown_h0 wrong_h0 lastEnd_h0 r124 r125 r119 least_h0 found_h0 size_m5 n_a_all_m5 b_a_all_m5  r129 r130 r131 k133) k_Mo_285 (by decide) ⟨Nat.le_of_ble_eq_true rfl, Nat.le_of_ble_eq_true rfl⟩ rfl 0 rfl [13, 14, 15] [0, 1, 2, 3, 4, 5, 6, 7, 8, 9, 10, 11, 12] rfl (by decide +kernel) rfl (by decide +kernel) (by decide +kernel) rfl rfl (Nat.le_of_ble_eq_true rfl) d_Mo_readStatement_252 ⟨show 0 + 0 ≤ mc by omega, show 0 + 0 ≤ ms by omega⟩ (fun v w hq => ?_)
                    obtain ⟨rfl, z132, rfl⟩ := hq
                    refine j_norm (pc' := 255) (st' := [.int r129]) (ws' := [((am 20), .inr (8, [.ref a_all_m20, .int size_m20])), (a_all_m20, .inl (cI, n_a_all_m20, .inl b_a_all_m20)), ((am 2), .inl (cI, n_m2, .inl b_m2)), ((am 21), .inr (8, [.ref a_all_m21, .int size_m21])), (a_all_m21, .inl (cI, n_a_all_m21, .inl b_a_all_m21)), ((am 7), .inr (8, [.ref a_all_m7, .int size_m7])), (a_all_m7, .inl (cI, n_a_all_m7, .inl b_a_all_m7)), ((am 6), .inr (8, [.ref a_all_m6, .int size_m6])), (a_all_m6, .inl (cI, n_a_all_m6, .inl b_a_all_m6)), ((am 4), .inr (8, [.ref a_all_m4, .int size_m4])), (a_all_m4, .inl (cI, n_a_all_m4, .inl b_a_all_m4)), ((am 22), .inr (8, [.ref a_all_m22, .int size_m22])), (a_all_m22, .inl (cI, n_a_all_m22, .inl b_a_all_m22)), (h0, .inr (9, moF am known_h0 thrown_h0 wrong_h0 lastEnd_h0 r130 r131 r119 least_h0 found_h0)), ((am 5), .inr (8, [.ref a_all_m5, .int size_m5])), (a_all_m5, .inl (cI, n_a_all_m5, .inl b_a_all_m5))]) (cl' := 0) (sl' := 0) rfl rfl rfl rfl rfl rfl ?_
                    refine j_if_eq (tgt := 274) d_Mo_readStatement_255 (by decide) (fun c134 => ?_) (fun c134 => ?_)
                    · replace h := it_t c134 h
                      refine j_iconst (v := 0) d_Mo_readStatement_274 (by decide) ?_
                      replace h := lf_s h
                      obtain ⟨h, e1, e2⟩ := h
                      replace h := Prod.mk.inj h
                      obtain ⟨h9, h⟩ := h
                      subst h9
                      replace h := Prod.mk.inj h
                      obtain ⟨h9, h⟩ := h
                      subst h9
                      replace h := Prod.mk.inj h
                      obtain ⟨h9, h⟩ := h
                      subst h9
                      replace h := Prod.mk.inj h
                      obtain ⟨h9, h⟩ := h
                      subst h9
                      replace h := Prod.mk.inj h
                      obtain ⟨h9, h⟩ := h
                      subst h9
                      replace h := Prod.mk.inj h
                      obtain ⟨h9, h⟩ := h
                      subst h9
                      replace h := Prod.mk.inj h
                      obtain ⟨h9, h⟩ := h
                      subst h9
                      replace h := Prod.mk.inj h
                      obtain ⟨h9, h⟩ := h
                      subst h9
                      replace h := Prod.mk.inj h
                      obtain ⟨h9, h⟩ := h
                      subst h9
                      replace h := Prod.mk.inj h
                      obtain ⟨h9, h⟩ := h
                      subst h9
                      replace h := Prod.mk.inj h
                      obtain ⟨h9, h⟩ := h
                      subst h9
                      replace h := Prod.mk.inj h
                      obtain ⟨h9, h⟩ := h
                      subst h9
                      replace h := Prod.mk.inj h
                      obtain ⟨h9, h⟩ := h
                      subst h9
                      subst h
                      refine j_widen (cl' := mc) (sl' := ms) (by omega) (by omega) ?_
                      exact j_zret (w := [(h0, .inr (9, moF am known_h0 thrown_h0 wrong_h0 lastEnd_h0 r130 r131 r119 least_h0 found_h0)), ((am 5), .inr (8, [.ref a_all_m5, .int size_m5])), (a_all_m5, .inl (cI, n_a_all_m5, .inl b_a_all_m5)), ((am 20), .inr (8, [.ref a_all_m20, .int size_m20])), ((am 2), .inl (cI, n_m2, .inl b_m2)), ((am 21), .inr (8, [.ref a_all_m21, .int size_m21])), ((am 7), .inr (8, [.ref a_all_m7, .int size_m7])), (a_all_m7, .inl (cI, n_a_all_m7, .inl b_a_all_m7)), ((am 6), .inr (8, [.ref a_all_m6, .int size_m6])), (a_all_m6, .inl (cI, n_a_all_m6, .inl b_a_all_m6)), ((am 4), .inr (8, [.ref a_all_m4, .int size_m4])), (a_all_m4, .inl (cI, n_a_all_m4, .inl b_a_all_m4)), ((am 22), .inr (8, [.ref a_all_m22, .int size_m22])), (a_all_m20, .inl (cI, n_a_all_m20, .inl b_a_all_m20)), (a_all_m21, .inl (cI, n_a_all_m21, .inl b_a_all_m21)), (a_all_m22, .inl (cI, n_a_all_m22, .inl b_a_all_m22))]) hr (zb_n zb0) d_Mo_readStatement_275 [13, 14, 15, 0, 2, 3, 5, 6, 7, 8, 9, 10, 11, 1, 4, 12] rfl (by decide) ⟨a_all_m20, a_all_m21, a_all_m22, rfl, zb0, rfl⟩
                    · replace h := it_f c134 h
                      refine j_aload_n d_Mo_readStatement_258 rfl 1 rfl ?_
                      replace h := bw_s h
                      obtain ⟨⟨r135, r136, r137, r138, r139, r140, r141⟩, C144, S145, C146, S147, k148, h, e1, e2⟩ := h
                      replace hC : 0 + C144 + C146 ≤ mc := by omega
                      replace hS : 0 + S145 + S147 ≤ ms := by omega
                      clear e1 e2
                      refine j_callV (n := 0) (As := []) (rest := []) (wr := [((am 21), .inr (8, [.ref a_all_m21, .int size_m21])), (a_all_m21, .inl (cI, n_a_all_m21, .inl b_a_all_m21)), ((am 7), .inr (8, [.ref a_all_m7, .int size_m7])), (a_all_m7, .inl (cI, n_a_all_m7, .inl b_a_all_m7)), ((am 6), .inr (8, [.ref a_all_m6, .int size_m6])), (a_all_m6, .inl (cI, n_a_all_m6, .inl b_a_all_m6)), ((am 4), .inr (8, [.ref a_all_m4, .int size_m4])), (a_all_m4, .inl (cI, n_a_all_m4, .inl b_a_all_m4)), ((am 22), .inr (8, [.ref a_all_m22, .int size_m22])), (a_all_m22, .inl (cI, n_a_all_m22, .inl b_a_all_m22))]) (c_Mo_readExpression l D cI cB cJ cS h0 am a_all_m20 a_all_m5 known_h0 thrown_h0 wrong_h0 lastEnd_h0 r130 r131 r119 least_h0 found_h0 size_m20 size_m5 n_a_all_m5 b_a_all_m5 n_a_all_m20 b_a_all_m20 n_m2 b_m2  r135 r136 r137 r138 r139 r140 r141 C144 S145 k148) k_Mo_326 (by decide) ⟨Nat.le_of_ble_eq_true rfl, Nat.le_of_ble_eq_true rfl⟩ rfl 0 rfl [13, 0, 14, 15, 1, 2] [3, 4, 5, 6, 7, 8, 9, 10, 11, 12] rfl (by decide +kernel) rfl (by decide +kernel) (by decide +kernel) rfl rfl (Nat.le_of_ble_eq_true rfl) d_Mo_readStatement_259 ⟨show 0 + C144 ≤ mc by omega, show 0 + S145 ≤ ms by omega⟩ (fun v w hq => ?_)
                      obtain ⟨q142, rfl, z143, rfl⟩ := hq
                      refine j_norm (pc' := 262) (st' := [.int r135]) (ws' := [((am 21), .inr (8, [.ref a_all_m21, .int size_m21])), (a_all_m21, .inl (cI, n_a_all_m21, .inl b_a_all_m21)), ((am 7), .inr (8, [.ref a_all_m7, .int size_m7])), (a_all_m7, .inl (cI, n_a_all_m7, .inl b_a_all_m7)), ((am 6), .inr (8, [.ref a_all_m6, .int size_m6])), (a_all_m6, .inl (cI, n_a_all_m6, .inl b_a_all_m6)), ((am 4), .inr (8, [.ref a_all_m4, .int size_m4])), (a_all_m4, .inl (cI, n_a_all_m4, .inl b_a_all_m4)), ((am 22), .inr (8, [.ref a_all_m22, .int size_m22])), (a_all_m22, .inl (cI, n_a_all_m22, .inl b_a_all_m22)), (h0, .inr (9, moF am known_h0 thrown_h0 wrong_h0 lastEnd_h0 r136 r137 r138 least_h0 found_h0)), ((am 20), .inr (8, [.ref q142, .int r139])), ((am 5), .inr (8, [.ref a_all_m5, .int size_m5])), (a_all_m5, .inl (cI, n_a_all_m5, .inl b_a_all_m5)), ((am 2), .inl (cI, n_m2, .inl b_m2)), (q142, .inl (cI, r140, .inl r141))]) (cl' := 0 + C144) (sl' := 0 + S145) rfl rfl rfl rfl rfl rfl ?_
                      refine j_if_eq (tgt := 274) d_Mo_readStatement_262 (by decide) (fun c149 => ?_) (fun c149 => ?_)
                      · replace h := it_t c149 h
                        refine j_iconst (v := 0) d_Mo_readStatement_274 (by decide) ?_
                        replace h := lf_s h
                        obtain ⟨h, e1, e2⟩ := h
                        replace h := Prod.mk.inj h
                        obtain ⟨h9, h⟩ := h
                        subst h9
                        replace h := Prod.mk.inj h
                        obtain ⟨h9, h⟩ := h
                        subst h9
                        replace h := Prod.mk.inj h
                        obtain ⟨h9, h⟩ := h
                        subst h9
                        replace h := Prod.mk.inj h
                        obtain ⟨h9, h⟩ := h
                        subst h9
                        replace h := Prod.mk.inj h
                        obtain ⟨h9, h⟩ := h
                        subst h9
                        replace h := Prod.mk.inj h
                        obtain ⟨h9, h⟩ := h
                        subst h9
                        replace h := Prod.mk.inj h
                        obtain ⟨h9, h⟩ := h
                        subst h9
                        replace h := Prod.mk.inj h
                        obtain ⟨h9, h⟩ := h
                        subst h9
                        replace h := Prod.mk.inj h
                        obtain ⟨h9, h⟩ := h
                        subst h9
                        replace h := Prod.mk.inj h
                        obtain ⟨h9, h⟩ := h
                        subst h9
                        replace h := Prod.mk.inj h
                        obtain ⟨h9, h⟩ := h
                        subst h9
                        replace h := Prod.mk.inj h
                        obtain ⟨h9, h⟩ := h
                        subst h9
                        replace h := Prod.mk.inj h
                        obtain ⟨h9, h⟩ := h
                        subst h9
                        subst h
                        refine j_widen (cl' := mc) (sl' := ms) (by omega) (by omega) ?_
                        exact j_zret (w := [(h0, .inr (9, moF am known_h0 thrown_h0 wrong_h0 lastEnd_h0 r136 r137 r138 least_h0 found_h0)), ((am 5), .inr (8, [.ref a_all_m5, .int size_m5])), (a_all_m5, .inl (cI, n_a_all_m5, .inl b_a_all_m5)), ((am 20), .inr (8, [.ref q142, .int r139])), ((am 2), .inl (cI, n_m2, .inl b_m2)), ((am 21), .inr (8, [.ref a_all_m21, .int size_m21])), ((am 7), .inr (8, [.ref a_all_m7, .int size_m7])), (a_all_m7, .inl (cI, n_a_all_m7, .inl b_a_all_m7)), ((am 6), .inr (8, [.ref a_all_m6, .int size_m6])), (a_all_m6, .inl (cI, n_a_all_m6, .inl b_a_all_m6)), ((am 4), .inr (8, [.ref a_all_m4, .int size_m4])), (a_all_m4, .inl (cI, n_a_all_m4, .inl b_a_all_m4)), ((am 22), .inr (8, [.ref a_all_m22, .int size_m22])), (q142, .inl (cI, r140, .inl r141)), (a_all_m21, .inl (cI, n_a_all_m21, .inl b_a_all_m21)), (a_all_m22, .inl (cI, n_a_all_m22, .inl b_a_all_m22))]) hr (zb_n zb0) d_Mo_readStatement_275 [10, 12, 13, 11, 14, 0, 2, 3, 4, 5, 6, 7, 8, 15, 1, 9] rfl (by decide) ⟨q142, a_all_m21, a_all_m22, rfl, zb0, rfl⟩
                      · replace h := it_f c149 h
                        refine j_aload_n d_Mo_readStatement_265 rfl 1 rfl ?_
                        refine j_bipush (v := 51) d_Mo_readStatement_266 (by decide) ?_
                        replace h := bd_s h
                        obtain ⟨⟨r150, r151, r152⟩, k154, h⟩ := h
                        refine j_callV (n := 1) (As := [.int 51]) (rest := []) (wr := [((am 21), .inr (8, [.ref a_all_m21, .int size_m21])), (a_all_m21, .inl (cI, n_a_all_m21, .inl b_a_all_m21)), ((am 7), .inr (8, [.ref a_all_m7, .int size_m7])), (a_all_m7, .inl (cI, n_a_all_m7, .inl b_a_all_m7)), ((am 6), .inr (8, [.ref a_all_m6, .int size_m6])), (a_all_m6, .inl (cI, n_a_all_m6, .inl b_a_all_m6)), ((am 4), .inr (8, [.ref a_all_m4, .int size_m4])), (a_all_m4, .inl (cI, n_a_all_m4, .inl b_a_all_m4)), ((am 22), .inr (8, [.ref a_all_m22, .int size_m22])), (a_all_m22, .inl (cI, n_a_all_m22, .inl b_a_all_m22)), ((am 20), .inr (8, [.ref q142, .int r139])), ((am 2), .inl (cI, n_m2, .inl b_m2)), (q142, .inl (cI, r140, .inl r141))]) (c_Mo_leave l D cI cB cJ cS h0 am a_all_m5 51 known_h0 thrown_h0 wrong_h0 lastEnd_h0 r136 r137 r138 least_h0 found_h0 size_m5 n_a_all_m5 b_a_all_m5  r150 r151 r152 k154) k_Mo_338 (by decide) ⟨Nat.le_of_ble_eq_true rfl, Nat.le_of_ble_eq_true rfl⟩ rfl 0 rfl [10, 12, 13] [0, 1, 2, 3, 4, 5, 6, 7, 8, 9, 11, 14, 15] rfl (by decide +kernel) rfl (by decide +kernel) (by decide +kernel) rfl rfl (Nat.le_of_ble_eq_true rfl) d_Mo_readStatement_268 ⟨show 0 + C144 + 0 ≤ mc by omega, show 0 + S145 + 0 ≤ ms by omega⟩ (fun v w hq => ?_)
                        obtain ⟨rfl, z153, rfl⟩ := hq
                        refine j_norm (pc' := 271) (st' := [.int r150]) (ws' := [((am 21), .inr (8, [.ref a_all_m21, .int size_m21])), (a_all_m21, .inl (cI, n_a_all_m21, .inl b_a_all_m21)), ((am 7), .inr (8, [.ref a_all_m7, .int size_m7])), (a_all_m7, .inl (cI, n_a_all_m7, .inl b_a_all_m7)), ((am 6), .inr (8, [.ref a_all_m6, .int size_m6])), (a_all_m6, .inl (cI, n_a_all_m6, .inl b_a_all_m6)), ((am 4), .inr (8, [.ref a_all_m4, .int size_m4])), (a_all_m4, .inl (cI, n_a_all_m4, .inl b_a_all_m4)), ((am 22), .inr (8, [.ref a_all_m22, .int size_m22])), (a_all_m22, .inl (cI, n_a_all_m22, .inl b_a_all_m22)), ((am 20), .inr (8, [.ref q142, .int r139])), ((am 2), .inl (cI, n_m2, .inl b_m2)), (q142, .inl (cI, r140, .inl r141)), (h0, .inr (9, moF am known_h0 thrown_h0 wrong_h0 lastEnd_h0 r151 r152 (r138 - 1) least_h0 found_h0)), ((am 5), .inr (8, [.ref a_all_m5, .int size_m5])), (a_all_m5, .inl (cI, n_a_all_m5, .inl b_a_all_m5))]) (cl' := 0 + C144) (sl' := 0 + S145) rfl rfl rfl rfl rfl rfl ?_
                        refine j_if_ne (tgt := 276) d_Mo_readStatement_271 (by decide) (fun c155 => ?_) (fun c155 => ?_)
                        · replace h := it_f c155 h
                          refine j_aload_n d_Mo_readStatement_276 rfl 1 rfl ?_
                          refine j_get ig_Mo rfl 13 rfl 21 (by decide) rfl m_1134 rfl d_Mo_readStatement_277 ?_
                          refine j_iload_n d_Mo_readStatement_280 rfl 0 rfl ?_
                          replace h := bw_s h
                          obtain ⟨⟨r156, r157⟩, C159, S160, C161, S162, k163, h, e1, e2⟩ := h
                          replace hC : 0 + C144 + C159 + C161 ≤ mc := by omega
                          replace hS : 0 + S145 + S160 + S162 ≤ ms := by omega
                          clear e1 e2
                          refine j_callV (n := 1) (As := [.int (b_a_all_m5 (Int32.toNatClampNeg at_h0))]) (rest := []) (wr := [((am 7), .inr (8, [.ref a_all_m7, .int size_m7])), (a_all_m7, .inl (cI, n_a_all_m7, .inl b_a_all_m7)), ((am 6), .inr (8, [.ref a_all_m6, .int size_m6])), (a_all_m6, .inl (cI, n_a_all_m6, .inl b_a_all_m6)), ((am 4), .inr (8, [.ref a_all_m4, .int size_m4])), (a_all_m4, .inl (cI, n_a_all_m4, .inl b_a_all_m4)), ((am 22), .inr (8, [.ref a_all_m22, .int size_m22])), (a_all_m22, .inl (cI, n_a_all_m22, .inl b_a_all_m22)), ((am 20), .inr (8, [.ref q142, .int r139])), ((am 2), .inl (cI, n_m2, .inl b_m2)), (q142, .inl (cI, r140, .inl r141)), (h0, .inr (9, moF am known_h0 thrown_h0 wrong_h0 lastEnd_h0 r151 r152 (r138 - 1) least_h0 found_h0)), ((am 5), .inr (8, [.ref a_all_m5, .int size_m5])), (a_all_m5, .inl (cI, n_a_all_m5, .inl b_a_all_m5))]) (c_Nm_add l D cI cB cJ cS (am 21) a_all_m21 (b_a_all_m5 (Int32.toNatClampNeg at_h0)) size_m21 n_a_all_m21 b_a_all_m21  r156 r157 C159 S160 k163) k_Mo_200 (by decide) ⟨Nat.le_of_ble_eq_true rfl, Nat.le_of_ble_eq_true rfl⟩ rfl 0 rfl [0, 1] [2, 3, 4, 5, 6, 7, 8, 9, 10, 11, 12, 13, 14, 15] rfl (by decide +kernel) rfl (by decide +kernel) (by decide +kernel) rfl rfl (Nat.le_of_ble_eq_true rfl) d_Mo_readStatement_281 ⟨show 0 + C144 + C159 ≤ mc by omega, show 0 + S145 + S160 ≤ ms by omega⟩ (fun v w hq => ?_)
                          obtain ⟨q158, rfl, rfl⟩ := hq
                          refine j_norm (pc' := 284) (st' := []) (ws' := [((am 7), .inr (8, [.ref a_all_m7, .int size_m7])), (a_all_m7, .inl (cI, n_a_all_m7, .inl b_a_all_m7)), ((am 6), .inr (8, [.ref a_all_m6, .int size_m6])), (a_all_m6, .inl (cI, n_a_all_m6, .inl b_a_all_m6)), ((am 4), .inr (8, [.ref a_all_m4, .int size_m4])), (a_all_m4, .inl (cI, n_a_all_m4, .inl b_a_all_m4)), ((am 22), .inr (8, [.ref a_all_m22, .int size_m22])), (a_all_m22, .inl (cI, n_a_all_m22, .inl b_a_all_m22)), ((am 20), .inr (8, [.ref q142, .int r139])), ((am 2), .inl (cI, n_m2, .inl b_m2)), (q142, .inl (cI, r140, .inl r141)), (h0, .inr (9, moF am known_h0 thrown_h0 wrong_h0 lastEnd_h0 r151 r152 (r138 - 1) least_h0 found_h0)), ((am 5), .inr (8, [.ref a_all_m5, .int size_m5])), (a_all_m5, .inl (cI, n_a_all_m5, .inl b_a_all_m5)), ((am 21), .inr (8, [.ref q158, .int (size_m21 + 1)])), (q158, .inl (cI, r156, .inl r157))]) (cl' := 0 + C144 + C159) (sl' := 0 + S145 + S160) rfl rfl rfl rfl rfl rfl ?_
                          refine j_iconst (v := 1) d_Mo_readStatement_284 (by decide) ?_
                          replace h := lf_s h
                          obtain ⟨h, e1, e2⟩ := h
                          replace h := Prod.mk.inj h
                          obtain ⟨h9, h⟩ := h
                          subst h9
                          replace h := Prod.mk.inj h
                          obtain ⟨h9, h⟩ := h
                          subst h9
                          replace h := Prod.mk.inj h
                          obtain ⟨h9, h⟩ := h
                          subst h9
                          replace h := Prod.mk.inj h
                          obtain ⟨h9, h⟩ := h
                          subst h9
                          replace h := Prod.mk.inj h
                          obtain ⟨h9, h⟩ := h
                          subst h9
                          replace h := Prod.mk.inj h
                          obtain ⟨h9, h⟩ := h
                          subst h9
                          replace h := Prod.mk.inj h
                          obtain ⟨h9, h⟩ := h
                          subst h9
                          replace h := Prod.mk.inj h
                          obtain ⟨h9, h⟩ := h
                          subst h9
                          replace h := Prod.mk.inj h
                          obtain ⟨h9, h⟩ := h
                          subst h9
                          replace h := Prod.mk.inj h
                          obtain ⟨h9, h⟩ := h
                          subst h9
                          replace h := Prod.mk.inj h
                          obtain ⟨h9, h⟩ := h
                          subst h9
                          replace h := Prod.mk.inj h
                          obtain ⟨h9, h⟩ := h
                          subst h9
                          replace h := Prod.mk.inj h
                          obtain ⟨h9, h⟩ := h
                          subst h9
                          subst h
                          refine j_widen (cl' := mc) (sl' := ms) (by omega) (by omega) ?_
                          exact j_zret (w := [(h0, .inr (9, moF am known_h0 thrown_h0 wrong_h0 lastEnd_h0 r151 r152 (r138 - 1) least_h0 found_h0)), ((am 5), .inr (8, [.ref a_all_m5, .int size_m5])), (a_all_m5, .inl (cI, n_a_all_m5, .inl b_a_all_m5)), ((am 20), .inr (8, [.ref q142, .int r139])), ((am 2), .inl (cI, n_m2, .inl b_m2)), ((am 21), .inr (8, [.ref q158, .int (size_m21 + 1)])), ((am 7), .inr (8, [.ref a_all_m7, .int size_m7])), (a_all_m7, .inl (cI, n_a_all_m7, .inl b_a_all_m7)), ((am 6), .inr (8, [.ref a_all_m6, .int size_m6])), (a_all_m6, .inl (cI, n_a_all_m6, .inl b_a_all_m6)), ((am 4), .inr (8, [.ref a_all_m4, .int size_m4])), (a_all_m4, .inl (cI, n_a_all_m4, .inl b_a_all_m4)), ((am 22), .inr (8, [.ref a_all_m22, .int size_m22])), (q142, .inl (cI, r140, .inl r141)), (q158, .inl (cI, r156, .inl r157)), (a_all_m22, .inl (cI, n_a_all_m22, .inl b_a_all_m22))]) hr (zb_n zb1) d_Mo_readStatement_285 [11, 12, 13, 8, 9, 14, 0, 1, 2, 3, 4, 5, 6, 10, 15, 7] rfl (by decide) ⟨q142, q158, a_all_m22, rfl, zb1, rfl⟩
                        · replace h := it_t c155 h
                          refine j_iconst (v := 0) d_Mo_readStatement_274 (by decide) ?_
                          replace h := lf_s h
                          obtain ⟨h, e1, e2⟩ := h
                          replace h := Prod.mk.inj h
                          obtain ⟨h9, h⟩ := h
                          subst h9
                          replace h := Prod.mk.inj h
                          obtain ⟨h9, h⟩ := h
                          subst h9
                          replace h := Prod.mk.inj h
                          obtain ⟨h9, h⟩ := h
                          subst h9
                          replace h := Prod.mk.inj h
                          obtain ⟨h9, h⟩ := h
                          subst h9
                          replace h := Prod.mk.inj h
                          obtain ⟨h9, h⟩ := h
                          subst h9
                          replace h := Prod.mk.inj h
                          obtain ⟨h9, h⟩ := h
                          subst h9
                          replace h := Prod.mk.inj h
                          obtain ⟨h9, h⟩ := h
                          subst h9
                          replace h := Prod.mk.inj h
                          obtain ⟨h9, h⟩ := h
                          subst h9
                          replace h := Prod.mk.inj h
                          obtain ⟨h9, h⟩ := h
                          subst h9
                          replace h := Prod.mk.inj h
                          obtain ⟨h9, h⟩ := h
                          subst h9
                          replace h := Prod.mk.inj h
                          obtain ⟨h9, h⟩ := h
                          subst h9
                          replace h := Prod.mk.inj h
                          obtain ⟨h9, h⟩ := h
                          subst h9
                          replace h := Prod.mk.inj h
                          obtain ⟨h9, h⟩ := h
                          subst h9
                          subst h
                          refine j_widen (cl' := mc) (sl' := ms) (by omega) (by omega) ?_
                          exact j_zret (w := [(h0, .inr (9, moF am known_h0 thrown_h0 wrong_h0 lastEnd_h0 r151 r152 (r138 - 1) least_h0 found_h0)), ((am 5), .inr (8, [.ref a_all_m5, .int size_m5])), (a_all_m5, .inl (cI, n_a_all_m5, .inl b_a_all_m5)), ((am 20), .inr (8, [.ref q142, .int r139])), ((am 2), .inl (cI, n_m2, .inl b_m2)), ((am 21), .inr (8, [.ref a_all_m21, .int size_m21])), ((am 7), .inr (8, [.ref a_all_m7, .int size_m7])), (a_all_m7, .inl (cI, n_a_all_m7, .inl b_a_all_m7)), ((am 6), .inr (8, [.ref a_all_m6, .int size_m6])), (a_all_m6, .inl (cI, n_a_all_m6, .inl b_a_all_m6)), ((am 4), .inr (8, [.ref a_all_m4, .int size_m4])), (a_all_m4, .inl (cI, n_a_all_m4, .inl b_a_all_m4)), ((am 22), .inr (8, [.ref a_all_m22, .int size_m22])), (q142, .inl (cI, r140, .inl r141)), (a_all_m21, .inl (cI, n_a_all_m21, .inl b_a_all_m21)), (a_all_m22, .inl (cI, n_a_all_m22, .inl b_a_all_m22))]) hr (zb_n zb0) d_Mo_readStatement_275 [13, 14, 15, 10, 11, 0, 2, 3, 4, 5, 6, 7, 8, 12, 1, 9] rfl (by decide) ⟨q142, a_all_m21, a_all_m22, rfl, zb0, rfl⟩
            · replace h := it_f c108 h
              by_cases c164 : (b_a_all_m5 (Int32.toNatClampNeg at_h0)) = 16
              · replace h := it_t c164 h
                refine j_tabIn (tgt := 440) (off := 434) d_Mo_readStatement_6 16 c164 (by decide) (by decide) (by decide) (by decide) ?_
                refine j_aload_n d_Mo_readStatement_440 rfl 1 rfl ?_
                replace h := bd_s h
                obtain ⟨r165, k167, h⟩ := h
                refine j_callV (n := 0) (As := []) (rest := []) (wr := [((am 20), .inr (8, [.ref a_all_m20, .int size_m20])), (a_all_m20, .inl (cI, n_a_all_m20, .inl b_a_all_m20)), ((am 2), .inl (cI, n_m2, .inl b_m2)), ((am 7), .inr (8, [.ref a_all_m7, .int size_m7])), (a_all_m7, .inl (cI, n_a_all_m7, .inl b_a_all_m7)), ((am 6), .inr (8, [.ref a_all_m6, .int size_m6])), (a_all_m6, .inl (cI, n_a_all_m6, .inl b_a_all_m6)), ((am 4), .inr (8, [.ref a_all_m4, .int size_m4])), (a_all_m4, .inl (cI, n_a_all_m4, .inl b_a_all_m4)), ((am 22), .inr (8, [.ref a_all_m22, .int size_m22])), (a_all_m22, .inl (cI, n_a_all_m22, .inl b_a_all_m22)), ((am 5), .inr (8, [.ref a_all_m5, .int size_m5])), (a_all_m5, .inl (cI, n_a_all_m5, .inl b_a_all_m5))]) (c_Mo_isInLoop l D cI cB cJ cS h0 am a_all_m21 known_h0 thrown_h0 wrong_h0 lastEnd_h0 at_h0 bad_h0 levels_h0 least_h0 found_h0 size_m21 n_a_all_m21 b_a_all_m21  r165 k167) k_Mo_374 (by decide) ⟨Nat.le_of_ble_eq_true rfl, Nat.le_of_ble_eq_true rfl⟩ rfl 0 rfl [13, 3, 4] [0, 1, 2, 5, 6, 7, 8, 9, 10, 11, 12, 14, 15] rfl (by decide +kernel) rfl (by decide +kernel) (by decide +kernel) rfl rfl (Nat.le_of_ble_eq_true rfl) d_Mo_readStatement_441 ⟨show 0 + 0 ≤ mc by omega, show 0 + 0 ≤ ms by omega⟩ (fun v w hq => ?_)
                obtain ⟨rfl, z166, rfl⟩ := hq
                refine j_norm (pc' := 444) (st' := [.int r165]) (ws' := [((am 20), .inr (8, [.ref a_all_m20, .int size_m20])), (a_all_m20, .inl (cI, n_a_all_m20, .inl b_a_all_m20)), ((am 2), .inl (cI, n_m2, .inl b_m2)), ((am 7), .inr (8, [.ref a_all_m7, .int size_m7])), (a_all_m7, .inl (cI, n_a_all_m7, .inl b_a_all_m7)), ((am 6), .inr (8, [.ref a_all_m6, .int size_m6])), (a_all_m6, .inl (cI, n_a_all_m6, .inl b_a_all_m6)), ((am 4), .inr (8, [.ref a_all_m4, .int size_m4])), (a_all_m4, .inl (cI, n_a_all_m4, .inl b_a_all_m4)), ((am 22), .inr (8, [.ref a_all_m22, .int size_m22])), (a_all_m22, .inl (cI, n_a_all_m22, .inl b_a_all_m22)), ((am 5), .inr (8, [.ref a_all_m5, .int size_m5])), (a_all_m5, .inl (cI, n_a_all_m5, .inl b_a_all_m5)), (h0, .inr (9, moF am known_h0 thrown_h0 wrong_h0 lastEnd_h0 at_h0 bad_h0 levels_h0 least_h0 found_h0)), ((am 21), .inr (8, [.ref a_all_m21, .int size_m21])), (a_all_m21, .inl (cI, n_a_all_m21, .inl b_a_all_m21))]) (cl' := 0) (sl' := 0) rfl rfl rfl rfl rfl rfl ?_
                refine j_if_ne (tgt := 452) d_Mo_readStatement_444 (by decide) (fun c168 => ?_) (fun c168 => ?_)
                · replace h := it_f c168 h
                  refine j_aload_n d_Mo_readStatement_452 rfl 1 rfl ?_
                  refine j_dup rfl d_Mo_readStatement_453 ?_
                  refine j_get ig_Mo rfl 13 rfl 17 (by decide) rfl m_1130 rfl d_Mo_readStatement_454 ?_
                  refine j_iconst (v := 1) d_Mo_readStatement_457 (by decide) ?_
                  refine j_iadd d_Mo_readStatement_458 ?_
                  refine j_put (ws' := [((am 20), .inr (8, [.ref a_all_m20, .int size_m20])), (a_all_m20, .inl (cI, n_a_all_m20, .inl b_a_all_m20)), ((am 2), .inl (cI, n_m2, .inl b_m2)), ((am 7), .inr (8, [.ref a_all_m7, .int size_m7])), (a_all_m7, .inl (cI, n_a_all_m7, .inl b_a_all_m7)), ((am 6), .inr (8, [.ref a_all_m6, .int size_m6])), (a_all_m6, .inl (cI, n_a_all_m6, .inl b_a_all_m6)), ((am 4), .inr (8, [.ref a_all_m4, .int size_m4])), (a_all_m4, .inl (cI, n_a_all_m4, .inl b_a_all_m4)), ((am 22), .inr (8, [.ref a_all_m22, .int size_m22])), (a_all_m22, .inl (cI, n_a_all_m22, .inl b_a_all_m22)), ((am 5), .inr (8, [.ref a_all_m5, .int size_m5])), (a_all_m5, .inl (cI, n_a_all_m5, .inl b_a_all_m5)), (h0, .inr (9, moF am known_h0 thrown_h0 wrong_h0 lastEnd_h0 (at_h0 + 1) bad_h0 levels_h0 least_h0 found_h0)), ((am 21), .inr (8, [.ref a_all_m21, .int size_m21])), (a_all_m21, .inl (cI, n_a_all_m21, .inl b_a_all_m21))]) ig_Mo tk_Mo nm_Mo rfl 13 rfl 17 (by decide) rfl m_1130 rfl (tk_Mo 17 (by decide)) rfl rfl (Nat.le_of_ble_eq_true rfl) d_Mo_readStatement_459 rfl ?_
                  refine j_aload_n d_Mo_readStatement_462 rfl 1 rfl ?_
                  refine j_bipush (v := 55) d_Mo_readStatement_463 (by decide) ?_
                  replace h := bd_s h
                  obtain ⟨⟨r169, r170, r171⟩, k173, h⟩ := h
                  refine j_callV (n := 1) (As := [.int 55]) (rest := []) (wr := [((am 20), .inr (8, [.ref a_all_m20, .int size_m20])), (a_all_m20, .inl (cI, n_a_all_m20, .inl b_a_all_m20)), ((am 2), .inl (cI, n_m2, .inl b_m2)), ((am 7), .inr (8, [.ref a_all_m7, .int size_m7])), (a_all_m7, .inl (cI, n_a_all_m7, .inl b_a_all_m7)), ((am 6), .inr (8, [.ref a_all_m6, .int size_m6])), (a_all_m6, .inl (cI, n_a_all_m6, .inl b_a_all_m6)), ((am 4), .inr (8, [.ref a_all_m4, .int size_m4])), (a_all_m4, .inl (cI, n_a_all_m4, .inl b_a_all_m4)), ((am 22), .inr (8, [.ref a_all_m22, .int size_m22])), (a_all_m22, .inl (cI, n_a_all_m22, .inl b_a_all_m22)), ((am 21), .inr (8, [.ref a_all_m21, .int size_m21])), (a_all_m21, .inl (cI, n_a_all_m21, .inl b_a_all_m21))]) (c_Mo_take l D cI cB cJ cS h0 am a_all_m5 55 known_h0 thrown_h0 wrong_h0 lastEnd_h0 (at_h0 + 1) bad_h0 levels_h0 least_h0 found_h0 size_m5 n_a_all_m5 b_a_all_m5  r169 r170 r171 k173) k_Mo_285 (by decide) ⟨Nat.le_of_ble_eq_true rfl, Nat.le_of_ble_eq_true rfl⟩ rfl 0 rfl [13, 11, 12] [0, 1, 2, 3, 4, 5, 6, 7, 8, 9, 10, 14, 15] rfl (by decide +kernel) rfl (by decide +kernel) (by decide +kernel) rfl rfl (Nat.le_of_ble_eq_true rfl) d_Mo_readStatement_465 ⟨show 0 + 0 ≤ mc by omega, show 0 + 0 ≤ ms by omega⟩ (fun v w hq => ?_)
                  obtain ⟨rfl, z172, rfl⟩ := hq
                  refine j_norm (pc' := 468) (st' := [.int r169]) (ws' := [((am 20), .inr (8, [.ref a_all_m20, .int size_m20])), (a_all_m20, .inl (cI, n_a_all_m20, .inl b_a_all_m20)), ((am 2), .inl (cI, n_m2, .inl b_m2)), ((am 7), .inr (8, [.ref a_all_m7, .int size_m7])), (a_all_m7, .inl (cI, n_a_all_m7, .inl b_a_all_m7)), ((am 6), .inr (8, [.ref a_all_m6, .int size_m6])), (a_all_m6, .inl (cI, n_a_all_m6, .inl b_a_all_m6)), ((am 4), .inr (8, [.ref a_all_m4, .int size_m4])), (a_all_m4, .inl (cI, n_a_all_m4, .inl b_a_all_m4)), ((am 22), .inr (8, [.ref a_all_m22, .int size_m22])), (a_all_m22, .inl (cI, n_a_all_m22, .inl b_a_all_m22)), ((am 21), .inr (8, [.ref a_all_m21, .int size_m21])), (a_all_m21, .inl (cI, n_a_all_m21, .inl b_a_all_m21)), (h0, .inr (9, moF am known_h0 thrown_h0 wrong_h0 lastEnd_h0 r170 r171 levels_h0 least_h0 found_h0)), ((am 5), .inr (8, [.ref a_all_m5, .int size_m5])), (a_all_m5, .inl (cI, n_a_all_m5, .inl b_a_all_m5))]) (cl' := 0) (sl' := 0) rfl rfl rfl rfl rfl rfl ?_
                  replace h := lf_s h
                  obtain ⟨h, e1, e2⟩ := h
                  replace h := Prod.mk.inj h
                  obtain ⟨h9, h⟩ := h
                  subst h9
                  replace h := Prod.mk.inj h
                  obtain ⟨h9, h⟩ := h
                  subst h9
                  replace h := Prod.mk.inj h
                  obtain ⟨h9, h⟩ := h
                  subst h9
                  replace h := Prod.mk.inj h
                  obtain ⟨h9, h⟩ := h
                  subst h9
                  replace h := Prod.mk.inj h
                  obtain ⟨h9, h⟩ := h
                  subst h9
                  replace h := Prod.mk.inj h
                  obtain ⟨h9, h⟩ := h
                  subst h9
                  replace h := Prod.mk.inj h
                  obtain ⟨h9, h⟩ := h
                  subst h9
                  replace h := Prod.mk.inj h
                  obtain ⟨h9, h⟩ := h
                  subst h9
                  replace h := Prod.mk.inj h
                  obtain ⟨h9, h⟩ := h
                  subst h9
                  replace h := Prod.mk.inj h
                  obtain ⟨h9, h⟩ := h
                  subst h9
                  replace h := Prod.mk.inj h
                  obtain ⟨h9, h⟩ := h
                  subst h9
                  replace h := Prod.mk.inj h
                  obtain ⟨h9, h⟩ := h
                  subst h9
                  replace h := Prod.mk.inj h
                  obtain ⟨h9, h⟩ := h
                  subst h9
                  subst h
                  refine j_widen (cl' := mc) (sl' := ms) (by omega) (by omega) ?_
                  exact j_zret (w := [(h0, .inr (9, moF am known_h0 thrown_h0 wrong_h0 lastEnd_h0 r170 r171 levels_h0 least_h0 found_h0)), ((am 5), .inr (8, [.ref a_all_m5, .int size_m5])), (a_all_m5, .inl (cI, n_a_all_m5, .inl b_a_all_m5)), ((am 20), .inr (8, [.ref a_all_m20, .int size_m20])), ((am 2), .inl (cI, n_m2, .inl b_m2)), ((am 21), .inr (8, [.ref a_all_m21, .int size_m21])), ((am 7), .inr (8, [.ref a_all_m7, .int size_m7])), (a_all_m7, .inl (cI, n_a_all_m7, .inl b_a_all_m7)), ((am 6), .inr (8, [.ref a_all_m6, .int size_m6])), (a_all_m6, .inl (cI, n_a_all_m6, .inl b_a_all_m6)), ((am 4), .inr (8, [.ref a_all_m4, .int size_m4])), (a_all_m4, .inl (cI, n_a_all_m4, .inl b_a_all_m4)), ((am 22), .inr (8, [.ref a_all_m22, .int size_m22])), (a_all_m20, .inl (cI, n_a_all_m20, .inl b_a_all_m20)), (a_all_m21, .inl (cI, n_a_all_m21, .inl b_a_all_m21)), (a_all_m22, .inl (cI, n_a_all_m22, .inl b_a_all_m22))]) hr (zb_n z172) d_Mo_readStatement_468 [13, 14, 15, 0, 2, 11, 3, 4, 5, 6, 7, 8, 9, 1, 12, 10] rfl (by decide) ⟨a_all_m20, a_all_m21, a_all_m22, rfl, z172, rfl⟩
                · replace h := it_t c168 h
                  refine j_aload_n d_Mo_readStatement_447 rfl 1 rfl ?_
                  refine j_callV (n := 0) (As := []) (rest := []) (wr := [((am 20), .inr (8, [.ref a_all_m20, .int size_m20])), (a_all_m20, .inl (cI, n_a_all_m20, .inl b_a_all_m20)), ((am 2), .inl (cI, n_m2, .inl b_m2)), ((am 7), .inr (8, [.ref a_all_m7, .int size_m7])), (a_all_m7, .inl (cI, n_a_all_m7, .inl b_a_all_m7)), ((am 6), .inr (8, [.ref a_all_m6, .int size_m6])), (a_all_m6, .inl (cI, n_a_all_m6, .inl b_a_all_m6)), ((am 4), .inr (8, [.ref a_all_m4, .int size_m4])), (a_all_m4, .inl (cI, n_a_all_m4, .inl b_a_all_m4)), ((am 22), .inr (8, [.ref a_all_m22, .int size_m22])), (a_all_m22, .inl (cI, n_a_all_m22, .inl b_a_all_m22)), ((am 5), .inr (8, [.ref a_all_m5, .int size_m5])), (a_all_m5, .inl (cI, n_a_all_m5, .inl b_a_all_m5)), ((am 21), .inr (8, [.ref a_all_m21, .int size_m21])), (a_all_m21, .inl (cI, n_a_all_m21, .inl b_a_all_m21))]) (c_Mo_fail l D cI cB cJ cS h0 am known_h0 thrown_h0 wrong_h0 lastEnd_h0 at_h0 bad_h0 levels_h0 least_h0 found_h0  ) k_Mo_278 (by decide) ⟨Nat.le_of_ble_eq_true rfl, Nat.le_of_ble_eq_true rfl⟩ rfl 0 rfl [13] [0, 1, 2, 3, 4, 5, 6, 7, 8, 9, 10, 11, 12, 14, 15] rfl (by decide +kernel) rfl (by decide +kernel) (by decide +kernel) rfl rfl (Nat.le_of_ble_eq_true rfl) d_Mo_readStatement_448 ⟨show 0 + 0 ≤ mc by omega, show 0 + 0 ≤ ms by omega⟩ (fun v w hq => ?_)
                  obtain ⟨rfl, _, rfl⟩ := hq
                  refine j_norm (pc' := 451) (st' := [.int 0]) (ws' := [((am 20), .inr (8, [.ref a_all_m20, .int size_m20])), (a_all_m20, .inl (cI, n_a_all_m20, .inl b_a_all_m20)), ((am 2), .inl (cI, n_m2, .inl b_m2)), ((am 7), .inr (8, [.ref a_all_m7, .int size_m7])), (a_all_m7, .inl (cI, n_a_all_m7, .inl b_a_all_m7)), ((am 6), .inr (8, [.ref a_all_m6, .int size_m6])), (a_all_m6, .inl (cI, n_a_all_m6, .inl b_a_all_m6)), ((am 4), .inr (8, [.ref a_all_m4, .int size_m4])), (a_all_m4, .inl (cI, n_a_all_m4, .inl b_a_all_m4)), ((am 22), .inr (8, [.ref a_all_m22, .int size_m22])), (a_all_m22, .inl (cI, n_a_all_m22, .inl b_a_all_m22)), ((am 5), .inr (8, [.ref a_all_m5, .int size_m5])), (a_all_m5, .inl (cI, n_a_all_m5, .inl b_a_all_m5)), ((am 21), .inr (8, [.ref a_all_m21, .int size_m21])), (a_all_m21, .inl (cI, n_a_all_m21, .inl b_a_all_m21)), (h0, .inr (9, moF am known_h0 thrown_h0 wrong_h0 lastEnd_h0 at_h0 at_h0 levels_h0 least_h0 found_h0))]) (cl' := 0) (sl' := 0) rfl rfl rfl rfl rfl rfl ?_
                  replace h := lf_s h
                  obtain ⟨h, e1, e2⟩ := h
                  replace h := Prod.mk.inj h
                  obtain ⟨h9, h⟩ := h
                  subst h9
                  replace h := Prod.mk.inj h
                  obtain ⟨h9, h⟩ := h
                  subst h9
                  replace h := Prod.mk.inj h
                  obtain ⟨h9, h⟩ := h
                  subst h9
                  replace h := Prod.mk.inj h
                  obtain ⟨h9, h⟩ := h
                  subst h9
                  replace h := Prod.mk.inj h
                  obtain ⟨h9, h⟩ := h
                  subst h9
                  replace h := Prod.mk.inj h
                  obtain ⟨h9, h⟩ := h
                  subst h9
                  replace h := Prod.mk.inj h
                  obtain ⟨h9, h⟩ := h
                  subst h9
                  replace h := Prod.mk.inj h
                  obtain ⟨h9, h⟩ := h
                  subst h9
                  replace h := Prod.mk.inj h
                  obtain ⟨h9, h⟩ := h
                  subst h9
                  replace h := Prod.mk.inj h
                  obtain ⟨h9, h⟩ := h
                  subst h9
                  replace h := Prod.mk.inj h
                  obtain ⟨h9, h⟩ := h
                  subst h9
                  replace h := Prod.mk.inj h
                  obtain ⟨h9, h⟩ := h
                  subst h9
                  replace h := Prod.mk.inj h
                  obtain ⟨h9, h⟩ := h
                  subst h9
                  subst h
                  refine j_widen (cl' := mc) (sl' := ms) (by omega) (by omega) ?_
                  exact j_zret (w := [(h0, .inr (9, moF am known_h0 thrown_h0 wrong_h0 lastEnd_h0 at_h0 at_h0 levels_h0 least_h0 found_h0)), ((am 5), .inr (8, [.ref a_all_m5, .int size_m5])), (a_all_m5, .inl (cI, n_a_all_m5, .inl b_a_all_m5)), ((am 20), .inr (8, [.ref a_all_m20, .int size_m20])), ((am 2), .inl (cI, n_m2, .inl b_m2)), ((am 21), .inr (8, [.ref a_all_m21, .int size_m21])), ((am 7), .inr (8, [.ref a_all_m7, .int size_m7])), (a_all_m7, .inl (cI, n_a_all_m7, .inl b_a_all_m7)), ((am 6), .inr (8, [.ref a_all_m6, .int size_m6])), (a_all_m6, .inl (cI, n_a_all_m6, .inl b_a_all_m6)), ((am 4), .inr (8, [.ref a_all_m4, .int size_m4])), (a_all_m4, .inl (cI, n_a_all_m4, .inl b_a_all_m4)), ((am 22), .inr (8, [.ref a_all_m22, .int size_m22])), (a_all_m20, .inl (cI, n_a_all_m20, .inl b_a_all_m20)), (a_all_m21, .inl (cI, n_a_all_m21, .inl b_a_all_m21)), (a_all_m22, .inl (cI, n_a_all_m22, .inl b_a_all_m22))]) hr (zb_n zb0) d_Mo_readStatement_451 [15, 11, 12, 0, 2, 13, 3, 4, 5, 6, 7, 8, 9, 1, 14, 10] rfl (by decide) ⟨a_all_m20, a_all_m21, a_all_m22, rfl, zb0, rfl⟩
              · replace h := it_f c164 h
                by_cases c175 : (b_a_all_m5 (Int32.toNatClampNeg at_h0)) = 17
                · replace h := it_t c175 h
                  refine j_tabIn (tgt := 440) (off := 434) d_Mo_readStatement_6 17 c175 (by decide) (by decide) (by decide) (by decide) ?_
                  refine j_aload_n d_Mo_readStatement_440 rfl 1 rfl ?_
                  replace h := bd_s h
                  obtain ⟨r176, k178, h⟩ := h
                  refine j_callV (n := 0) (As := []) (rest := []) (wr := [((am 20), .inr (8, [.ref a_all_m20, .int size_m20])), (a_all_m20, .inl (cI, n_a_all_m20, .inl b_a_all_m20)), ((am 2), .inl (cI, n_m2, .inl b_m2)), ((am 7), .inr (8, [.ref a_all_m7, .int size_m7])), (a_all_m7, .inl (cI, n_a_all_m7, .inl b_a_all_m7)), ((am 6), .inr (8, [.ref a_all_m6, .int size_m6])), (a_all_m6, .inl (cI, n_a_all_m6, .inl b_a_all_m6)), ((am 4), .inr (8, [.ref a_all_m4, .int size_m4])), (a_all_m4, .inl (cI, n_a_all_m4, .inl b_a_all_m4)), ((am 22), .inr (8, [.ref a_all_m22, .int size_m22])), (a_all_m22, .inl (cI, n_a_all_m22, .inl b_a_all_m22)), ((am 5), .inr (8, [.ref a_all_m5, .int size_m5])), (a_all_m5, .inl (cI, n_a_all_m5, .inl b_a_all_m5))]) (c_Mo_isInLoop l D cI cB cJ cS h0 am a_all_m21 known_h0 thrown_h0 wrong_h0 lastEnd_h0 at_h0 bad_h0 levels_h0 least_h0 found_h0 size_m21 n_a_all_m21 b_a_all_m21  r176 k178) k_Mo_374 (by decide) ⟨Nat.le_of_ble_eq_true rfl, Nat.le_of_ble_eq_true rfl⟩ rfl 0 rfl [13, 3, 4] [0, 1, 2, 5, 6, 7, 8, 9, 10, 11, 12, 14, 15] rfl (by decide +kernel) rfl (by decide +kernel) (by decide +kernel) rfl rfl (Nat.le_of_ble_eq_true rfl) d_Mo_readStatement_441 ⟨show 0 + 0 ≤ mc by omega, show 0 + 0 ≤ ms by omega⟩ (fun v w hq => ?_)
                  obtain ⟨rfl, z177, rfl⟩ := hq
                  refine j_norm (pc' := 444) (st' := [.int r176]) (ws' := [((am 20), .inr (8, [.ref a_all_m20, .int size_m20])), (a_all_m20, .inl (cI, n_a_all_m20, .inl b_a_all_m20)), ((am 2), .inl (cI, n_m2, .inl b_m2)), ((am 7), .inr (8, [.ref a_all_m7, .int size_m7])), (a_all_m7, .inl (cI, n_a_all_m7, .inl b_a_all_m7)), ((am 6), .inr (8, [.ref a_all_m6, .int size_m6])), (a_all_m6, .inl (cI, n_a_all_m6, .inl b_a_all_m6)), ((am 4), .inr (8, [.ref a_all_m4, .int size_m4])), (a_all_m4, .inl (cI, n_a_all_m4, .inl b_a_all_m4)), ((am 22), .inr (8, [.ref a_all_m22, .int size_m22])), (a_all_m22, .inl (cI, n_a_all_m22, .inl b_a_all_m22)), ((am 5), .inr (8, [.ref a_all_m5, .int size_m5])), (a_all_m5, .inl (cI, n_a_all_m5, .inl b_a_all_m5)), (h0, .inr (9, moF am known_h0 thrown_h0 wrong_h0 lastEnd_h0 at_h0 bad_h0 levels_h0 least_h0 found_h0)), ((am 21), .inr (8, [.ref a_all_m21, .int size_m21])), (a_all_m21, .inl (cI, n_a_all_m21, .inl b_a_all_m21))]) (cl' := 0) (sl' := 0) rfl rfl rfl rfl rfl rfl ?_
                  refine j_if_ne (tgt := 452) d_Mo_readStatement_444 (by decide) (fun c179 => ?_) (fun c179 => ?_)
                  · replace h := it_f c179 h
                    refine j_aload_n d_Mo_readStatement_452 rfl 1 rfl ?_
                    refine j_dup rfl d_Mo_readStatement_453 ?_
                    refine j_get ig_Mo rfl 13 rfl 17 (by decide) rfl m_1130 rfl d_Mo_readStatement_454 ?_
                    refine j_iconst (v := 1) d_Mo_readStatement_457 (by decide) ?_
                    refine j_iadd d_Mo_readStatement_458 ?_
                    refine j_put (ws' := [((am 20), .inr (8, [.ref a_all_m20, .int size_m20])), (a_all_m20, .inl (cI, n_a_all_m20, .inl b_a_all_m20)), ((am 2), .inl (cI, n_m2, .inl b_m2)), ((am 7), .inr (8, [.ref a_all_m7, .int size_m7])), (a_all_m7, .inl (cI, n_a_all_m7, .inl b_a_all_m7)), ((am 6), .inr (8, [.ref a_all_m6, .int size_m6])), (a_all_m6, .inl (cI, n_a_all_m6, .inl b_a_all_m6)), ((am 4), .inr (8, [.ref a_all_m4, .int size_m4])), (a_all_m4, .inl (cI, n_a_all_m4, .inl b_a_all_m4)), ((am 22), .inr (8, [.ref a_all_m22, .int size_m22])), (a_all_m22, .inl (cI, n_a_all_m22, .inl b_a_all_m22)), ((am 5), .inr (8, [.ref a_all_m5, .int size_m5])), (a_all_m5, .inl (cI, n_a_all_m5, .inl b_a_all_m5)), (h0, .inr (9, moF am known_h0 thrown_h0 wrong_h0 lastEnd_h0 (at_h0 + 1) bad_h0 levels_h0 least_h0 found_h0)), ((am 21), .inr (8, [.ref a_all_m21, .int size_m21])), (a_all_m21, .inl (cI, n_a_all_m21, .inl b_a_all_m21))]) ig_Mo tk_Mo nm_Mo rfl 13 rfl 17 (by decide) rfl m_1130 rfl (tk_Mo 17 (by decide)) rfl rfl (Nat.le_of_ble_eq_true rfl) d_Mo_readStatement_459 rfl ?_
                    refine j_aload_n d_Mo_readStatement_462 rfl 1 rfl ?_
                    refine j_bipush (v := 55) d_Mo_readStatement_463 (by decide) ?_
                    replace h := bd_s h
                    obtain ⟨⟨r180, r181, r182⟩, k184, h⟩ := h
                    refine j_callV (n := 1) (As := [.int 55]) (rest := []) (wr := [((am 20), .inr (8, [.ref a_all_m20, .int size_m20])), (a_all_m20, .inl (cI, n_a_all_m20, .inl b_a_all_m20)), ((am 2), .inl (cI, n_m2, .inl b_m2)), ((am 7), .inr (8, [.ref a_all_m7, .int size_m7])), (a_all_m7, .inl (cI, n_a_all_m7, .inl b_a_all_m7)), ((am 6), .inr (8, [.ref a_all_m6, .int size_m6])), (a_all_m6, .inl (cI, n_a_all_m6, .inl b_a_all_m6)), ((am 4), .inr (8, [.ref a_all_m4, .int size_m4])), (a_all_m4, .inl (cI, n_a_all_m4, .inl b_a_all_m4)), ((am 22), .inr (8, [.ref a_all_m22, .int size_m22])), (a_all_m22, .inl (cI, n_a_all_m22, .inl b_a_all_m22)), ((am 21), .inr (8, [.ref a_all_m21, .int size_m21])), (a_all_m21, .inl (cI, n_a_all_m21, .inl b_a_all_m21))]) (c_Mo_take l D cI cB cJ cS h0 am a_all_m5 55 known_h0 thrown_h0 wrong_h0 lastEnd_h0 (at_h0 + 1) bad_h0 levels_h0 least_h0 found_h0 size_m5 n_a_all_m5 b_a_all_m5  r180 r181 r182 k184) k_Mo_285 (by decide) ⟨Nat.le_of_ble_eq_true rfl, Nat.le_of_ble_eq_true rfl⟩ rfl 0 rfl [13, 11, 12] [0, 1, 2, 3, 4, 5, 6, 7, 8, 9, 10, 14, 15] rfl (by decide +kernel) rfl (by decide +kernel) (by decide +kernel) rfl rfl (Nat.le_of_ble_eq_true rfl) d_Mo_readStatement_465 ⟨show 0 + 0 ≤ mc by omega, show 0 + 0 ≤ ms by omega⟩ (fun v w hq => ?_)
                    obtain ⟨rfl, z183, rfl⟩ := hq
                    refine j_norm (pc' := 468) (st' := [.int r180]) (ws' := [((am 20), .inr (8, [.ref a_all_m20, .int size_m20])), (a_all_m20, .inl (cI, n_a_all_m20, .inl b_a_all_m20)), ((am 2), .inl (cI, n_m2, .inl b_m2)), ((am 7), .inr (8, [.ref a_all_m7, .int size_m7])), (a_all_m7, .inl (cI, n_a_all_m7, .inl b_a_all_m7)), ((am 6), .inr (8, [.ref a_all_m6, .int size_m6])), (a_all_m6, .inl (cI, n_a_all_m6, .inl b_a_all_m6)), ((am 4), .inr (8, [.ref a_all_m4, .int size_m4])), (a_all_m4, .inl (cI, n_a_all_m4, .inl b_a_all_m4)), ((am 22), .inr (8, [.ref a_all_m22, .int size_m22])), (a_all_m22, .inl (cI, n_a_all_m22, .inl b_a_all_m22)), ((am 21), .inr (8, [.ref a_all_m21, .int size_m21])), (a_all_m21, .inl (cI, n_a_all_m21, .inl b_a_all_m21)), (h0, .inr (9, moF am known_h0 thrown_h0 wrong_h0 lastEnd_h0 r181 r182 levels_h0 least_h0 found_h0)), ((am 5), .inr (8, [.ref a_all_m5, .int size_m5])), (a_all_m5, .inl (cI, n_a_all_m5, .inl b_a_all_m5))]) (cl' := 0) (sl' := 0) rfl rfl rfl rfl rfl rfl ?_
                    replace h := lf_s h
                    obtain ⟨h, e1, e2⟩ := h
                    replace h := Prod.mk.inj h
                    obtain ⟨h9, h⟩ := h
                    subst h9
                    replace h := Prod.mk.inj h
                    obtain ⟨h9, h⟩ := h
                    subst h9
                    replace h := Prod.mk.inj h
                    obtain ⟨h9, h⟩ := h
                    subst h9
                    replace h := Prod.mk.inj h
                    obtain ⟨h9, h⟩ := h
                    subst h9
                    replace h := Prod.mk.inj h
                    obtain ⟨h9, h⟩ := h
                    subst h9
                    replace h := Prod.mk.inj h
                    obtain ⟨h9, h⟩ := h
                    subst h9
                    replace h := Prod.mk.inj h
                    obtain ⟨h9, h⟩ := h
                    subst h9
                    replace h := Prod.mk.inj h
                    obtain ⟨h9, h⟩ := h
                    subst h9
                    replace h := Prod.mk.inj h
                    obtain ⟨h9, h⟩ := h
                    subst h9
                    replace h := Prod.mk.inj h
                    obtain ⟨h9, h⟩ := h
                    subst h9
                    replace h := Prod.mk.inj h
                    obtain ⟨h9, h⟩ := h
                    subst h9
                    replace h := Prod.mk.inj h
                    obtain ⟨h9, h⟩ := h
                    subst h9
                    replace h := Prod.mk.inj h
                    obtain ⟨h9, h⟩ := h
                    subst h9
                    subst h
                    refine j_widen (cl' := mc) (sl' := ms) (by omega) (by omega) ?_
                    exact j_zret (w := [(h0, .inr (9, moF am known_h0 thrown_h0 wrong_h0 lastEnd_h0 r181 r182 levels_h0 least_h0 found_h0)), ((am 5), .inr (8, [.ref a_all_m5, .int size_m5])), (a_all_m5, .inl (cI, n_a_all_m5, .inl b_a_all_m5)), ((am 20), .inr (8, [.ref a_all_m20, .int size_m20])), ((am 2), .inl (cI, n_m2, .inl b_m2)), ((am 21), .inr (8, [.ref a_all_m21, .int size_m21])), ((am 7), .inr (8, [.ref a_all_m7, .int size_m7])), (a_all_m7, .inl (cI, n_a_all_m7, .inl b_a_all_m7)), ((am 6), .inr (8, [.ref a_all_m6, .int size_m6])), (a_all_m6, .inl (cI, n_a_all_m6, .inl b_a_all_m6)), ((am 4), .inr (8, [.ref a_all_m4, .int size_m4])), (a_all_m4, .inl (cI, n_a_all_m4, .inl b_a_all_m4)), ((am 22), .inr (8, [.ref a_all_m22, .int size_m22])), (a_all_m20, .inl (cI, n_a_all_m20, .inl b_a_all_m20)), (a_all_m21, .inl (cI, n_a_all_m21, .inl b_a_all_m21)), (a_all_m22, .inl (cI, n_a_all_m22, .inl b_a_all_m22))]) hr (zb_n z183) d_Mo_readStatement_468 [13, 14, 15, 0, 2, 11, 3, 4, 5, 6, 7, 8, 9, 1, 12, 10] rfl (by decide) ⟨a_all_m20, a_all_m21, a_all_m22, rfl, z183, rfl⟩
                  · replace h := it_t c179 h
                    refine j_aload_n d_Mo_readStatement_447 rfl 1 rfl ?_
                    refine j_callV (n := 0) (As := []) (rest := []) (wr := [((am 20), .inr (8, [.ref a_all_m20, .int size_m20])), (a_all_m20, .inl (cI, n_a_all_m20, .inl b_a_all_m20)), ((am 2), .inl (cI, n_m2, .inl b_m2)), ((am 7), .inr (8, [.ref a_all_m7, .int size_m7])), (a_all_m7, .inl (cI, n_a_all_m7, .inl b_a_all_m7)), ((am 6), .inr (8, [.ref a_all_m6, .int size_m6])), (a_all_m6, .inl (cI, n_a_all_m6, .inl b_a_all_m6)), ((am 4), .inr (8, [.ref a_all_m4, .int size_m4])), (a_all_m4, .inl (cI, n_a_all_m4, .inl b_a_all_m4)), ((am 22), .inr (8, [.ref a_all_m22, .int size_m22])), (a_all_m22, .inl (cI, n_a_all_m22, .inl b_a_all_m22)), ((am 5), .inr (8, [.ref a_all_m5, .int size_m5])), (a_all_m5, .inl (cI, n_a_all_m5, .inl b_a_all_m5)), ((am 21), .inr (8, [.ref a_all_m21, .int size_m21])), (a_all_m21, .inl (cI, n_a_all_m21, .inl b_a_all_m21))]) (c_Mo_fail l D cI cB cJ cS h0 am known_h0 thrown_h0 wrong_h0 lastEnd_h0 at_h0 bad_h0 levels_h0 least_h0 found_h0  ) k_Mo_278 (by decide) ⟨Nat.le_of_ble_eq_true rfl, Nat.le_of_ble_eq_true rfl⟩ rfl 0 rfl [13] [0, 1, 2, 3, 4, 5, 6, 7, 8, 9, 10, 11, 12, 14, 15] rfl (by decide +kernel) rfl (by decide +kernel) (by decide +kernel) rfl rfl (Nat.le_of_ble_eq_true rfl) d_Mo_readStatement_448 ⟨show 0 + 0 ≤ mc by omega, show 0 + 0 ≤ ms by omega⟩ (fun v w hq => ?_)
                    obtain ⟨rfl, _, rfl⟩ := hq
                    refine j_norm (pc' := 451) (st' := [.int 0]) (ws' := [((am 20), .inr (8, [.ref a_all_m20, .int size_m20])), (a_all_m20, .inl (cI, n_a_all_m20, .inl b_a_all_m20)), ((am 2), .inl (cI, n_m2, .inl b_m2)), ((am 7), .inr (8, [.ref a_all_m7, .int size_m7])), (a_all_m7, .inl (cI, n_a_all_m7, .inl b_a_all_m7)), ((am 6), .inr (8, [.ref a_all_m6, .int size_m6])), (a_all_m6, .inl (cI, n_a_all_m6, .inl b_a_all_m6)), ((am 4), .inr (8, [.ref a_all_m4, .int size_m4])), (a_all_m4, .inl (cI, n_a_all_m4, .inl b_a_all_m4)), ((am 22), .inr (8, [.ref a_all_m22, .int size_m22])), (a_all_m22, .inl (cI, n_a_all_m22, .inl b_a_all_m22)), ((am 5), .inr (8, [.ref a_all_m5, .int size_m5])), (a_all_m5, .inl (cI, n_a_all_m5, .inl b_a_all_m5)), ((am 21), .inr (8, [.ref a_all_m21, .int size_m21])), (a_all_m21, .inl (cI, n_a_all_m21, .inl b_a_all_m21)), (h0, .inr (9, moF am known_h0 thrown_h0 wrong_h0 lastEnd_h0 at_h0 at_h0 levels_h0 least_h0 found_h0))]) (cl' := 0) (sl' := 0) rfl rfl rfl rfl rfl rfl ?_
                    replace h := lf_s h
                    obtain ⟨h, e1, e2⟩ := h
                    replace h := Prod.mk.inj h
                    obtain ⟨h9, h⟩ := h
                    subst h9
                    replace h := Prod.mk.inj h
                    obtain ⟨h9, h⟩ := h
                    subst h9
                    replace h := Prod.mk.inj h
                    obtain ⟨h9, h⟩ := h
                    subst h9
                    replace h := Prod.mk.inj h
                    obtain ⟨h9, h⟩ := h
                    subst h9
                    replace h := Prod.mk.inj h
                    obtain ⟨h9, h⟩ := h
                    subst h9
                    replace h := Prod.mk.inj h
                    obtain ⟨h9, h⟩ := h
                    subst h9
                    replace h := Prod.mk.inj h
                    obtain ⟨h9, h⟩ := h
                    subst h9
                    replace h := Prod.mk.inj h
                    obtain ⟨h9, h⟩ := h
                    subst h9
                    replace h := Prod.mk.inj h
                    obtain ⟨h9, h⟩ := h
                    subst h9
                    replace h := Prod.mk.inj h
                    obtain ⟨h9, h⟩ := h
                    subst h9
                    replace h := Prod.mk.inj h
                    obtain ⟨h9, h⟩ := h
                    subst h9
                    replace h := Prod.mk.inj h
                    obtain ⟨h9, h⟩ := h
                    subst h9
                    replace h := Prod.mk.inj h
                    obtain ⟨h9, h⟩ := h
                    subst h9
                    subst h
                    refine j_widen (cl' := mc) (sl' := ms) (by omega) (by omega) ?_
                    exact j_zret (w := [(h0, .inr (9, moF am known_h0 thrown_h0 wrong_h0 lastEnd_h0 at_h0 at_h0 levels_h0 least_h0 found_h0)), ((am 5), .inr (8, [.ref a_all_m5, .int size_m5])), (a_all_m5, .inl (cI, n_a_all_m5, .inl b_a_all_m5)), ((am 20), .inr (8, [.ref a_all_m20, .int size_m20])), ((am 2), .inl (cI, n_m2, .inl b_m2)), ((am 21), .inr (8, [.ref a_all_m21, .int size_m21])), ((am 7), .inr (8, [.ref a_all_m7, .int size_m7])), (a_all_m7, .inl (cI, n_a_all_m7, .inl b_a_all_m7)), ((am 6), .inr (8, [.ref a_all_m6, .int size_m6])), (a_all_m6, .inl (cI, n_a_all_m6, .inl b_a_all_m6)), ((am 4), .inr (8, [.ref a_all_m4, .int size_m4])), (a_all_m4, .inl (cI, n_a_all_m4, .inl b_a_all_m4)), ((am 22), .inr (8, [.ref a_all_m22, .int size_m22])), (a_all_m20, .inl (cI, n_a_all_m20, .inl b_a_all_m20)), (a_all_m21, .inl (cI, n_a_all_m21, .inl b_a_all_m21)), (a_all_m22, .inl (cI, n_a_all_m22, .inl b_a_all_m22))]) hr (zb_n zb0) d_Mo_readStatement_451 [15, 11, 12, 0, 2, 13, 3, 4, 5, 6, 7, 8, 9, 1, 14, 10] rfl (by decide) ⟨a_all_m20, a_all_m21, a_all_m22, rfl, zb0, rfl⟩
                · replace h := it_f c175 h
                  by_cases c186 : (b_a_all_m5 (Int32.toNatClampNeg at_h0)) = 18
                  · replace h := it_t c186 h
                    refine j_tabIn (tgt := 469) (off := 463) d_Mo_readStatement_6 18 c186 (by decide) (by decide) (by decide) (by decide) ?_
                    refine j_aload_n d_Mo_readStatement_469 rfl 1 rfl ?_
                    refine j_dup rfl d_Mo_readStatement_470 ?_
                    refine j_get ig_Mo rfl 13 rfl 17 (by decide) rfl m_1130 rfl d_Mo_readStatement_471 ?_
                    refine j_iconst (v := 1) d_Mo_readStatement_474 (by decide) ?_
                    refine j_iadd d_Mo_readStatement_475 ?_
                    refine j_put (ws' := [((am 20), .inr (8, [.ref a_all_m20, .int size_m20])), (a_all_m20, .inl (cI, n_a_all_m20, .inl b_a_all_m20)), ((am 2), .inl (cI, n_m2, .inl b_m2)), ((am 21), .inr (8, [.ref a_all_m21, .int size_m21])), (a_all_m21, .inl (cI, n_a_all_m21, .inl b_a_all_m21)), ((am 7), .inr (8, [.ref a_all_m7, .int size_m7])), (a_all_m7, .inl (cI, n_a_all_m7, .inl b_a_all_m7)), ((am 6), .inr (8, [.ref a_all_m6, .int size_m6])), (a_all_m6, .inl (cI, n_a_all_m6, .inl b_a_all_m6)), ((am 4), .inr (8, [.ref a_all_m4, .int size_m4])), (a_all_m4, .inl (cI, n_a_all_m4, .inl b_a_all_m4)), ((am 22), .inr (8, [.ref a_all_m22, .int size_m22])), (a_all_m22, .inl (cI, n_a_all_m22, .inl b_a_all_m22)), (h0, .inr (9, moF am known_h0 thrown_h0 wrong_h0 lastEnd_h0 (at_h0 + 1) bad_h0 levels_h0 least_h0 found_h0)), ((am 5), .inr (8, [.ref a_all_m5, .int size_m5])), (a_all_m5, .inl (cI, n_a_all_m5, .inl b_a_all_m5))]) ig_Mo tk_Mo nm_Mo rfl 13 rfl 17 (by decide) rfl m_1130 rfl (tk_Mo 17 (by decide)) rfl rfl (Nat.le_of_ble_eq_true rfl) d_Mo_readStatement_476 rfl ?_
                    refine j_aload_n d_Mo_readStatement_479 rfl 1 rfl ?_
                    refine j_bipush (v := 55) d_Mo_readStatement_480 (by decide) ?_
                    replace h := bd_s h
                    obtain ⟨⟨r187, r188, r189⟩, k191, h⟩ := h
                    refine j_callV (n := 1) (As := [.int 55]) (rest := []) (wr := [((am 20), .inr (8, [.ref a_all_m20, .int size_m20])), (a_all_m20, .inl (cI, n_a_all_m20, .inl b_a_all_m20)), ((am 2), .inl (cI, n_m2, .inl b_m2)), ((am 21), .inr (8, [.ref a_all_m21, .int size_m21])), (a_all_m21, .inl (cI, n_a_all_m21, .inl b_a_all_m21)), ((am 7), .inr (8, [.ref a_all_m7, .int size_m7])), (a_all_m7, .inl (cI, n_a_all_m7, .inl b_a_all_m7)), ((am 6), .inr (8, [.ref a_all_m6, .int size_m6])), (a_all_m6, .inl (cI, n_a_all_m6, .inl b_a_all_m6)), ((am 4), .inr (8, [.ref a_all_m4, .int size_m4])), (a_all_m4, .inl (cI, n_a_all_m4, .inl b_a_all_m4)), ((am 22), .inr (8, [.ref a_all_m22, .int size_m22])), (a_all_m22, .inl (cI, n_a_all_m22, .inl b_a_all_m22))]) (c_Mo_take l D cI cB cJ cS h0 am a_all_m5 55 known_h0 thrown_h0 wrong_h0 lastEnd_h0 (at_h0 + 1) bad_h0 levels_h0 least_h0 found_h0 size_m5 n_a_all_m5 b_a_all_m5  r187 r188 r189 k191) k_Mo_285 (by decide) ⟨Nat.le_of_ble_eq_true rfl, Nat.le_of_ble_eq_true rfl⟩ rfl 0 rfl [13, 14, 15] [0, 1, 2, 3, 4, 5, 6, 7, 8, 9, 10, 11, 12] rfl (by decide +kernel) rfl (by decide +kernel) (by decide +kernel) rfl rfl (Nat.le_of_ble_eq_true rfl) d_Mo_readStatement_482 ⟨show 0 + 0 ≤ mc by omega, show 0 + 0 ≤ ms by omega⟩ (fun v w hq => ?_)
                    obtain ⟨rfl, z190, rfl⟩ := hq
                    refine j_norm (pc' := 485) (st' := [.int r187]) (ws' := [((am 20), .inr (8, [.ref a_all_m20, .int size_m20])), (a_all_m20, .inl (cI, n_a_all_m20, .inl b_a_all_m20)), ((am 2), .inl (cI, n_m2, .inl b_m2)), ((am 21), .inr (8, [.ref a_all_m21, .int size_m21])), (a_all_m21, .inl (cI, n_a_all_m21, .inl b_a_all_m21)), ((am 7), .inr (8, [.ref a_all_m7, .int size_m7])), (a_all_m7, .inl (cI, n_a_all_m7, .inl b_a_all_m7)), ((am 6), .inr (8, [.ref a_all_m6, .int size_m6])), (a_all_m6, .inl (cI, n_a_all_m6, .inl b_a_all_m6)), ((am 4), .inr (8, [.ref a_all_m4, .int size_m4])), (a_all_m4, .inl (cI, n_a_all_m4, .inl b_a_all_m4)), ((am 22), .inr (8, [.ref a_all_m22, .int size_m22])), (a_all_m22, .inl (cI, n_a_all_m22, .inl b_a_all_m22)), (h0, .inr (9, moF am known_h0 thrown_h0 wrong_h0 lastEnd_h0 r188 r189 levels_h0 least_h0 found_h0)), ((am 5), .inr (8, [.ref a_all_m5, .int size_m5])), (a_all_m5, .inl (cI, n_a_all_m5, .inl b_a_all_m5))]) (cl' := 0) (sl' := 0) rfl rfl rfl rfl rfl rfl ?_
                    replace h := lf_s h
                    obtain ⟨h, e1, e2⟩ := h
                    replace h := Prod.mk.inj h
                    obtain ⟨h9, h⟩ := h
                    subst h9
                    replace h := Prod.mk.inj h
                    obtain ⟨h9, h⟩ := h
                    subst h9
                    replace h := Prod.mk.inj h
                    obtain ⟨h9, h⟩ := h
                    subst h9
                    replace h := Prod.mk.inj h
                    obtain ⟨h9, h⟩ := h
                    subst h9
                    replace h := Prod.mk.inj h
                    obtain ⟨h9, h⟩ := h
                    subst h9
                    replace h := Prod.mk.inj h
                    obtain ⟨h9, h⟩ := h
                    subst h9
                    replace h := Prod.mk.inj h
                    obtain ⟨h9, h⟩ := h
                    subst h9
                    replace h := Prod.mk.inj h
                    obtain ⟨h9, h⟩ := h
                    subst h9
                    replace h := Prod.mk.inj h
                    obtain ⟨h9, h⟩ := h
                    subst h9
                    replace h := Prod.mk.inj h
                    obtain ⟨h9, h⟩ := h
                    subst h9
                    replace h := Prod.mk.inj h
                    obtain ⟨h9, h⟩ := h
                    subst h9
                    replace h := Prod.mk.inj h
                    obtain ⟨h9, h⟩ := h
                    subst h9
                    replace h := Prod.mk.inj h
                    obtain ⟨h9, h⟩ := h
                    subst h9
                    subst h
                    refine j_widen (cl' := mc) (sl' := ms) (by omega) (by omega) ?_
                    exact j_zret (w := [(h0, .inr (9, moF am known_h0 thrown_h0 wrong_h0 lastEnd_h0 r188 r189 levels_h0 least_h0 found_h0)), ((am 5), .inr (8, [.ref a_all_m5, .int size_m5])), (a_all_m5, .inl (cI, n_a_all_m5, .inl b_a_all_m5)), ((am 20), .inr (8, [.ref a_all_m20, .int size_m20])), ((am 2), .inl (cI, n_m2, .inl b_m2)), ((am 21), .inr (8, [.ref a_all_m21, .int size_m21])), ((am 7), .inr (8, [.ref a_all_m7, .int size_m7])), (a_all_m7, .inl (cI, n_a_all_m7, .inl b_a_all_m7)), ((am 6), .inr (8, [.ref a_all_m6, .int size_m6])), (a_all_m6, .inl (cI, n_a_all_m6, .inl b_a_all_m6)), ((am 4), .inr (8, [.ref a_all_m4, .int size_m4])), (a_all_m4, .inl (cI, n_a_all_m4, .inl b_a_all_m4)), ((am 22), .inr (8, [.ref a_all_m22, .int size_m22])), (a_all_m20, .inl (cI, n_a_all_m20, .inl b_a_all_m20)), (a_all_m21, .inl (cI, n_a_all_m21, .inl b_a_all_m21)), (a_all_m22, .inl (cI, n_a_all_m22, .inl b_a_all_m22))]) hr (zb_n z190) d_Mo_readStatement_485 [13, 14, 15, 0, 2, 3, 5, 6, 7, 8, 9, 10, 11, 1, 4, 12] rfl (by decide) ⟨a_all_m20, a_all_m21, a_all_m22, rfl, z190, rfl⟩
                  · replace h := it_f c186 h
                    by_cases c192 : (b_a_all_m5 (Int32.toNatClampNeg at_h0)) = 19
                    · replace h := it_t c192 h
                      refine j_tabIn (tgt := 192) (off := 186) d_Mo_readStatement_6 19 c192 (by decide) (by decide) (by decide) (by decide) ?_
                      refine j_aload_n d_Mo_readStatement_192 rfl 1 rfl ?_
                      replace h := bw_s h
                      obtain ⟨⟨r193, r194, r195, r196, r197, r198, r199, r200, r201, r202⟩, C206, S207, C208, S209, k210, h, e1, e2⟩ := h
                      replace hC : 0 + C206 + C208 ≤ mc := by omega
                      replace hS : 0 + S207 + S209 ≤ ms := by omega
                      clear e1 e2
                      refine j_callV (n := 0) (As := []) (rest := []) (wr := [((am 20), .inr (8, [.ref a_all_m20, .int size_m20])), (a_all_m20, .inl (cI, n_a_all_m20, .inl b_a_all_m20)), ((am 2), .inl (cI, n_m2, .inl b_m2))]) (c_Mo_readFunction l D cI cB cJ cS h0 am a_all_m21 a_all_m5 a_all_m7 a_all_m6 a_all_m4 a_all_m22 known_h0 thrown_h0 wrong_h0 lastEnd_h0 at_h0 bad_h0 levels_h0 least_h0 found_h0 size_m21 size_m5 n_a_all_m5 b_a_all_m5 size_m7 n_a_all_m7 b_a_all_m7 size_m6 n_a_all_m6 b_a_all_m6 size_m4 n_a_all_m4 b_a_all_m4 size_m22 n_a_all_m22 b_a_all_m22 n_a_all_m21 b_a_all_m21  r193 r194 r195 r196 r197 r198 r199 r200 r201 r202 C206 S207 k210) k_Mo_365 (by decide) ⟨Nat.le_of_ble_eq_true rfl, Nat.le_of_ble_eq_true rfl⟩ rfl 0 rfl [13, 3, 14, 15, 5, 6, 7, 8, 9, 10, 11, 12, 4] [0, 1, 2] rfl (by decide +kernel) rfl (by decide +kernel) (by decide +kernel) rfl rfl (Nat.le_of_ble_eq_true rfl) d_Mo_readStatement_193 ⟨show 0 + C206 ≤ mc by omega, show 0 + S207 ≤ ms by omega⟩ (fun v w hq => ?_)
                      obtain ⟨q203, q204, rfl, z205, rfl⟩ := hq
                      refine j_norm (pc' := 196) (st' := [.int r193]) (ws' := [((am 20), .inr (8, [.ref a_all_m20, .int size_m20])), (a_all_m20, .inl (cI, n_a_all_m20, .inl b_a_all_m20)), ((am 2), .inl (cI, n_m2, .inl b_m2)), (h0, .inr (9, moF am known_h0 thrown_h0 wrong_h0 lastEnd_h0 r194 r195 r196 least_h0 found_h0)), ((am 21), .inr (8, [.ref q203, .int r197])), ((am 5), .inr (8, [.ref a_all_m5, .int size_m5])), (a_all_m5, .inl (cI, n_a_all_m5, .inl b_a_all_m5)), ((am 7), .inr (8, [.ref a_all_m7, .int size_m7])), (a_all_m7, .inl (cI, n_a_all_m7, .inl b_a_all_m7)), ((am 6), .inr (8, [.ref a_all_m6, .int size_m6])), (a_all_m6, .inl (cI, n_a_all_m6, .inl b_a_all_m6)), ((am 4), .inr (8, [.ref a_all_m4, .int size_m4])), (a_all_m4, .inl (cI, n_a_all_m4, .inl b_a_all_m4)), ((am 22), .inr (8, [.ref q204, .int r198])), (q203, .inl (cI, r199, .inl r200)), (q204, .inl (cI, r201, .inl r202))]) (cl' := 0 + C206) (sl' := 0 + S207) rfl rfl rfl rfl rfl rfl ?_
                      replace h := lf_s h
                      obtain ⟨h, e1, e2⟩ := h
                      replace h := Prod.mk.inj h
                      obtain ⟨h9, h⟩ := h
                      subst h9
                      replace h := Prod.mk.inj h
                      obtain ⟨h9, h⟩ := h
                      subst h9
                      replace h := Prod.mk.inj h
                      obtain ⟨h9, h⟩ := h
                      subst h9
                      replace h := Prod.mk.inj h
                      obtain ⟨h9, h⟩ := h
                      subst h9
                      replace h := Prod.mk.inj h
                      obtain ⟨h9, h⟩ := h
                      subst h9
                      replace h := Prod.mk.inj h
                      obtain ⟨h9, h⟩ := h
                      subst h9
                      replace h := Prod.mk.inj h
                      obtain ⟨h9, h⟩ := h
                      subst h9
                      replace h := Prod.mk.inj h
                      obtain ⟨h9, h⟩ := h
                      subst h9
                      replace h := Prod.mk.inj h
                      obtain ⟨h9, h⟩ := h
                      subst h9
                      replace h := Prod.mk.inj h
                      obtain ⟨h9, h⟩ := h
                      subst h9
                      replace h := Prod.mk.inj h
                      obtain ⟨h9, h⟩ := h
                      subst h9
                      replace h := Prod.mk.inj h
                      obtain ⟨h9, h⟩ := h
                      subst h9
                      replace h := Prod.mk.inj h
                      obtain ⟨h9, h⟩ := h
                      subst h9
                      subst h
                      refine j_widen (cl' := mc) (sl' := ms) (by omega) (by omega) ?_
                      exact j_zret (w := [(h0, .inr (9, moF am known_h0 thrown_h0 wrong_h0 lastEnd_h0 r194 r195 r196 least_h0 found_h0)), ((am 5), .inr (8, [.ref a_all_m5, .int size_m5])), (a_all_m5, .inl (cI, n_a_all_m5, .inl b_a_all_m5)), ((am 20), .inr (8, [.ref a_all_m20, .int size_m20])), ((am 2), .inl (cI, n_m2, .inl b_m2)), ((am 21), .inr (8, [.ref q203, .int r197])), ((am 7), .inr (8, [.ref a_all_m7, .int size_m7])), (a_all_m7, .inl (cI, n_a_all_m7, .inl b_a_all_m7)), ((am 6), .inr (8, [.ref a_all_m6, .int size_m6])), (a_all_m6, .inl (cI, n_a_all_m6, .inl b_a_all_m6)), ((am 4), .inr (8, [.ref a_all_m4, .int size_m4])), (a_all_m4, .inl (cI, n_a_all_m4, .inl b_a_all_m4)), ((am 22), .inr (8, [.ref q204, .int r198])), (a_all_m20, .inl (cI, n_a_all_m20, .inl b_a_all_m20)), (q203, .inl (cI, r199, .inl r200)), (q204, .inl (cI, r201, .inl r202))]) hr (zb_n z205) d_Mo_readStatement_196 [3, 5, 6, 0, 2, 4, 7, 8, 9, 10, 11, 12, 13, 1, 14, 15] rfl (by decide) ⟨a_all_m20, q203, q204, rfl, z205, rfl⟩
                    · replace h := it_f c192 h
                      by_cases c211 : (b_a_all_m5 (Int32.toNatClampNeg at_h0)) = 20
                      · replace h := it_t c211 h
                        refine j_tabIn (tgt := 486) (off := 480) d_Mo_readStatement_6 20 c211 (by decide) (by decide) (by decide) (by decide) ?_
                        refine j_aload_n d_Mo_readStatement_486 rfl 1 rfl ?_
                        refine j_dup rfl d_Mo_readStatement_487 ?_
                        refine j_get ig_Mo rfl 13 rfl 17 (by decide) rfl m_1130 rfl d_Mo_readStatement_488 ?_
                        refine j_iconst (v := 1) d_Mo_readStatement_491 (by decide) ?_
                        refine j_iadd d_Mo_readStatement_492 ?_
                        refine j_put (ws' := [((am 20), .inr (8, [.ref a_all_m20, .int size_m20])), (a_all_m20, .inl (cI, n_a_all_m20, .inl b_a_all_m20)), ((am 2), .inl (cI, n_m2, .inl b_m2)), ((am 21), .inr (8, [.ref a_all_m21, .int size_m21])), (a_all_m21, .inl (cI, n_a_all_m21, .inl b_a_all_m21)), ((am 7), .inr (8, [.ref a_all_m7, .int size_m7])), (a_all_m7, .inl (cI, n_a_all_m7, .inl b_a_all_m7)), ((am 6), .inr (8, [.ref a_all_m6, .int size_m6])), (a_all_m6, .inl (cI, n_a_all_m6, .inl b_a_all_m6)), ((am 4), .inr (8, [.ref a_all_m4, .int size_m4])), (a_all_m4, .inl (cI, n_a_all_m4, .inl b_a_all_m4)), ((am 22), .inr (8, [.ref a_all_m22, .int size_m22])), (a_all_m22, .inl (cI, n_a_all_m22, .inl b_a_all_m22)), (h0, .inr (9, moF am known_h0 thrown_h0 wrong_h0 lastEnd_h0 (at_h0 + 1) bad_h0 levels_h0 least_h0 found_h0)), ((am 5), .inr (8, [.ref a_all_m5, .int size_m5])), (a_all_m5, .inl (cI, n_a_all_m5, .inl b_a_all_m5))]) ig_Mo tk_Mo nm_Mo rfl 13 rfl 17 (by decide) rfl m_1130 rfl (tk_Mo 17 (by decide)) rfl rfl (Nat.le_of_ble_eq_true rfl) d_Mo_readStatement_493 rfl ?_
                        refine j_aload_n d_Mo_readStatement_496 rfl 1 rfl ?_
                        replace h := bw_s h
                        obtain ⟨⟨r212, r213, r214, r215, r216, r217, r218⟩, C221, S222, C223, S224, k225, h, e1, e2⟩ := h
                        replace hC : 0 + C221 + C223 ≤ mc := by omega
                        replace hS : 0 + S222 + S224 ≤ ms := by omega
                        clear e1 e2
                        refine j_callV (n := 0) (As := []) (rest := []) (wr := [((am 21), .inr (8, [.ref a_all_m21, .int size_m21])), (a_all_m21, .inl (cI, n_a_all_m21, .inl b_a_all_m21)), ((am 7), .inr (8, [.ref a_all_m7, .int size_m7])), (a_all_m7, .inl (cI, n_a_all_m7, .inl b_a_all_m7)), ((am 6), .inr (8, [.ref a_all_m6, .int size_m6])), (a_all_m6, .inl (cI, n_a_all_m6, .inl b_a_all_m6)), ((am 4), .inr (8, [.ref a_all_m4, .int size_m4])), (a_all_m4, .inl (cI, n_a_all_m4, .inl b_a_all_m4)), ((am 22), .inr (8, [.ref a_all_m22, .int size_m22])), (a_all_m22, .inl (cI, n_a_all_m22, .inl b_a_all_m22))]) (c_Mo_readSeveral l D cI cB cJ cS h0 am a_all_m20 a_all_m5 known_h0 thrown_h0 wrong_h0 lastEnd_h0 (at_h0 + 1) bad_h0 levels_h0 least_h0 found_h0 size_m20 size_m5 n_a_all_m5 b_a_all_m5 n_a_all_m20 b_a_all_m20 n_m2 b_m2  r212 r213 r214 r215 r216 r217 r218 C221 S222 k225) k_Mo_344 (by decide) ⟨Nat.le_of_ble_eq_true rfl, Nat.le_of_ble_eq_true rfl⟩ rfl 0 rfl [13, 0, 14, 15, 1, 2] [3, 4, 5, 6, 7, 8, 9, 10, 11, 12] rfl (by decide +kernel) rfl (by decide +kernel) (by decide +kernel) rfl rfl (Nat.le_of_ble_eq_true rfl) d_Mo_readStatement_497 ⟨show 0 + C221 ≤ mc by omega, show 0 + S222 ≤ ms by omega⟩ (fun v w hq => ?_)
                        obtain ⟨q219, rfl, z220, rfl⟩ := hq
                        refine j_norm (pc' := 500) (st' := [.int r212]) (ws' := [((am 21), .inr (8, [.ref a_all_m21, .int size_m21])), (a_all_m21, .inl (cI, n_a_all_m21, .inl b_a_all_m21)), ((am 7), .inr (8, [.ref a_all_m7, .int size_m7])), (a_all_m7, .inl (cI, n_a_all_m7, .inl b_a_all_m7)), ((am 6), .inr (8, [.ref a_all_m6, .int size_m6])), (a_all_m6, .inl (cI, n_a_all_m6, .inl b_a_all_m6)), ((am 4), .inr (8, [.ref a_all_m4, .int size_m4])), (a_all_m4, .inl (cI, n_a_all_m4, .inl b_a_all_m4)), ((am 22), .inr (8, [.ref a_all_m22, .int size_m22])), (a_all_m22, .inl (cI, n_a_all_m22, .inl b_a_all_m22)), (h0, .inr (9, moF am known_h0 thrown_h0 wrong_h0 lastEnd_h0 r213 r214 r215 least_h0 found_h0)), ((am 20), .inr (8, [.ref q219, .int r216])), ((am 5), .inr (8, [.ref a_all_m5, .int size_m5])), (a_all_m5, .inl (cI, n_a_all_m5, .inl b_a_all_m5)), ((am 2), .inl (cI, n_m2, .inl b_m2)), (q219, .inl (cI, r217, .inl r218))]) (cl' := 0 + C221) (sl' := 0 + S222) rfl rfl rfl rfl rfl rfl ?_
                        refine j_if_eq (tgt := 516) d_Mo_readStatement_500 (by decide) (fun c226 => ?_) (fun c226 => ?_)
                        · replace h := it_t c226 h
                          refine j_iconst (v := 0) d_Mo_readStatement_516 (by decide) ?_
                          replace h := lf_s h
                          obtain ⟨h, e1, e2⟩ := h
                          replace h := Prod.mk.inj h
                          obtain ⟨h9, h⟩ := h
                          subst h9
                          replace h := Prod.mk.inj h
                          obtain ⟨h9, h⟩ := h
                          subst h9
                          replace h := Prod.mk.inj h
                          obtain ⟨h9, h⟩ := h
                          subst h9
                          replace h := Prod.mk.inj h
                          obtain ⟨h9, h⟩ := h
                          subst h9
                          replace h := Prod.mk.inj h
                          obtain ⟨h9, h⟩ := h
                          subst h9
                          replace h := Prod.mk.inj h
                          obtain ⟨h9, h⟩ := h
                          subst h9
                          replace h := Prod.mk.inj h
                          obtain ⟨h9, h⟩ := h
                          subst h9
                          replace h := Prod.mk.inj h
                          obtain ⟨h9, h⟩ := h
                          subst h9
                          replace h := Prod.mk.inj h
                          obtain ⟨h9, h⟩ := h
                          subst h9
                          replace h := Prod.mk.inj h
                          obtain ⟨h9, h⟩ := h
                          subst h9
                          replace h := Prod.mk.inj h
                          obtain ⟨h9, h⟩ := h
                          subst h9
                          replace h := Prod.mk.inj h
                          obtain ⟨h9, h⟩ := h
                          subst h9
                          replace h := Prod.mk.inj h
                          obtain ⟨h9, h⟩ := h
                          subst h9
                          subst h
                          refine j_widen (cl' := mc) (sl' := ms) (by omega) (by omega) ?_
                          exact j_zret (w := [(h0, .inr (9, moF am known_h0 thrown_h0 wrong_h0 lastEnd_h0 r213 r214 r215 least_h0 found_h0)), ((am 5), .inr (8, [.ref a_all_m5, .int size_m5])), (a_all_m5, .inl (cI, n_a_all_m5, .inl b_a_all_m5)), ((am 20), .inr (8, [.ref q219, .int r216])), ((am 2), .inl (cI, n_m2, .inl b_m2)), ((am 21), .inr (8, [.ref a_all_m21, .int size_m21])), ((am 7), .inr (8, [.ref a_all_m7, .int size_m7])), (a_all_m7, .inl (cI, n_a_all_m7, .inl b_a_all_m7)), ((am 6), .inr (8, [.ref a_all_m6, .int size_m6])), (a_all_m6, .inl (cI, n_a_all_m6, .inl b_a_all_m6)), ((am 4), .inr (8, [.ref a_all_m4, .int size_m4])), (a_all_m4, .inl (cI, n_a_all_m4, .inl b_a_all_m4)), ((am 22), .inr (8, [.ref a_all_m22, .int size_m22])), (q219, .inl (cI, r217, .inl r218)), (a_all_m21, .inl (cI, n_a_all_m21, .inl b_a_all_m21)), (a_all_m22, .inl (cI, n_a_all_m22, .inl b_a_all_m22))]) hr (zb_n zb0) d_Mo_readStatement_517 [10, 12, 13, 11, 14, 0, 2, 3, 4, 5, 6, 7, 8, 15, 1, 9] rfl (by decide) ⟨q219, a_all_m21, a_all_m22, rfl, zb0, rfl⟩
                        · replace h := it_f c226 h
                          refine j_aload_n d_Mo_readStatement_503 rfl 1 rfl ?_
                          refine j_bipush (v := 55) d_Mo_readStatement_504 (by decide) ?_
                          replace h := bd_s h
                          obtain ⟨⟨r227, r228, r229⟩, k231, h⟩ := h
                          refine j_callV (n := 1) (As := [.int 55]) (rest := []) (wr := [((am 21), .inr (8, [.ref a_all_m21, .int size_m21])), (a_all_m21, .inl (cI, n_a_all_m21, .inl b_a_all_m21)), ((am 7), .inr (8, [.ref a_all_m7, .int size_m7])), (a_all_m7, .inl (cI, n_a_all_m7, .inl b_a_all_m7)), ((am 6), .inr (8, [.ref a_all_m6, .int size_m6])), (a_all_m6, .inl (cI, n_a_all_m6, .inl b_a_all_m6)), ((am 4), .inr (8, [.ref a_all_m4, .int size_m4])), (a_all_m4, .inl (cI, n_a_all_m4, .inl b_a_all_m4)), ((am 22), .inr (8, [.ref a_all_m22, .int size_m22])), (a_all_m22, .inl (cI, n_a_all_m22, .inl b_a_all_m22)), ((am 20), .inr (8, [.ref q219, .int r216])), ((am 2), .inl (cI, n_m2, .inl b_m2)), (q219, .inl (cI, r217, .inl r218))]) (c_Mo_take l D cI cB cJ cS h0 am a_all_m5 55 known_h0 thrown_h0 wrong_h0 lastEnd_h0 r213 r214 r215 least_h0 found_h0 size_m5 n_a_all_m5 b_a_all_m5  r227 r228 r229 k231) k_Mo_285 (by decide) ⟨Nat.le_of_ble_eq_true rfl, Nat.le_of_ble_eq_true rfl⟩ rfl 0 rfl [10, 12, 13] [0, 1, 2, 3, 4, 5, 6, 7, 8, 9, 11, 14, 15] rfl (by decide +kernel) rfl (by decide +kernel) (by decide +kernel) rfl rfl (Nat.le_of_ble_eq_true rfl) d_Mo_readStatement_506 ⟨show 0 + C221 + 0 ≤ mc by omega, show 0 + S222 + 0 ≤ ms by omega⟩ (fun v w hq => ?_)
                          obtain ⟨rfl, z230, rfl⟩ := hq
                          refine j_norm (pc' := 509) (st' := [.int r227]) (ws' := [((am 21), .inr (8, [.ref a_all_m21, .int size_m21])), (a_all_m21, .inl (cI, n_a_all_m21, .inl b_a_all_m21)), ((am 7), .inr (8, [.ref a_all_m7, .int size_m7])), (a_all_m7, .inl (cI, n_a_all_m7, .inl b_a_all_m7)), ((am 6), .inr (8, [.ref a_all_m6, .int size_m6])), (a_all_m6, .inl (cI, n_a_all_m6, .inl b_a_all_m6)), ((am 4), .inr (8, [.ref a_all_m4, .int size_m4])), (a_all_m4, .inl (cI, n_a_all_m4, .inl b_a_all_m4)), ((am 22), .inr (8, [.ref a_all_m22, .int size_m22])), (a_all_m22, .inl (cI, n_a_all_m22, .inl b_a_all_m22)), ((am 20), .inr (8, [.ref q219, .int r216])), ((am 2), .inl (cI, n_m2, .inl b_m2)), (q219, .inl (cI, r217, .inl r218)), (h0, .inr (9, moF am known_h0 thrown_h0 wrong_h0 lastEnd_h0 r228 r229 r215 least_h0 found_h0)), ((am 5), .inr (8, [.ref a_all_m5, .int size_m5])), (a_all_m5, .inl (cI, n_a_all_m5, .inl b_a_all_m5))]) (cl' := 0 + C221) (sl' := 0 + S222) rfl rfl rfl rfl rfl rfl ?_
                          refine j_if_eq (tgt := 516) d_Mo_readStatement_509 (by decide) (fun c232 => ?_) (fun c232 => ?_)
                          · replace h := it_t c232 h
                            refine j_iconst (v := 0) d_Mo_readStatement_516 (by decide) ?_
                            replace h := lf_s h
                            obtain ⟨h, e1, e2⟩ := h
                            replace h := Prod.mk.inj h
                            obtain ⟨h9, h⟩ := h
                            subst h9
                            replace h := Prod.mk.inj h
                            obtain ⟨h9, h⟩ := h
                            subst h9
                            replace h := Prod.mk.inj h
                            obtain ⟨h9, h⟩ := h
                            subst h9
                            replace h := Prod.mk.inj h
                            obtain ⟨h9, h⟩ := h
                            subst h9
                            replace h := Prod.mk.inj h
                            obtain ⟨h9, h⟩ := h
                            subst h9
                            replace h := Prod.mk.inj h
                            obtain ⟨h9, h⟩ := h
                            subst h9
                            replace h := Prod.mk.inj h
                            obtain ⟨h9, h⟩ := h
                            subst h9
                            replace h := Prod.mk.inj h
                            obtain ⟨h9, h⟩ := h
                            subst h9
                            replace h := Prod.mk.inj h
                            obtain ⟨h9, h⟩ := h
                            subst h9
                            replace h := Prod.mk.inj h
                            obtain ⟨h9, h⟩ := h
                            subst h9
                            replace h := Prod.mk.inj h
                            obtain ⟨h9, h⟩ := h
                            subst h9
                            replace h := Prod.mk.inj h
                            obtain ⟨h9, h⟩ := h
                            subst h9
                            replace h := Prod.mk.inj h
                            obtain ⟨h9, h⟩ := h
                            subst h9
                            subst h
                            refine j_widen (cl' := mc) (sl' := ms) (by omega) (by omega) ?_
                            exact j_zret (w := [(h0, .inr (9, moF am known_h0 thrown_h0 wrong_h0 lastEnd_h0 r228 r229 r215 least_h0 found_h0)), ((am 5), .inr (8, [.ref a_all_m5, .int size_m5])), (a_all_m5, .inl (cI, n_a_all_m5, .inl b_a_all_m5)), ((am 20), .inr (8, [.ref q219, .int r216])), ((am 2), .inl (cI, n_m2, .inl b_m2)), ((am 21), .inr (8, [.ref a_all_m21, .int size_m21])), ((am 7), .inr (8, [.ref a_all_m7, .int size_m7])), (a_all_m7, .inl (cI, n_a_all_m7, .inl b_a_all_m7)), ((am 6), .inr (8, [.ref a_all_m6, .int size_m6])), (a_all_m6, .inl (cI, n_a_all_m6, .inl b_a_all_m6)), ((am 4), .inr (8, [.ref a_all_m4, .int size_m4])), (a_all_m4, .inl (cI, n_a_all_m4, .inl b_a_all_m4)), ((am 22), .inr (8, [.ref a_all_m22, .int size_m22])), (q219, .inl (cI, r217, .inl r218)), (a_all_m21, .inl (cI, n_a_all_m21, .inl b_a_all_m21)), (a_all_m22, .inl (cI, n_a_all_m22, .inl b_a_all_m22))]) hr (zb_n zb0) d_Mo_readStatement_517 [13, 14, 15, 10, 11, 0, 2, 3, 4, 5, 6, 7, 8, 12, 1, 9] rfl (by decide) ⟨q219, a_all_m21, a_all_m22, rfl, zb0, rfl⟩
                          · replace h := it_f c232 h
                            refine j_iconst (v := 1) d_Mo_readStatement_512 (by decide) ?_
                            refine j_goto (tgt := 517) d_Mo_readStatement_513 (by decide) ?_
                            replace h := lf_s h
                            obtain ⟨h, e1, e2⟩ := h
                            replace h := Prod.mk.inj h
                            obtain ⟨h9, h⟩ := h
                            subst h9
                            replace h := Prod.mk.inj h
                            obtain ⟨h9, h⟩ := h
                            subst h9
                            replace h := Prod.mk.inj h
                            obtain ⟨h9, h⟩ := h
                            subst h9
                            replace h := Prod.mk.inj h
                            obtain ⟨h9, h⟩ := h
                            subst h9
                            replace h := Prod.mk.inj h
                            obtain ⟨h9, h⟩ := h
                            subst h9
                            replace h := Prod.mk.inj h
                            obtain ⟨h9, h⟩ := h
                            subst h9
                            replace h := Prod.mk.inj h
                            obtain ⟨h9, h⟩ := h
                            subst h9
                            replace h := Prod.mk.inj h
                            obtain ⟨h9, h⟩ := h
                            subst h9
                            replace h := Prod.mk.inj h
                            obtain ⟨h9, h⟩ := h
                            subst h9
                            replace h := Prod.mk.inj h
                            obtain ⟨h9, h⟩ := h
                            subst h9
                            replace h := Prod.mk.inj h
                            obtain ⟨h9, h⟩ := h
                            subst h9
                            replace h := Prod.mk.inj h
                            obtain ⟨h9, h⟩ := h
                            subst h9
                            replace h := Prod.mk.inj h
                            obtain ⟨h9, h⟩ := h
                            subst h9
                            subst h
                            refine j_widen (cl' := mc) (sl' := ms) (by omega) (by omega) ?_
                            exact j_zret (w := [(h0, .inr (9, moF am known_h0 thrown_h0 wrong_h0 lastEnd_h0 r228 r229 r215 least_h0 found_h0)), ((am 5), .inr (8, [.ref a_all_m5, .int size_m5])), (a_all_m5, .inl (cI, n_a_all_m5, .inl b_a_all_m5)), ((am 20), .inr (8, [.ref q219, .int r216])), ((am 2), .inl (cI, n_m2, .inl b_m2)), ((am 21), .inr (8, [.ref a_all_m21, .int size_m21])), ((am 7), .inr (8, [.ref a_all_m7, .int size_m7])), (a_all_m7, .inl (cI, n_a_all_m7, .inl b_a_all_m7)), ((am 6), .inr (8, [.ref a_all_m6, .int size_m6])), (a_all_m6, .inl (cI, n_a_all_m6, .inl b_a_all_m6)), ((am 4), .inr (8, [.ref a_all_m4, .int size_m4])), (a_all_m4, .inl (cI, n_a_all_m4, .inl b_a_all_m4)), ((am 22), .inr (8, [.ref a_all_m22, .int size_m22])), (q219, .inl (cI, r217, .inl r218)), (a_all_m21, .inl (cI, n_a_all_m21, .inl b_a_all_m21)), (a_all_m22, .inl (cI, n_a_all_m22, .inl b_a_all_m22))]) hr (zb_n zb1) d_Mo_readStatement_517 [13, 14, 15, 10, 11, 0, 2, 3, 4, 5, 6, 7, 8, 12, 1, 9] rfl (by decide) ⟨q219, a_all_m21, a_all_m22, rfl, zb1, rfl⟩
                      · replace h := it_f c211 h
                        by_cases c233 : (b_a_all_m5 (Int32.toNatClampNeg at_h0)) = 21
                        · replace h := it_t c233 h
                          refine j_tabIn (tgt := 486) (off := 480) d_Mo_readStatement_6 21 c233 (by decide) (by decide) (by decide) (by decide) ?_
                          refine j_aload_n d_Mo_readStatement_486 rfl 1 rfl ?_
                          refine j_dup rfl d_Mo_readStatement_487 ?_
                          refine j_get ig_Mo rfl 13 rfl 17 (by decide) rfl m_1130 rfl d_Mo_readStatement_488 ?_
                          refine j_iconst (v := 1) d_Mo_readStatement_491 (by decide) ?_
                          refine j_iadd d_Mo_readStatement_492 ?_
                          refine j_put (ws' := [((am 20), .inr (8, [.ref a_all_m20, .int size_m20])), (a_all_m20, .inl (cI, n_a_all_m20, .inl b_a_all_m20)), ((am 2), .inl (cI, n_m2, .inl b_m2)), ((am 21), .inr (8, [.ref a_all_m21, .int size_m21])), (a_all_m21, .inl (cI, n_a_all_m21, .inl b_a_all_m21)), ((am 7), .inr (8, [.ref a_all_m7, .int size_m7])), (a_all_m7, .inl (cI, n_a_all_m7, .inl b_a_all_m7)), ((am 6), .inr (8, [.ref a_all_m6, .int size_m6])), (a_all_m6, .inl (cI, n_a_all_m6, .inl b_a_all_m6)), ((am 4), .inr (8, [.ref a_all_m4, .int size_m4])), (a_all_m4, .inl (cI, n_a_all_m4, .inl b_a_all_m4)), ((am 22), .inr (8, [.ref a_all_m22, .int size_m22])), (a_all_m22, .inl (cI, n_a_all_m22, .inl b_a_all_m22)), (h0, .inr (9, moF am known_h0 thrown_h0 wrong_h0 lastEnd_h0 (at_h0 + 1) bad_h0 levels_h0 least_h0 found_h0)), ((am 5), .inr (8, [.ref a_all_m5, .int size_m5])), (a_all_m5, .inl (cI, n_a_all_m5, .inl b_a_all_m5))]) ig_Mo tk_Mo nm_Mo rfl 13 rfl 17 (by decide) rfl m_1130 rfl (tk_Mo 17 (by decide)) rfl rfl (Nat.le_of_ble_eq_true rfl) d_Mo_readStatement_493 rfl ?_
                          refine j_aload_n d_Mo_readStatement_496 rfl 1 rfl ?_
                          replace h := bw_s h
                          obtain ⟨⟨r234, r235, r236, r237, r238, r239, r240⟩, C243, S244, C245, S246, k247, h, e1, e2⟩ := h
                          replace hC : 0 + C243 + C245 ≤ mc := by omega
                          replace hS : 0 + S244 + S246 ≤ ms := by omega
                          clear e1 e2
                          refine j_callV (n := 0) (As := []) (rest := []) (wr := [((am 21), .inr (8, [.ref a_all_m21, .int size_m21])), (a_all_m21, .inl (cI, n_a_all_m21, .inl b_a_all_m21)), ((am 7), .inr (8, [.ref a_all_m7, .int size_m7])), (a_all_m7, .inl (cI, n_a_all_m7, .inl b_a_all_m7)), ((am 6), .inr (8, [.ref a_all_m6, .int size_m6])), (a_all_m6, .inl (cI, n_a_all_m6, .inl b_a_all_m6)), ((am 4), .inr (8, [.ref a_all_m4, .int size_m4])), (a_all_m4, .inl (cI, n_a_all_m4, .inl b_a_all_m4)), ((am 22), .inr (8, [.ref a_all_m22, .int size_m22])), (a_all_m22, .inl (cI, n_a_all_m22, .inl b_a_all_m22))]) (c_Mo_readSeveral l D cI cB cJ cS h0 am a_all_m20 a_all_m5 known_h0 thrown_h0 wrong_h0 lastEnd_h0 (at_h0 + 1) bad_h0 levels_h0 least_h0 found_h0 size_m20 size_m5 n_a_all_m5 b_a_all_m5 n_a_all_m20 b_a_all_m20 n_m2 b_m2  r234 r235 r236 r237 r238 r239 r240 C243 S244 k247) k_Mo_344 (by decide) ⟨Nat.le_of_ble_eq_true rfl, Nat.le_of_ble_eq_true rfl⟩ rfl 0 rfl [13, 0, 14, 15, 1, 2] [3, 4, 5, 6, 7, 8, 9, 10, 11, 12] rfl (by decide +kernel) rfl (by decide +kernel) (by decide +kernel) rfl rfl (Nat.le_of_ble_eq_true rfl) d_Mo_readStatement_497 ⟨show 0 + C243 ≤ mc by omega, show 0 + S244 ≤ ms by omega⟩ (fun v w hq => ?_)
                          obtain ⟨q241, rfl, z242, rfl⟩ := hq
                          refine j_norm (pc' := 500) (st' := [.int r234]) (ws' := [((am 21), .inr (8, [.ref a_all_m21, .int size_m21])), (a_all_m21, .inl (cI, n_a_all_m21, .inl b_a_all_m21)), ((am 7), .inr (8, [.ref a_all_m7, .int size_m7])), (a_all_m7, .inl (cI, n_a_all_m7, .inl b_a_all_m7)), ((am 6), .inr (8, [.ref a_all_m6, .int size_m6])), (a_all_m6, .inl (cI, n_a_all_m6, .inl b_a_all_m6)), ((am 4), .inr (8, [.ref a_all_m4, .int size_m4])), (a_all_m4, .inl (cI, n_a_all_m4, .inl b_a_all_m4)), ((am 22), .inr (8, [.ref a_all_m22, .int size_m22])), (a_all_m22, .inl (cI, n_a_all_m22, .inl b_a_all_m22)), (h0, .inr (9, moF am known_h0 thrown_h0 wrong_h0 lastEnd_h0 r235 r236 r237 least_h0 found_h0)), ((am 20), .inr (8, [.ref q241, .int r238])), ((am 5), .inr (8, [.ref a_all_m5, .int size_m5])), (a_all_m5, .inl (cI, n_a_all_m5, .inl b_a_all_m5)), ((am 2), .inl (cI, n_m2, .inl b_m2)), (q241, .inl (cI, r239, .inl r240))]) (cl' := 0 + C243) (sl' := 0 + S244) rfl rfl rfl rfl rfl rfl ?_
                          refine j_if_eq (tgt := 516) d_Mo_readStatement_500 (by decide) (fun c248 => ?_) (fun c248 => ?_)
                          · replace h := it_t c248 h
                            refine j_iconst (v := 0) d_Mo_readStatement_516 (by decide) ?_
                            replace h := lf_s h
                            obtain ⟨h, e1, e2⟩ := h
                            replace h := Prod.mk.inj h
                            obtain ⟨h9, h⟩ := h
                            subst h9
                            replace h := Prod.mk.inj h
                            obtain ⟨h9, h⟩ := h
                            subst h9
                            replace h := Prod.mk.inj h
                            obtain ⟨h9, h⟩ := h
                            subst h9
                            replace h := Prod.mk.inj h
                            obtain ⟨h9, h⟩ := h
                            subst h9
                            replace h := Prod.mk.inj h
                            obtain ⟨h9, h⟩ := h
                            subst h9
                            replace h := Prod.mk.inj h
                            obtain ⟨h9, h⟩ := h
                            subst h9
                            replace h := Prod.mk.inj h
                            obtain ⟨h9, h⟩ := h
                            subst h9
                            replace h := Prod.mk.inj h
                            obtain ⟨h9, h⟩ := h
                            subst h9
                            replace h := Prod.mk.inj h
                            obtain ⟨h9, h⟩ := h
                            subst h9
                            replace h := Prod.mk.inj h
                            obtain ⟨h9, h⟩ := h
                            subst h9
                            replace h := Prod.mk.inj h
                            obtain ⟨h9, h⟩ := h
                            subst h9
                            replace h := Prod.mk.inj h
                            obtain ⟨h9, h⟩ := h
                            subst h9
                            replace h := Prod.mk.inj h
                            obtain ⟨h9, h⟩ := h
                            subst h9
                            subst h
                            refine j_widen (cl' := mc) (sl' := ms) (by omega) (by omega) ?_
                            exact j_zret (w := [(h0, .inr (9, moF am known_h0 thrown_h0 wrong_h0 lastEnd_h0 r235 r236 r237 least_h0 found_h0)), ((am 5), .inr (8, [.ref a_all_m5, .int size_m5])), (a_all_m5, .inl (cI, n_a_all_m5, .inl b_a_all_m5)), ((am 20), .inr (8, [.ref q241, .int r238])), ((am 2), .inl (cI, n_m2, .inl b_m2)), ((am 21), .inr (8, [.ref a_all_m21, .int size_m21])), ((am 7), .inr (8, [.ref a_all_m7, .int size_m7])), (a_all_m7, .inl (cI, n_a_all_m7, .inl b_a_all_m7)), ((am 6), .inr (8, [.ref a_all_m6, .int size_m6])), (a_all_m6, .inl (cI, n_a_all_m6, .inl b_a_all_m6)), ((am 4), .inr (8, [.ref a_all_m4, .int size_m4])), (a_all_m4, .inl (cI, n_a_all_m4, .inl b_a_all_m4)), ((am 22), .inr (8, [.ref a_all_m22, .int size_m22])), (q241, .inl (cI, r239, .inl r240)), (a_all_m21, .inl (cI, n_a_all_m21, .inl b_a_all_m21)), (a_all_m22, .inl (cI, n_a_all_m22, .inl b_a_all_m22))]) hr (zb_n zb0) d_Mo_readStatement_517 [10, 12, 13, 11, 14, 0, 2, 3, 4, 5, 6, 7, 8, 15, 1, 9] rfl (by decide) ⟨q241, a_all_m21, a_all_m22, rfl, zb0, rfl⟩
                          · replace h := it_f c248 h
                            refine j_aload_n d_Mo_readStatement_503 rfl 1 rfl ?_
                            refine j_bipush (v := 55) d_Mo_readStatement_504 (by decide) ?_
                            replace h := bd_s h
                            obtain ⟨⟨r249, r250, r251⟩, k253, h⟩ := h
                            refine j_callV (n := 1) (As := [.int 55]) (rest := []) (wr := [((am 21), .inr (8, [.ref a_all_m21, .int size_m21])), (a_all_m21, .inl (cI, n_a_all_m21, .inl b_a_all_m21)), ((am 7), .inr (8, [.ref a_all_m7, .int size_m7])), (a_all_m7, .inl (cI, n_a_all_m7, .inl b_a_all_m7)), ((am 6), .inr (8, [.ref a_all_m6, .int size_m6])), (a_all_m6, .inl (cI, n_a_all_m6, .inl b_a_all_m6)), ((am 4), .inr (8, [.ref a_all_m4, .int size_m4])), (a_all_m4, .inl (cI, n_a_all_m4, .inl b_a_all_m4)), ((am 22), .inr (8, [.ref a_all_m22, .int size_m22])), (a_all_m22, .inl (cI, n_a_all_m22, .inl b_a_all_m22)), ((am 20), .inr (8, [.ref q241, .int r238])), ((am 2), .inl (cI, n_m2, .inl b_m2)), (q241, .inl (cI, r239, .inl r240))]) (c_Mo_take l D cI cB cJ cS h0 am a_all_m5 55 known_h0 thrown_h0 wrong_h0 lastEnd_h0 r235 r236 r237 least_h0 found_h0 size_m5 n_a_all_m5 b_a_all_m5  r249 r250 r251 k253) k_Mo_285 (by decide) ⟨Nat.le_of_ble_eq_true rfl, Nat.le_of_ble_eq_true rfl⟩ rfl 0 rfl [10, 12, 13] [0, 1, 2, 3, 4, 5, 6, 7, 8, 9, 11, 14, 15] rfl (by decide +kernel) rfl (by decide +kernel) (by decide +kernel) rfl rfl (Nat.le_of_ble_eq_true rfl) d_Mo_readStatement_506 ⟨show 0 + C243 + 0 ≤ mc by omega, show 0 + S244 + 0 ≤ ms by omega⟩ (fun v w hq => ?_)
                            obtain ⟨rfl, z252, rfl⟩ := hq
                            refine j_norm (pc' := 509) (st' := [.int r249]) (ws' := [((am 21), .inr (8, [.ref a_all_m21, .int size_m21])), (a_all_m21, .inl (cI, n_a_all_m21, .inl b_a_all_m21)), ((am 7), .inr (8, [.ref a_all_m7, .int size_m7])), (a_all_m7, .inl (cI, n_a_all_m7, .inl b_a_all_m7)), ((am 6), .inr (8, [.ref a_all_m6, .int size_m6])), (a_all_m6, .inl (cI, n_a_all_m6, .inl b_a_all_m6)), ((am 4), .inr (8, [.ref a_all_m4, .int size_m4])), (a_all_m4, .inl (cI, n_a_all_m4, .inl b_a_all_m4)), ((am 22), .inr (8, [.ref a_all_m22, .int size_m22])), (a_all_m22, .inl (cI, n_a_all_m22, .inl b_a_all_m22)), ((am 20), .inr (8, [.ref q241, .int r238])), ((am 2), .inl (cI, n_m2, .inl b_m2)), (q241, .inl (cI, r239, .inl r240)), (h0, .inr (9, moF am known_h0 thrown_h0 wrong_h0 lastEnd_h0 r250 r251 r237 least_h0 found_h0)), ((am 5), .inr (8, [.ref a_all_m5, .int size_m5])), (a_all_m5, .inl (cI, n_a_all_m5, .inl b_a_all_m5))]) (cl' := 0 + C243) (sl' := 0 + S244) rfl rfl rfl rfl rfl rfl ?_
                            refine j_if_eq (tgt := 516) d_Mo_readStatement_509 (by decide) (fun c254 => ?_) (fun c254 => ?_)
                            · replace h := it_t c254 h
                              refine j_iconst (v := 0) d_Mo_readStatement_516 (by decide) ?_
                              replace h := lf_s h
                              obtain ⟨h, e1, e2⟩ := h
                              replace h := Prod.mk.inj h
                              obtain ⟨h9, h⟩ := h
                              subst h9
                              replace h := Prod.mk.inj h
                              obtain ⟨h9, h⟩ := h
                              subst h9
                              replace h := Prod.mk.inj h
                              obtain ⟨h9, h⟩ := h
                              subst h9
                              replace h := Prod.mk.inj h
                              obtain ⟨h9, h⟩ := h
                              subst h9
                              replace h := Prod.mk.inj h
                              obtain ⟨h9, h⟩ := h
                              subst h9
                              replace h := Prod.mk.inj h
                              obtain ⟨h9, h⟩ := h
                              subst h9
                              replace h := Prod.mk.inj h
                              obtain ⟨h9, h⟩ := h
                              subst h9
                              replace h := Prod.mk.inj h
                              obtain ⟨h9, h⟩ := h
                              subst h9
                              replace h := Prod.mk.inj h
                              obtain ⟨h9, h⟩ := h
                              subst h9
                              replace h := Prod.mk.inj h
                              obtain ⟨h9, h⟩ := h
                              subst h9
                              replace h := Prod.mk.inj h
                              obtain ⟨h9, h⟩ := h
                              subst h9
                              replace h := Prod.mk.inj h
                              obtain ⟨h9, h⟩ := h
                              subst h9
                              replace h := Prod.mk.inj h
                              obtain ⟨h9, h⟩ := h
                              subst h9
                              subst h
                              refine j_widen (cl' := mc) (sl' := ms) (by omega) (by omega) ?_
                              exact j_zret (w := [(h0, .inr (9, moF am known_h0 thrown_h0 wrong_h0 lastEnd_h0 r250 r251 r237 least_h0 found_h0)), ((am 5), .inr (8, [.ref a_all_m5, .int size_m5])), (a_all_m5, .inl (cI, n_a_all_m5, .inl b_a_all_m5)), ((am 20), .inr (8, [.ref q241, .int r238])), ((am 2), .inl (cI, n_m2, .inl b_m2)), ((am 21), .inr (8, [.ref a_all_m21, .int size_m21])), ((am 7), .inr (8, [.ref a_all_m7, .int size_m7])), (a_all_m7, .inl (cI, n_a_all_m7, .inl b_a_all_m7)), ((am 6), .inr (8, [.ref a_all_m6, .int size_m6])), (a_all_m6, .inl (cI, n_a_all_m6, .inl b_a_all_m6)), ((am 4), .inr (8, [.ref a_all_m4, .int size_m4])), (a_all_m4, .inl (cI, n_a_all_m4, .inl b_a_all_m4)), ((am 22), .inr (8, [.ref a_all_m22, .int size_m22])), (q241, .inl (cI, r239, .inl r240)), (a_all_m21, .inl (cI, n_a_all_m21, .inl b_a_all_m21)), (a_all_m22, .inl (cI, n_a_all_m22, .inl b_a_all_m22))]) hr (zb_n zb0) d_Mo_readStatement_517 [13, 14, 15, 10, 11, 0, 2, 3, 4, 5, 6, 7, 8, 12, 1, 9] rfl (by decide) ⟨q241, a_all_m21, a_all_m22, rfl, zb0, rfl⟩
                            · replace h := it_f c254 h
                              refine j_iconst (v := 1) d_Mo_readStatement_512 (by decide) ?_
                              refine j_goto (tgt := 517) d_Mo_readStatement_513 (by decide) ?_
                              replace h := lf_s h
                              obtain ⟨h, e1, e2⟩ := h
                              replace h := Prod.mk.inj h
                              obtain ⟨h9, h⟩ := h
                              subst h9
                              replace h := Prod.mk.inj h
                              obtain ⟨h9, h⟩ := h
                              subst h9
                              replace h := Prod.mk.inj h
                              obtain ⟨h9, h⟩ := h
                              subst h9
                              replace h := Prod.mk.inj h
                              obtain ⟨h9, h⟩ := h
                              subst h9
                              replace h := Prod.mk.inj h
                              obtain ⟨h9, h⟩ := h
                              subst h9
                              replace h := Prod.mk.inj h
                              obtain ⟨h9, h⟩ := h
                              subst h9
                              replace h := Prod.mk.inj h
                              obtain ⟨h9, h⟩ := h
                              subst h9
                              replace h := Prod.mk.inj h
                              obtain ⟨h9, h⟩ := h
                              subst h9
                              replace h := Prod.mk.inj h
                              obtain ⟨h9, h⟩ := h
                              subst h9
                              replace h := Prod.mk.inj h
                              obtain ⟨h9, h⟩ := h
                              subst h9
                              replace h := Prod.mk.inj h
                              obtain ⟨h9, h⟩ := h
                              subst h9
                              replace h := Prod.mk.inj h
                              obtain ⟨h9, h⟩ := h
                              subst h9
                              replace h := Prod.mk.inj h
                              obtain ⟨h9, h⟩ := h
                              subst h9
                              subst h
                              refine j_widen (cl' := mc) (sl' := ms) (by omega) (by omega) ?_
                              exact j_zret (w := [(h0, .inr (9, moF am known_h0 thrown_h0 wrong_h0 lastEnd_h0 r250 r251 r237 least_h0 found_h0)), ((am 5), .inr (8, [.ref a_all_m5, .int size_m5])), (a_all_m5, .inl (cI, n_a_all_m5, .inl b_a_all_m5)), ((am 20), .inr (8, [.ref q241, .int r238])), ((am 2), .inl (cI, n_m2, .inl b_m2)), ((am 21), .inr (8, [.ref a_all_m21, .int size_m21])), ((am 7), .inr (8, [.ref a_all_m7, .int size_m7])), (a_all_m7, .inl (cI, n_a_all_m7, .inl b_a_all_m7)), ((am 6), .inr (8, [.ref a_all_m6, .int size_m6])), (a_all_m6, .inl (cI, n_a_all_m6, .inl b_a_all_m6)), ((am 4), .inr (8, [.ref a_all_m4, .int size_m4])), (a_all_m4, .inl (cI, n_a_all_m4, .inl b_a_all_m4)), ((am 22), .inr (8, [.ref a_all_m22, .int size_m22])), (q241, .inl (cI, r239, .inl r240)), (a_all_m21, .inl (cI, n_a_all_m21, .inl b_a_all_m21)), (a_all_m22, .inl (cI, n_a_all_m22, .inl b_a_all_m22))]) hr (zb_n zb1) d_Mo_readStatement_517 [13, 14, 15, 10, 11, 0, 2, 3, 4, 5, 6, 7, 8, 12, 1, 9] rfl (by decide) ⟨q241, a_all_m21, a_all_m22, rfl, zb1, rfl⟩
                        · replace h := it_f c233 h
                          by_cases c255 : (b_a_all_m5 (Int32.toNatClampNeg at_h0)) = 22
                          · replace h := it_t c255 h
                            refine j_tabIn (tgt := 286) (off := 280) d_Mo_readStatement_6 22 c255 (by decide) (by decide) (by decide) (by decide) ?_
                            refine j_aload_n d_Mo_readStatement_286 rfl 1 rfl ?_
                            refine j_iload_n d_Mo_readStatement_287 rfl 0 rfl ?_
                            replace h := bd_s h
                            obtain ⟨⟨r256, r257, r258, r259⟩, k261, h⟩ := h
                            refine j_callV (n := 1) (As := [.int (b_a_all_m5 (Int32.toNatClampNeg at_h0))]) (rest := []) (wr := [((am 20), .inr (8, [.ref a_all_m20, .int size_m20])), (a_all_m20, .inl (cI, n_a_all_m20, .inl b_a_all_m20)), ((am 2), .inl (cI, n_m2, .inl b_m2)), ((am 21), .inr (8, [.ref a_all_m21, .int size_m21])), (a_all_m21, .inl (cI, n_a_all_m21, .inl b_a_all_m21)), ((am 7), .inr (8, [.ref a_all_m7, .int size_m7])), (a_all_m7, .inl (cI, n_a_all_m7, .inl b_a_all_m7)), ((am 6), .inr (8, [.ref a_all_m6, .int size_m6])), (a_all_m6, .inl (cI, n_a_all_m6, .inl b_a_all_m6)), ((am 4), .inr (8, [.ref a_all_m4, .int size_m4])), (a_all_m4, .inl (cI, n_a_all_m4, .inl b_a_all_m4)), ((am 22), .inr (8, [.ref a_all_m22, .int size_m22])), (a_all_m22, .inl (cI, n_a_all_m22, .inl b_a_all_m22))]) (c_Mo_enter l D cI cB cJ cS h0 am a_all_m5 (b_a_all_m5 (Int32.toNatClampNeg at_h0)) known_h0 thrown_h0 wrong_h0 lastEnd_h0 at_h0 bad_h0 levels_h0 least_h0 found_h0 size_m5 n_a_all_m5 b_a_all_m5  r256 r257 r258 r259 k261) k_Mo_297 (by decide) ⟨Nat.le_of_ble_eq_true rfl, Nat.le_of_ble_eq_true rfl⟩ rfl 0 rfl [13, 14, 15] [0, 1, 2, 3, 4, 5, 6, 7, 8, 9, 10, 11, 12] rfl (by decide +kernel) rfl (by decide +kernel) (by decide +kernel) rfl rfl (Nat.le_of_ble_eq_true rfl) d_Mo_readStatement_288 ⟨show 0 + 0 ≤ mc by omega, show 0 + 0 ≤ ms by omega⟩ (fun v w hq => ?_)
                            obtain ⟨rfl, z260, rfl⟩ := hq
                            refine j_norm (pc' := 291) (st' := [.int r256]) (ws' := [((am 20), .inr (8, [.ref a_all_m20, .int size_m20])), (a_all_m20, .inl (cI, n_a_all_m20, .inl b_a_all_m20)), ((am 2), .inl (cI, n_m2, .inl b_m2)), ((am 21), .inr (8, [.ref a_all_m21, .int size_m21])), (a_all_m21, .inl (cI, n_a_all_m21, .inl b_a_all_m21)), ((am 7), .inr (8, [.ref a_all_m7, .int size_m7])), (a_all_m7, .inl (cI, n_a_all_m7, .inl b_a_all_m7)), ((am 6), .inr (8, [.ref a_all_m6, .int size_m6])), (a_all_m6, .inl (cI, n_a_all_m6, .inl b_a_all_m6)), ((am 4), .inr (8, [.ref a_all_m4, .int size_m4])), (a_all_m4, .inl (cI, n_a_all_m4, .inl b_a_all_m4)), ((am 22), .inr (8, [.ref a_all_m22, .int size_m22])), (a_all_m22, .inl (cI, n_a_all_m22, .inl b_a_all_m22)), (h0, .inr (9, moF am known_h0 thrown_h0 wrong_h0 lastEnd_h0 r257 r258 r259 least_h0 found_h0)), ((am 5), .inr (8, [.ref a_all_m5, .int size_m5])), (a_all_m5, .inl (cI, n_a_all_m5, .inl b_a_all_m5))]) (cl' := 0) (sl' := 0) rfl rfl rfl rfl rfl rfl ?_
                            refine j_if_ne (tgt := 296) d_Mo_readStatement_291 (by decide) (fun c262 => ?_) (fun c262 => ?_)
                            · replace h := it_f c262 h
                              refine j_aload_n d_Mo_readStatement_296 rfl 1 rfl ?_
                              refine j_get ig_Mo rfl 13 rfl 21 (by decide) rfl m_1134 rfl d_Mo_readStatement_297 ?_
                              refine j_iload_n d_Mo_readStatement_300 rfl 0 rfl ?_
                              replace h := bw_s h
                              obtain ⟨⟨r263, r264⟩, C266, S267, C268, S269, k270, h, e1, e2⟩ := h
                              replace hC : 0 + C266 + C268 ≤ mc := by omega
                              replace hS : 0 + S267 + S269 ≤ ms := by omega
                              clear e1 e2
                              refine j_callV (n := 1) (As := [.int (b_a_all_m5 (Int32.toNatClampNeg at_h0))]) (rest := []) (wr := [((am 20), .inr (8, [.ref a_all_m20, .int size_m20])), (a_all_m20, .inl (cI, n_a_all_m20, .inl b_a_all_m20)), ((am 2), .inl (cI, n_m2, .inl b_m2)), ((am 7), .inr (8, [.ref a_all_m7, .int size_m7])), (a_all_m7, .inl (cI, n_a_all_m7, .inl b_a_all_m7)), ((am 6), .inr (8, [.ref a_all_m6, .int size_m6])), (a_all_m6, .inl (cI, n_a_all_m6, .inl b_a_all_m6)), ((am 4), .inr (8, [.ref a_all_m4, .int size_m4])), (a_all_m4, .inl (cI, n_a_all_m4, .inl b_a_all_m4)), ((am 22), .inr (8, [.ref a_all_m22, .int size_m22])), (a_all_m22, .inl (cI, n_a_all_m22, .inl b_a_all_m22)), (h0, .inr (9, moF am known_h0 thrown_h0 wrong_h0 lastEnd_h0 r257 r258 r259 least_h0 found_h0)), ((am 5), .inr (8, [.ref a_all_m5, .int size_m5])), (a_all_m5, .inl (cI, n_a_all_m5, .inl b_a_all_m5))]) (c_Nm_add l D cI cB cJ cS (am 21) a_all_m21 (b_a_all_m5 (Int32.toNatClampNeg at_h0)) size_m21 n_a_all_m21 b_a_all_m21  r263 r264 C266 S267 k270) k_Mo_200 (by decide) ⟨Nat.le_of_ble_eq_true rfl, Nat.le_of_ble_eq_true rfl⟩ rfl 0 rfl [3, 4] [0, 1, 2, 5, 6, 7, 8, 9, 10, 11, 12, 13, 14, 15] rfl (by decide +kernel) rfl (by decide +kernel) (by decide +kernel) rfl rfl (Nat.le_of_ble_eq_true rfl) d_Mo_readStatement_301 ⟨show 0 + C266 ≤ mc by omega, show 0 + S267 ≤ ms by omega⟩ (fun v w hq => ?_)
                              obtain ⟨q265, rfl, rfl⟩ := hq
                              refine j_norm (pc' := 304) (st' := []) (ws' := [((am 20), .inr (8, [.ref a_all_m20, .int size_m20])), (a_all_m20, .inl (cI, n_a_all_m20, .inl b_a_all_m20)), ((am 2), .inl (cI, n_m2, .inl b_m2)), ((am 7), .inr (8, [.ref a_all_m7, .int size_m7])), (a_all_m7, .inl (cI, n_a_all_m7, .inl b_a_all_m7)), ((am 6), .inr (8, [.ref a_all_m6, .int size_m6])), (a_all_m6, .inl (cI, n_a_all_m6, .inl b_a_all_m6)), ((am 4), .inr (8, [.ref a_all_m4, .int size_m4])), (a_all_m4, .inl (cI, n_a_all_m4, .inl b_a_all_m4)), ((am 22), .inr (8, [.ref a_all_m22, .int size_m22])), (a_all_m22, .inl (cI, n_a_all_m22, .inl b_a_all_m22)), (h0, .inr (9, moF am known_h0 thrown_h0 wrong_h0 lastEnd_h0 r257 r258 r259 least_h0 found_h0)), ((am 5), .inr (8, [.ref a_all_m5, .int size_m5])), (a_all_m5, .inl (cI, n_a_all_m5, .inl b_a_all_m5)), ((am 21), .inr (8, [.ref q265, .int (size_m21 + 1)])), (q265, .inl (cI, r263, .inl r264))]) (cl' := 0 + C266) (sl' := 0 + S267) rfl rfl rfl rfl rfl rfl ?_
                              refine j_iconst (v := 1) d_Mo_readStatement_304 (by decide) ?_
                              replace h := lf_s h
                              obtain ⟨h, e1, e2⟩ := h
                              replace h := Prod.mk.inj h
                              obtain ⟨h9, h⟩ := h
                              subst h9
                              replace h := Prod.mk.inj h
                              obtain ⟨h9, h⟩ := h
                              subst h9
                              replace h := Prod.mk.inj h
                              obtain ⟨h9, h⟩ := h
                              subst h9
                              replace h := Prod.mk.inj h
                              obtain ⟨h9, h⟩ := h
                              subst h9
                              replace h := Prod.mk.inj h
                              obtain ⟨h9, h⟩ := h
                              subst h9
                              replace h := Prod.mk.inj h
                              obtain ⟨h9, h⟩ := h
                              subst h9
                              replace h := Prod.mk.inj h
                              obtain ⟨h9, h⟩ := h
                              subst h9
                              replace h := Prod.mk.inj h
                              obtain ⟨h9, h⟩ := h
                              subst h9
                              replace h := Prod.mk.inj h
                              obtain ⟨h9, h⟩ := h
                              subst h9
                              replace h := Prod.mk.inj h
                              obtain ⟨h9, h⟩ := h
                              subst h9
                              replace h := Prod.mk.inj h
                              obtain ⟨h9, h⟩ := h
                              subst h9
                              replace h := Prod.mk.inj h
                              obtain ⟨h9, h⟩ := h
                              subst h9
                              replace h := Prod.mk.inj h
                              obtain ⟨h9, h⟩ := h
                              subst h9
                              subst h
                              refine j_widen (cl' := mc) (sl' := ms) (by omega) (by omega) ?_
                              exact j_zret (w := [(h0, .inr (9, moF am known_h0 thrown_h0 wrong_h0 lastEnd_h0 r257 r258 r259 least_h0 found_h0)), ((am 5), .inr (8, [.ref a_all_m5, .int size_m5])), (a_all_m5, .inl (cI, n_a_all_m5, .inl b_a_all_m5)), ((am 20), .inr (8, [.ref a_all_m20, .int size_m20])), ((am 2), .inl (cI, n_m2, .inl b_m2)), ((am 21), .inr (8, [.ref q265, .int (size_m21 + 1)])), ((am 7), .inr (8, [.ref a_all_m7, .int size_m7])), (a_all_m7, .inl (cI, n_a_all_m7, .inl b_a_all_m7)), ((am 6), .inr (8, [.ref a_all_m6, .int size_m6])), (a_all_m6, .inl (cI, n_a_all_m6, .inl b_a_all_m6)), ((am 4), .inr (8, [.ref a_all_m4, .int size_m4])), (a_all_m4, .inl (cI, n_a_all_m4, .inl b_a_all_m4)), ((am 22), .inr (8, [.ref a_all_m22, .int size_m22])), (a_all_m20, .inl (cI, n_a_all_m20, .inl b_a_all_m20)), (q265, .inl (cI, r263, .inl r264)), (a_all_m22, .inl (cI, n_a_all_m22, .inl b_a_all_m22))]) hr (zb_n zb1) d_Mo_readStatement_305 [11, 12, 13, 0, 2, 14, 3, 4, 5, 6, 7, 8, 9, 1, 15, 10] rfl (by decide) ⟨a_all_m20, q265, a_all_m22, rfl, zb1, rfl⟩
                            · replace h := it_t c262 h
                              refine j_iconst (v := 0) d_Mo_readStatement_294 (by decide) ?_
                              replace h := lf_s h
                              obtain ⟨h, e1, e2⟩ := h
                              replace h := Prod.mk.inj h
                              obtain ⟨h9, h⟩ := h
                              subst h9
                              replace h := Prod.mk.inj h
                              obtain ⟨h9, h⟩ := h
                              subst h9
                              replace h := Prod.mk.inj h
                              obtain ⟨h9, h⟩ := h
                              subst h9
                              replace h := Prod.mk.inj h
                              obtain ⟨h9, h⟩ := h
                              subst h9
                              replace h := Prod.mk.inj h
                              obtain ⟨h9, h⟩ := h
                              subst h9
                              replace h := Prod.mk.inj h
                              obtain ⟨h9, h⟩ := h
                              subst h9
                              replace h := Prod.mk.inj h
                              obtain ⟨h9, h⟩ := h
                              subst h9
                              replace h := Prod.mk.inj h
                              obtain ⟨h9, h⟩ := h
                              subst h9
                              replace h := Prod.mk.inj h
                              obtain ⟨h9, h⟩ := h
                              subst h9
                              replace h := Prod.mk.inj h
                              obtain ⟨h9, h⟩ := h
                              subst h9
                              replace h := Prod.mk.inj h
                              obtain ⟨h9, h⟩ := h
                              subst h9
                              replace h := Prod.mk.inj h
                              obtain ⟨h9, h⟩ := h
                              subst h9
                              replace h := Prod.mk.inj h
                              obtain ⟨h9, h⟩ := h
                              subst h9
                              subst h
                              refine j_widen (cl' := mc) (sl' := ms) (by omega) (by omega) ?_
                              exact j_zret (w := [(h0, .inr (9, moF am known_h0 thrown_h0 wrong_h0 lastEnd_h0 r257 r258 r259 least_h0 found_h0)), ((am 5), .inr (8, [.ref a_all_m5, .int size_m5])), (a_all_m5, .inl (cI, n_a_all_m5, .inl b_a_all_m5)), ((am 20), .inr (8, [.ref a_all_m20, .int size_m20])), ((am 2), .inl (cI, n_m2, .inl b_m2)), ((am 21), .inr (8, [.ref a_all_m21, .int size_m21])), ((am 7), .inr (8, [.ref a_all_m7, .int size_m7])), (a_all_m7, .inl (cI, n_a_all_m7, .inl b_a_all_m7)), ((am 6), .inr (8, [.ref a_all_m6, .int size_m6])), (a_all_m6, .inl (cI, n_a_all_m6, .inl b_a_all_m6)), ((am 4), .inr (8, [.ref a_all_m4, .int size_m4])), (a_all_m4, .inl (cI, n_a_all_m4, .inl b_a_all_m4)), ((am 22), .inr (8, [.ref a_all_m22, .int size_m22])), (a_all_m20, .inl (cI, n_a_all_m20, .inl b_a_all_m20)), (a_all_m21, .inl (cI, n_a_all_m21, .inl b_a_all_m21)), (a_all_m22, .inl (cI, n_a_all_m22, .inl b_a_all_m22))]) hr (zb_n zb0) d_Mo_readStatement_295 [13, 14, 15, 0, 2, 3, 5, 6, 7, 8, 9, 10, 11, 1, 4, 12] rfl (by decide) ⟨a_all_m20, a_all_m21, a_all_m22, rfl, zb0, rfl⟩
                          · replace h := it_f c255 h
                            by_cases c271 : (b_a_all_m5 (Int32.toNatClampNeg at_h0)) = 23
                            · replace h := it_t c271 h
                              refine j_tabIn (tgt := 335) (off := 329) d_Mo_readStatement_6 23 c271 (by decide) (by decide) (by decide) (by decide) ?_
                              refine j_aload_n d_Mo_readStatement_335 rfl 1 rfl ?_
                              replace h := bd_s h
                              obtain ⟨r272, k273, h⟩ := h
                              refine j_callV (n := 0) (As := []) (rest := []) (wr := [((am 20), .inr (8, [.ref a_all_m20, .int size_m20])), (a_all_m20, .inl (cI, n_a_all_m20, .inl b_a_all_m20)), ((am 2), .inl (cI, n_m2, .inl b_m2)), ((am 7), .inr (8, [.ref a_all_m7, .int size_m7])), (a_all_m7, .inl (cI, n_a_all_m7, .inl b_a_all_m7)), ((am 6), .inr (8, [.ref a_all_m6, .int size_m6])), (a_all_m6, .inl (cI, n_a_all_m6, .inl b_a_all_m6)), ((am 4), .inr (8, [.ref a_all_m4, .int size_m4])), (a_all_m4, .inl (cI, n_a_all_m4, .inl b_a_all_m4)), ((am 22), .inr (8, [.ref a_all_m22, .int size_m22])), (a_all_m22, .inl (cI, n_a_all_m22, .inl b_a_all_m22)), ((am 5), .inr (8, [.ref a_all_m5, .int size_m5])), (a_all_m5, .inl (cI, n_a_all_m5, .inl b_a_all_m5))]) (c_Mo_block l D cI cB cJ cS h0 am a_all_m21 known_h0 thrown_h0 wrong_h0 lastEnd_h0 at_h0 bad_h0 levels_h0 least_h0 found_h0 size_m21 n_a_all_m21 b_a_all_m21  r272 k273) k_Mo_371 (by decide) ⟨Nat.le_of_ble_eq_true rfl, Nat.le_of_ble_eq_true rfl⟩ rfl 0 rfl [13, 3, 4] [0, 1, 2, 5, 6, 7, 8, 9, 10, 11, 12, 14, 15] rfl (by decide +kernel) rfl (by decide +kernel) (by decide +kernel) rfl rfl (Nat.le_of_ble_eq_true rfl) d_Mo_readStatement_336 ⟨show 0 + 0 ≤ mc by omega, show 0 + 0 ≤ ms by omega⟩ (fun v w hq => ?_)
                              obtain ⟨rfl, rfl⟩ := hq
                              refine j_norm (pc' := 339) (st' := [.int r272]) (ws' := [((am 20), .inr (8, [.ref a_all_m20, .int size_m20])), (a_all_m20, .inl (cI, n_a_all_m20, .inl b_a_all_m20)), ((am 2), .inl (cI, n_m2, .inl b_m2)), ((am 7), .inr (8, [.ref a_all_m7, .int size_m7])), (a_all_m7, .inl (cI, n_a_all_m7, .inl b_a_all_m7)), ((am 6), .inr (8, [.ref a_all_m6, .int size_m6])), (a_all_m6, .inl (cI, n_a_all_m6, .inl b_a_all_m6)), ((am 4), .inr (8, [.ref a_all_m4, .int size_m4])), (a_all_m4, .inl (cI, n_a_all_m4, .inl b_a_all_m4)), ((am 22), .inr (8, [.ref a_all_m22, .int size_m22])), (a_all_m22, .inl (cI, n_a_all_m22, .inl b_a_all_m22)), ((am 5), .inr (8, [.ref a_all_m5, .int size_m5])), (a_all_m5, .inl (cI, n_a_all_m5, .inl b_a_all_m5)), (h0, .inr (9, moF am known_h0 thrown_h0 wrong_h0 lastEnd_h0 at_h0 bad_h0 levels_h0 least_h0 found_h0)), ((am 21), .inr (8, [.ref a_all_m21, .int size_m21])), (a_all_m21, .inl (cI, n_a_all_m21, .inl b_a_all_m21))]) (cl' := 0) (sl' := 0) rfl rfl rfl rfl rfl rfl ?_
                              refine j_iload_n d_Mo_readStatement_339 rfl 0 rfl ?_
                              refine j_bipush (v := 12) d_Mo_readStatement_340 (by decide) ?_
                              refine j_icmp_ne (tgt := 350) d_Mo_readStatement_342 (by decide) (fun c274 => ?_) (fun c274 => ?_)
                              · replace h := it_f c274 h
                                refine j_bipush (v := 22) d_Mo_readStatement_350 (by decide) ?_
                                refine j_sub (w := [((am 20), .inr (8, [.ref a_all_m20, .int size_m20])), (a_all_m20, .inl (cI, n_a_all_m20, .inl b_a_all_m20)), ((am 2), .inl (cI, n_m2, .inl b_m2)), ((am 7), .inr (8, [.ref a_all_m7, .int size_m7])), (a_all_m7, .inl (cI, n_a_all_m7, .inl b_a_all_m7)), ((am 6), .inr (8, [.ref a_all_m6, .int size_m6])), (a_all_m6, .inl (cI, n_a_all_m6, .inl b_a_all_m6)), ((am 4), .inr (8, [.ref a_all_m4, .int size_m4])), (a_all_m4, .inl (cI, n_a_all_m4, .inl b_a_all_m4)), ((am 22), .inr (8, [.ref a_all_m22, .int size_m22])), (a_all_m22, .inl (cI, n_a_all_m22, .inl b_a_all_m22)), ((am 5), .inr (8, [.ref a_all_m5, .int size_m5])), (a_all_m5, .inl (cI, n_a_all_m5, .inl b_a_all_m5)), (h0, .inr (9, moF am known_h0 thrown_h0 wrong_h0 lastEnd_h0 at_h0 bad_h0 levels_h0 least_h0 found_h0)), ((am 21), .inr (8, [.ref a_all_m21, .int size_m21])), (a_all_m21, .inl (cI, n_a_all_m21, .inl b_a_all_m21))]) (lv' := [(1, .int (b_a_all_m5 (Int32.toNatClampNeg at_h0))), (0, .ref h0)]) [0, 1, 2, 3, 4, 5, 6, 7, 8, 9, 10, 11, 12, 13, 14, 15] rfl (by decide +kernel) [0, 1] rfl ?_
                                exact L_Mo_readStatement_352 l D cI cB cJ cS h0 am a_all_m5 a_all_m20 a_all_m21 a_all_m7 a_all_m6 a_all_m4 a_all_m22 known_h0 thrown_h0 wrong_h0 lastEnd_h0 at_h0 bad_h0 levels_h0 least_h0 found_h0 size_m5 n_a_all_m5 b_a_all_m5 size_m20 n_a_all_m20 b_a_all_m20 n_m2 b_m2 size_m21 n_a_all_m21 b_a_all_m21 size_m7 n_a_all_m7 b_a_all_m7 size_m6 n_a_all_m6 b_a_all_m6 size_m4 n_a_all_m4 b_a_all_m4 size_m22 n_a_all_m22 b_a_all_m22 ret o_0_17 o_0_18 o_0_19 o_0_23 o_3_1 o_6_1 o_14_1 on_nq_3_0 ob_nq_3_0 on_nq_6_0 ob_nq_6_0 on_nq_14_0 ob_nq_14_0 mc ms p e s m below meth c hr hnm 22 r272 0 0 mc ms h hC hS
                              · replace h := it_t c274 h
                                refine j_bipush (v := 10) d_Mo_readStatement_345 (by decide) ?_
                                refine j_goto (tgt := 352) d_Mo_readStatement_347 (by decide) ?_
                                refine j_sub (w := [((am 20), .inr (8, [.ref a_all_m20, .int size_m20])), (a_all_m20, .inl (cI, n_a_all_m20, .inl b_a_all_m20)), ((am 2), .inl (cI, n_m2, .inl b_m2)), ((am 7), .inr (8, [.ref a_all_m7, .int size_m7])), (a_all_m7, .inl (cI, n_a_all_m7, .inl b_a_all_m7)), ((am 6), .inr (8, [.ref a_all_m6, .int size_m6])), (a_all_m6, .inl (cI, n_a_all_m6, .inl b_a_all_m6)), ((am 4), .inr (8, [.ref a_all_m4, .int size_m4])), (a_all_m4, .inl (cI, n_a_all_m4, .inl b_a_all_m4)), ((am 22), .inr (8, [.ref a_all_m22, .int size_m22])), (a_all_m22, .inl (cI, n_a_all_m22, .inl b_a_all_m22)), ((am 5), .inr (8, [.ref a_all_m5, .int size_m5])), (a_all_m5, .inl (cI, n_a_all_m5, .inl b_a_all_m5)), (h0, .inr (9, moF am known_h0 thrown_h0 wrong_h0 lastEnd_h0 at_h0 bad_h0 levels_h0 least_h0 found_h0)), ((am 21), .inr (8, [.ref a_all_m21, .int size_m21])), (a_all_m21, .inl (cI, n_a_all_m21, .inl b_a_all_m21))]) (lv' := [(1, .int (b_a_all_m5 (Int32.toNatClampNeg at_h0))), (0, .ref h0)]) [0, 1, 2, 3, 4, 5, 6, 7, 8, 9, 10, 11, 12, 13, 14, 15] rfl (by decide +kernel) [0, 1] rfl ?_
                                exact L_Mo_readStatement_352 l D cI cB cJ cS h0 am a_all_m5 a_all_m20 a_all_m21 a_all_m7 a_all_m6 a_all_m4 a_all_m22 known_h0 thrown_h0 wrong_h0 lastEnd_h0 at_h0 bad_h0 levels_h0 least_h0 found_h0 size_m5 n_a_all_m5 b_a_all_m5 size_m20 n_a_all_m20 b_a_all_m20 n_m2 b_m2 size_m21 n_a_all_m21 b_a_all_m21 size_m7 n_a_all_m7 b_a_all_m7 size_m6 n_a_all_m6 b_a_all_m6 size_m4 n_a_all_m4 b_a_all_m4 size_m22 n_a_all_m22 b_a_all_m22 ret o_0_17 o_0_18 o_0_19 o_0_23 o_3_1 o_6_1 o_14_1 on_nq_3_0 ob_nq_3_0 on_nq_6_0 ob_nq_6_0 on_nq_14_0 ob_nq_14_0 mc ms p e s m below meth c hr hnm 10 r272 0 0 mc ms h hC hS
                            · replace h := it_f c271 h
                              by_cases c275 : (b_a_all_m5 (Int32.toNatClampNeg at_h0)) = 24
                              · replace h := it_t c275 h
                                refine j_tabIn (tgt := 540) (off := 534) d_Mo_readStatement_6 24 c275 (by decide) (by decide) (by decide) (by decide) ?_
                                refine j_aload_n d_Mo_readStatement_540 rfl 1 rfl ?_
                                replace h := bw_s h
                                obtain ⟨⟨r276, r277, r278, r279, r280, r281, r282⟩, C285, S286, C287, S288, k289, h, e1, e2⟩ := h
                                replace hC : 0 + C285 + C287 ≤ mc := by omega
                                replace hS : 0 + S286 + S288 ≤ ms := by omega
                                clear e1 e2
                                refine j_callV (n := 0) (As := []) (rest := []) (wr := [((am 21), .inr (8, [.ref a_all_m21, .int size_m21])), (a_all_m21, .inl (cI, n_a_all_m21, .inl b_a_all_m21)), ((am 7), .inr (8, [.ref a_all_m7, .int size_m7])), (a_all_m7, .inl (cI, n_a_all_m7, .inl b_a_all_m7)), ((am 6), .inr (8, [.ref a_all_m6, .int size_m6])), (a_all_m6, .inl (cI, n_a_all_m6, .inl b_a_all_m6)), ((am 4), .inr (8, [.ref a_all_m4, .int size_m4])), (a_all_m4, .inl (cI, n_a_all_m4, .inl b_a_all_m4)), ((am 22), .inr (8, [.ref a_all_m22, .int size_m22])), (a_all_m22, .inl (cI, n_a_all_m22, .inl b_a_all_m22))]) (c_Mo_readWorking l D cI cB cJ cS h0 am a_all_m20 a_all_m5 known_h0 thrown_h0 wrong_h0 lastEnd_h0 at_h0 bad_h0 levels_h0 least_h0 found_h0 size_m20 size_m5 n_a_all_m5 b_a_all_m5 n_a_all_m20 b_a_all_m20 n_m2 b_m2  r276 r277 r278 r279 r280 r281 r282 C285 S286 k289) k_Mo_362 (by decide) ⟨Nat.le_of_ble_eq_true rfl, Nat.le_of_ble_eq_true rfl⟩ rfl 0 rfl [13, 0, 14, 15, 1, 2] [3, 4, 5, 6, 7, 8, 9, 10, 11, 12] rfl (by decide +kernel) rfl (by decide +kernel) (by decide +kernel) rfl rfl (Nat.le_of_ble_eq_true rfl) d_Mo_readStatement_541 ⟨show 0 + C285 ≤ mc by omega, show 0 + S286 ≤ ms by omega⟩ (fun v w hq => ?_)
                                obtain ⟨q283, rfl, z284, rfl⟩ := hq
                                refine j_norm (pc' := 544) (st' := [.int r276]) (ws' := [((am 21), .inr (8, [.ref a_all_m21, .int size_m21])), (a_all_m21, .inl (cI, n_a_all_m21, .inl b_a_all_m21)), ((am 7), .inr (8, [.ref a_all_m7, .int size_m7])), (a_all_m7, .inl (cI, n_a_all_m7, .inl b_a_all_m7)), ((am 6), .inr (8, [.ref a_all_m6, .int size_m6])), (a_all_m6, .inl (cI, n_a_all_m6, .inl b_a_all_m6)), ((am 4), .inr (8, [.ref a_all_m4, .int size_m4])), (a_all_m4, .inl (cI, n_a_all_m4, .inl b_a_all_m4)), ((am 22), .inr (8, [.ref a_all_m22, .int size_m22])), (a_all_m22, .inl (cI, n_a_all_m22, .inl b_a_all_m22)), (h0, .inr (9, moF am known_h0 thrown_h0 wrong_h0 lastEnd_h0 r277 r278 r279 least_h0 found_h0)), ((am 20), .inr (8, [.ref q283, .int r280])), ((am 5), .inr (8, [.ref a_all_m5, .int size_m5])), (a_all_m5, .inl (cI, n_a_all_m5, .inl b_a_all_m5)), ((am 2), .inl (cI, n_m2, .inl b_m2)), (q283, .inl (cI, r281, .inl r282))]) (cl' := 0 + C285) (sl' := 0 + S286) rfl rfl rfl rfl rfl rfl ?_
                                refine j_if_eq (tgt := 560) d_Mo_readStatement_544 (by decide) (fun c290 => ?_) (fun c290 => ?_)
                                · replace h := it_t c290 h
                                  refine j_iconst (v := 0) d_Mo_readStatement_560 (by decide) ?_
                                  replace h := lf_s h
                                  obtain ⟨h, e1, e2⟩ := h
                                  replace h := Prod.mk.inj h
                                  obtain ⟨h9, h⟩ := h
                                  subst h9
                                  replace h := Prod.mk.inj h
                                  obtain ⟨h9, h⟩ := h
                                  subst h9
                                  replace h := Prod.mk.inj h
                                  obtain ⟨h9, h⟩ := h
                                  subst h9
                                  replace h := Prod.mk.inj h
                                  obtain ⟨h9, h⟩ := h
                                  subst h9
                                  replace h := Prod.mk.inj h
                                  obtain ⟨h9, h⟩ := h
                                  subst h9
                                  replace h := Prod.mk.inj h
                                  obtain ⟨h9, h⟩ := h
                                  subst h9
                                  replace h := Prod.mk.inj h
                                  obtain ⟨h9, h⟩ := h
                                  subst h9
                                  replace h := Prod.mk.inj h
                                  obtain ⟨h9, h⟩ := h
                                  subst h9
                                  replace h := Prod.mk.inj h
                                  obtain ⟨h9, h⟩ := h
                                  subst h9
                                  replace h := Prod.mk.inj h
                                  obtain ⟨h9, h⟩ := h
                                  subst h9
                                  replace h := Prod.mk.inj h
                                  obtain ⟨h9, h⟩ := h
                                  subst h9
                                  replace h := Prod.mk.inj h
                                  obtain ⟨h9, h⟩ := h
                                  subst h9
                                  replace h := Prod.mk.inj h
                                  obtain ⟨h9, h⟩ := h
                                  subst h9
                                  subst h
                                  refine j_widen (cl' := mc) (sl' := ms) (by omega) (by omega) ?_
                                  exact j_zret (w := [(h0, .inr (9, moF am known_h0 thrown_h0 wrong_h0 lastEnd_h0 r277 r278 r279 least_h0 found_h0)), ((am 5), .inr (8, [.ref a_all_m5, .int size_m5])), (a_all_m5, .inl (cI, n_a_all_m5, .inl b_a_all_m5)), ((am 20), .inr (8, [.ref q283, .int r280])), ((am 2), .inl (cI, n_m2, .inl b_m2)), ((am 21), .inr (8, [.ref a_all_m21, .int size_m21])), ((am 7), .inr (8, [.ref a_all_m7, .int size_m7])), (a_all_m7, .inl (cI, n_a_all_m7, .inl b_a_all_m7)), ((am 6), .inr (8, [.ref a_all_m6, .int size_m6])), (a_all_m6, .inl (cI, n_a_all_m6, .inl b_a_all_m6)), ((am 4), .inr (8, [.ref a_all_m4, .int size_m4])), (a_all_m4, .inl (cI, n_a_all_m4, .inl b_a_all_m4)), ((am 22), .inr (8, [.ref a_all_m22, .int size_m22])), (q283, .inl (cI, r281, .inl r282)), (a_all_m21, .inl (cI, n_a_all_m21, .inl b_a_all_m21)), (a_all_m22, .inl (cI, n_a_all_m22, .inl b_a_all_m22))]) hr (zb_n zb0) d_Mo_readStatement_561 [10, 12, 13, 11, 14, 0, 2, 3, 4, 5, 6, 7, 8, 15, 1, 9] rfl (by decide) ⟨q283, a_all_m21, a_all_m22, rfl, zb0, rfl⟩
                                · replace h := it_f c290 h
                                  refine j_aload_n d_Mo_readStatement_547 rfl 1 rfl ?_
                                  refine j_bipush (v := 55) d_Mo_readStatement_548 (by decide) ?_
                                  replace h := bd_s h
                                  obtain ⟨⟨r291, r292, r293⟩, k295, h⟩ := h
                                  refine j_callV (n := 1) (As := [.int 55]) (rest := []) (wr := [((am 21), .inr (8, [.ref a_all_m21, .int size_m21])), (a_all_m21, .inl (cI, n_a_all_m21, .inl b_a_all_m21)), ((am 7), .inr (8, [.ref a_all_m7, .int size_m7])), (a_all_m7, .inl (cI, n_a_all_m7, .inl b_a_all_m7)), ((am 6), .inr (8, [.ref a_all_m6, .int size_m6])), (a_all_m6, .inl (cI, n_a_all_m6, .inl b_a_all_m6)), ((am 4), .inr (8, [.ref a_all_m4, .int size_m4])), (a_all_m4, .inl (cI, n_a_all_m4, .inl b_a_all_m4)), ((am 22), .inr (8, [.ref a_all_m22, .int size_m22])), (a_all_m22, .inl (cI, n_a_all_m22, .inl b_a_all_m22)), ((am 20), .inr (8, [.ref q283, .int r280])), ((am 2), .inl (cI, n_m2, .inl b_m2)), (q283, .inl (cI, r281, .inl r282))]) (c_Mo_take l D cI cB cJ cS h0 am a_all_m5 55 known_h0 thrown_h0 wrong_h0 lastEnd_h0 r277 r278 r279 least_h0 found_h0 size_m5 n_a_all_m5 b_a_all_m5  r291 r292 r293 k295) k_Mo_285 (by decide) ⟨Nat.le_of_ble_eq_true rfl, Nat.le_of_ble_eq_true rfl⟩ rfl 0 rfl [10, 12, 13] [0, 1, 2, 3, 4, 5, 6, 7, 8, 9, 11, 14, 15] rfl (by decide +kernel) rfl (by decide +kernel) (by decide +kernel) rfl rfl (Nat.le_of_ble_eq_true rfl) d_Mo_readStatement_550 ⟨show 0 + C285 + 0 ≤ mc by omega, show 0 + S286 + 0 ≤ ms by omega⟩ (fun v w hq => ?_)
                                  obtain ⟨rfl, z294, rfl⟩ := hq
                                  refine j_norm (pc' := 553) (st' := [.int r291]) (ws' := [((am 21), .inr (8, [.ref a_all_m21, .int size_m21])), (a_all_m21, .inl (cI, n_a_all_m21, .inl b_a_all_m21)), ((am 7), .inr (8, [.ref a_all_m7, .int size_m7])), (a_all_m7, .inl (cI, n_a_all_m7, .inl b_a_all_m7)), ((am 6), .inr (8, [.ref a_all_m6, .int size_m6])), (a_all_m6, .inl (cI, n_a_all_m6, .inl b_a_all_m6)), ((am 4), .inr (8, [.ref a_all_m4, .int size_m4])), (a_all_m4, .inl (cI, n_a_all_m4, .inl b_a_all_m4)), ((am 22), .inr (8, [.ref a_all_m22, .int size_m22])), (a_all_m22, .inl (cI, n_a_all_m22, .inl b_a_all_m22)), ((am 20), .inr (8, [.ref q283, .int r280])), ((am 2), .inl (cI, n_m2, .inl b_m2)), (q283, .inl (cI, r281, .inl r282)), (h0, .inr (9, moF am known_h0 thrown_h0 wrong_h0 lastEnd_h0 r292 r293 r279 least_h0 found_h0)), ((am 5), .inr (8, [.ref a_all_m5, .int size_m5])), (a_all_m5, .inl (cI, n_a_all_m5, .inl b_a_all_m5))]) (cl' := 0 + C285) (sl' := 0 + S286) rfl rfl rfl rfl rfl rfl ?_
                                  refine j_if_eq (tgt := 560) d_Mo_readStatement_553 (by decide) (fun c296 => ?_) (fun c296 => ?_)
                                  · replace h := it_t c296 h
                                    refine j_iconst (v := 0) d_Mo_readStatement_560 (by decide) ?_
                                    replace h := lf_s h
                                    obtain ⟨h, e1, e2⟩ := h
                                    replace h := Prod.mk.inj h
                                    obtain ⟨h9, h⟩ := h
                                    subst h9
                                    replace h := Prod.mk.inj h
                                    obtain ⟨h9, h⟩ := h
                                    subst h9
                                    replace h := Prod.mk.inj h
                                    obtain ⟨h9, h⟩ := h
                                    subst h9
                                    replace h := Prod.mk.inj h
                                    obtain ⟨h9, h⟩ := h
                                    subst h9
                                    replace h := Prod.mk.inj h
                                    obtain ⟨h9, h⟩ := h
                                    subst h9
                                    replace h := Prod.mk.inj h
                                    obtain ⟨h9, h⟩ := h
                                    subst h9
                                    replace h := Prod.mk.inj h
                                    obtain ⟨h9, h⟩ := h
                                    subst h9
                                    replace h := Prod.mk.inj h
                                    obtain ⟨h9, h⟩ := h
                                    subst h9
                                    replace h := Prod.mk.inj h
                                    obtain ⟨h9, h⟩ := h
                                    subst h9
                                    replace h := Prod.mk.inj h
                                    obtain ⟨h9, h⟩ := h
                                    subst h9
                                    replace h := Prod.mk.inj h
                                    obtain ⟨h9, h⟩ := h
                                    subst h9
                                    replace h := Prod.mk.inj h
                                    obtain ⟨h9, h⟩ := h
                                    subst h9
                                    replace h := Prod.mk.inj h
                                    obtain ⟨h9, h⟩ := h
                                    subst h9
                                    subst h
                                    refine j_widen (cl' := mc) (sl' := ms) (by omega) (by omega) ?_
                                    exact j_zret (w := [(h0, .inr (9, moF am known_h0 thrown_h0 wrong_h0 lastEnd_h0 r292 r293 r279 least_h0 found_h0)), ((am 5), .inr (8, [.ref a_all_m5, .int size_m5])), (a_all_m5, .inl (cI, n_a_all_m5, .inl b_a_all_m5)), ((am 20), .inr (8, [.ref q283, .int r280])), ((am 2), .inl (cI, n_m2, .inl b_m2)), ((am 21), .inr (8, [.ref a_all_m21, .int size_m21])), ((am 7), .inr (8, [.ref a_all_m7, .int size_m7])), (a_all_m7, .inl (cI, n_a_all_m7, .inl b_a_all_m7)), ((am 6), .inr (8, [.ref a_all_m6, .int size_m6])), (a_all_m6, .inl (cI, n_a_all_m6, .inl b_a_all_m6)), ((am 4), .inr (8, [.ref a_all_m4, .int size_m4])), (a_all_m4, .inl (cI, n_a_all_m4, .inl b_a_all_m4)), ((am 22), .inr (8, [.ref a_all_m22, .int size_m22])), (q283, .inl (cI, r281, .inl r282)), (a_all_m21, .inl (cI, n_a_all_m21, .inl b_a_all_m21)), (a_all_m22, .inl (cI, n_a_all_m22, .inl b_a_all_m22))]) hr (zb_n zb0) d_Mo_readStatement_561 [13, 14, 15, 10, 11, 0, 2, 3, 4, 5, 6, 7, 8, 12, 1, 9] rfl (by decide) ⟨q283, a_all_m21, a_all_m22, rfl, zb0, rfl⟩
                                  · replace h := it_f c296 h
                                    refine j_iconst (v := 1) d_Mo_readStatement_556 (by decide) ?_
                                    refine j_goto (tgt := 561) d_Mo_readStatement_557 (by decide) ?_
                                    replace h := lf_s h
                                    obtain ⟨h, e1, e2⟩ := h
                                    replace h := Prod.mk.inj h
                                    obtain ⟨h9, h⟩ := h
                                    subst h9
                                    replace h := Prod.mk.inj h
                                    obtain ⟨h9, h⟩ := h
                                    subst h9
                                    replace h := Prod.mk.inj h
                                    obtain ⟨h9, h⟩ := h
                                    subst h9
                                    replace h := Prod.mk.inj h
                                    obtain ⟨h9, h⟩ := h
                                    subst h9
                                    replace h := Prod.mk.inj h
                                    obtain ⟨h9, h⟩ := h
                                    subst h9
                                    replace h := Prod.mk.inj h
                                    obtain ⟨h9, h⟩ := h
                                    subst h9
                                    replace h := Prod.mk.inj h
                                    obtain ⟨h9, h⟩ := h
                                    subst h9
                                    replace h := Prod.mk.inj h
                                    obtain ⟨h9, h⟩ := h
                                    subst h9
                                    replace h := Prod.mk.inj h
                                    obtain ⟨h9, h⟩ := h
                                    subst h9
                                    replace h := Prod.mk.inj h
                                    obtain ⟨h9, h⟩ := h
                                    subst h9
                                    replace h := Prod.mk.inj h
                                    obtain ⟨h9, h⟩ := h
                                    subst h9
                                    replace h := Prod.mk.inj h
                                    obtain ⟨h9, h⟩ := h
                                    subst h9
                                    replace h := Prod.mk.inj h
                                    obtain ⟨h9, h⟩ := h
                                    subst h9
                                    subst h
                                    refine j_widen (cl' := mc) (sl' := ms) (by omega) (by omega) ?_
                                    exact j_zret (w := [(h0, .inr (9, moF am known_h0 thrown_h0 wrong_h0 lastEnd_h0 r292 r293 r279 least_h0 found_h0)), ((am 5), .inr (8, [.ref a_all_m5, .int size_m5])), (a_all_m5, .inl (cI, n_a_all_m5, .inl b_a_all_m5)), ((am 20), .inr (8, [.ref q283, .int r280])), ((am 2), .inl (cI, n_m2, .inl b_m2)), ((am 21), .inr (8, [.ref a_all_m21, .int size_m21])), ((am 7), .inr (8, [.ref a_all_m7, .int size_m7])), (a_all_m7, .inl (cI, n_a_all_m7, .inl b_a_all_m7)), ((am 6), .inr (8, [.ref a_all_m6, .int size_m6])), (a_all_m6, .inl (cI, n_a_all_m6, .inl b_a_all_m6)), ((am 4), .inr (8, [.ref a_all_m4, .int size_m4])), (a_all_m4, .inl (cI, n_a_all_m4, .inl b_a_all_m4)), ((am 22), .inr (8, [.ref a_all_m22, .int size_m22])), (q283, .inl (cI, r281, .inl r282)), (a_all_m21, .inl (cI, n_a_all_m21, .inl b_a_all_m21)), (a_all_m22, .inl (cI, n_a_all_m22, .inl b_a_all_m22))]) hr (zb_n zb1) d_Mo_readStatement_561 [13, 14, 15, 10, 11, 0, 2, 3, 4, 5, 6, 7, 8, 12, 1, 9] rfl (by decide) ⟨q283, a_all_m21, a_all_m22, rfl, zb1, rfl⟩
                              · replace h := it_f c275 h
                                by_cases c297 : (b_a_all_m5 (Int32.toNatClampNeg at_h0)) = 25
                                · replace h := it_t c297 h
                                  refine j_tabIn (tgt := 540) (off := 534) d_Mo_readStatement_6 25 c297 (by decide) (by decide) (by decide) (by decide) ?_
                                  refine j_aload_n d_Mo_readStatement_540 rfl 1 rfl ?_
                                  replace h := bw_s h
                                  obtain ⟨⟨r298, r299, r300, r301, r302, r303, r304⟩, C307, S308, C309, S310, k311, h, e1, e2⟩ := h
                                  replace hC : 0 + C307 + C309 ≤ mc := by omega
                                  replace hS : 0 + S308 + S310 ≤ ms := by omega
                                  clear e1 e2
                                  refine j_callV (n := 0) (As := []) (rest := []) (wr := [((am 21), .inr (8, [.ref a_all_m21, .int size_m21])), (a_all_m21, .inl (cI, n_a_all_m21, .inl b_a_all_m21)), ((am 7), .inr (8, [.ref a_all_m7, .int size_m7])), (a_all_m7, .inl (cI, n_a_all_m7, .inl b_a_all_m7)), ((am 6), .inr (8, [.ref a_all_m6, .int size_m6])), (a_all_m6, .inl (cI, n_a_all_m6, .inl b_a_all_m6)), ((am 4), .inr (8, [.ref a_all_m4, .int size_m4])), (a_all_m4, .inl (cI, n_a_all_m4, .inl b_a_all_m4)), ((am 22), .inr (8, [.ref a_all_m22, .int size_m22])), (a_all_m22, .inl (cI, n_a_all_m22, .inl b_a_all_m22))]) (c_Mo_readWorking l D cI cB cJ cS h0 am a_all_m20 a_all_m5 known_h0 thrown_h0 wrong_h0 lastEnd_h0 at_h0 bad_h0 levels_h0 least_h0 found_h0 size_m20 size_m5 n_a_all_m5 b_a_all_m5 n_a_all_m20 b_a_all_m20 n_m2 b_m2  r298 r299 r300 r301 r302 r303 r304 C307 S308 k311) k_Mo_362 (by decide) ⟨Nat.le_of_ble_eq_true rfl, Nat.le_of_ble_eq_true rfl⟩ rfl 0 rfl [13, 0, 14, 15, 1, 2] [3, 4, 5, 6, 7, 8, 9, 10, 11, 12] rfl (by decide +kernel) rfl (by decide +kernel) (by decide +kernel) rfl rfl (Nat.le_of_ble_eq_true rfl) d_Mo_readStatement_541 ⟨show 0 + C307 ≤ mc by omega, show 0 + S308 ≤ ms by omega⟩ (fun v w hq => ?_)
                                  obtain ⟨q305, rfl, z306, rfl⟩ := hq
                                  refine j_norm (pc' := 544) (st' := [.int r298]) (ws' := [((am 21), .inr (8, [.ref a_all_m21, .int size_m21])), (a_all_m21, .inl (cI, n_a_all_m21, .inl b_a_all_m21)), ((am 7), .inr (8, [.ref a_all_m7, .int size_m7])), (a_all_m7, .inl (cI, n_a_all_m7, .inl b_a_all_m7)), ((am 6), .inr (8, [.ref a_all_m6, .int size_m6])), (a_all_m6, .inl (cI, n_a_all_m6, .inl b_a_all_m6)), ((am 4), .inr (8, [.ref a_all_m4, .int size_m4])), (a_all_m4, .inl (cI, n_a_all_m4, .inl b_a_all_m4)), ((am 22), .inr (8, [.ref a_all_m22, .int size_m22])), (a_all_m22, .inl (cI, n_a_all_m22, .inl b_a_all_m22)), (h0, .inr (9, moF am known_h0 thrown_h0 wrong_h0 lastEnd_h0 r299 r300 r301 least_h0 found_h0)), ((am 20), .inr (8, [.ref q305, .int r302])), ((am 5), .inr (8, [.ref a_all_m5, .int size_m5])), (a_all_m5, .inl (cI, n_a_all_m5, .inl b_a_all_m5)), ((am 2), .inl (cI, n_m2, .inl b_m2)), (q305, .inl (cI, r303, .inl r304))]) (cl' := 0 + C307) (sl' := 0 + S308) rfl rfl rfl rfl rfl rfl ?_
                                  refine j_if_eq (tgt := 560) d_Mo_readStatement_544 (by decide) (fun c312 => ?_) (fun c312 => ?_)
                                  · replace h := it_t c312 h
                                    refine j_iconst (v := 0) d_Mo_readStatement_560 (by decide) ?_
                                    replace h := lf_s h
                                    obtain ⟨h, e1, e2⟩ := h
                                    replace h := Prod.mk.inj h
                                    obtain ⟨h9, h⟩ := h
                                    subst h9
                                    replace h := Prod.mk.inj h
                                    obtain ⟨h9, h⟩ := h
                                    subst h9
                                    replace h := Prod.mk.inj h
                                    obtain ⟨h9, h⟩ := h
                                    subst h9
                                    replace h := Prod.mk.inj h
                                    obtain ⟨h9, h⟩ := h
                                    subst h9
                                    replace h := Prod.mk.inj h
                                    obtain ⟨h9, h⟩ := h
                                    subst h9
                                    replace h := Prod.mk.inj h
                                    obtain ⟨h9, h⟩ := h
                                    subst h9
                                    replace h := Prod.mk.inj h
                                    obtain ⟨h9, h⟩ := h
                                    subst h9
                                    replace h := Prod.mk.inj h
                                    obtain ⟨h9, h⟩ := h
                                    subst h9
                                    replace h := Prod.mk.inj h
                                    obtain ⟨h9, h⟩ := h
                                    subst h9
                                    replace h := Prod.mk.inj h
                                    obtain ⟨h9, h⟩ := h
                                    subst h9
                                    replace h := Prod.mk.inj h
                                    obtain ⟨h9, h⟩ := h
                                    subst h9
                                    replace h := Prod.mk.inj h
                                    obtain ⟨h9, h⟩ := h
                                    subst h9
                                    replace h := Prod.mk.inj h
                                    obtain ⟨h9, h⟩ := h
                                    subst h9
                                    subst h
                                    refine j_widen (cl' := mc) (sl' := ms) (by omega) (by omega) ?_
                                    exact j_zret (w := [(h0, .inr (9, moF am known_h0 thrown_h0 wrong_h0 lastEnd_h0 r299 r300 r301 least_h0 found_h0)), ((am 5), .inr (8, [.ref a_all_m5, .int size_m5])), (a_all_m5, .inl (cI, n_a_all_m5, .inl b_a_all_m5)), ((am 20), .inr (8, [.ref q305, .int r302])), ((am 2), .inl (cI, n_m2, .inl b_m2)), ((am 21), .inr (8, [.ref a_all_m21, .int size_m21])), ((am 7), .inr (8, [.ref a_all_m7, .int size_m7])), (a_all_m7, .inl (cI, n_a_all_m7, .inl b_a_all_m7)), ((am 6), .inr (8, [.ref a_all_m6, .int size_m6])), (a_all_m6, .inl (cI, n_a_all_m6, .inl b_a_all_m6)), ((am 4), .inr (8, [.ref a_all_m4, .int size_m4])), (a_all_m4, .inl (cI, n_a_all_m4, .inl b_a_all_m4)), ((am 22), .inr (8, [.ref a_all_m22, .int size_m22])), (q305, .inl (cI, r303, .inl r304)), (a_all_m21, .inl (cI, n_a_all_m21, .inl b_a_all_m21)), (a_all_m22, .inl (cI, n_a_all_m22, .inl b_a_all_m22))]) hr (zb_n zb0) d_Mo_readStatement_561 [10, 12, 13, 11, 14, 0, 2, 3, 4, 5, 6, 7, 8, 15, 1, 9] rfl (by decide) ⟨q305, a_all_m21, a_all_m22, rfl, zb0, rfl⟩
                                  · replace h := it_f c312 h
                                    refine j_aload_n d_Mo_readStatement_547 rfl 1 rfl ?_
                                    refine j_bipush (v := 55) d_Mo_readStatement_548 (by decide) ?_
                                    replace h := bd_s h
                                    obtain ⟨⟨r313, r314, r315⟩, k317, h⟩ := h
                                    refine j_callV (n := 1) (As := [.int 55]) (rest := []) (wr := [((am 21), .inr (8, [.ref a_all_m21, .int size_m21])), (a_all_m21, .inl (cI, n_a_all_m21, .inl b_a_all_m21)), ((am 7), .inr (8, [.ref a_all_m7, .int size_m7])), (a_all_m7, .inl (cI, n_a_all_m7, .inl b_a_all_m7)), ((am 6), .inr (8, [.ref a_all_m6, .int size_m6])), (a_all_m6, .inl (cI, n_a_all_m6, .inl b_a_all_m6)), ((am 4), .inr (8, [.ref a_all_m4, .int size_m4])), (a_all_m4, .inl (cI, n_a_all_m4, .inl b_a_all_m4)), ((am 22), .inr (8, [.ref a_all_m22, .int size_m22])), (a_all_m22, .inl (cI, n_a_all_m22, .inl b_a_all_m22)), ((am 20), .inr (8, [.ref q305, .int r302])), ((am 2), .inl (cI, n_m2, .inl b_m2)), (q305, .inl (cI, r303, .inl r304))]) (c_Mo_take l D cI cB cJ cS h0 am a_all_m5 55 known_h0 thrown_h0 wrong_h0 lastEnd_h0 r299 r300 r301 least_h0 found_h0 size_m5 n_a_all_m5 b_a_all_m5  r313 r314 r315 k317) k_Mo_285 (by decide) ⟨Nat.le_of_ble_eq_true rfl, Nat.le_of_ble_eq_true rfl⟩ rfl 0 rfl [10, 12, 13] [0, 1, 2, 3, 4, 5, 6, 7, 8, 9, 11, 14, 15] rfl (by decide +kernel) rfl (by decide +kernel) (by decide +kernel) rfl rfl (Nat.le_of_ble_eq_true rfl) d_Mo_readStatement_550 ⟨show 0 + C307 + 0 ≤ mc by omega, show 0 + S308 + 0 ≤ ms by omega⟩ (fun v w hq => ?_)
                                    obtain ⟨rfl, z316, rfl⟩ := hq
                                    refine j_norm (pc' := 553) (st' := [.int r313]) (ws' := [((am 21), .inr (8, [.ref a_all_m21, .int size_m21])), (a_all_m21, .inl (cI, n_a_all_m21, .inl b_a_all_m21)), ((am 7), .inr (8, [.ref a_all_m7, .int size_m7])), (a_all_m7, .inl (cI, n_a_all_m7, .inl b_a_all_m7)), ((am 6), .inr (8, [.ref a_all_m6, .int size_m6])), (a_all_m6, .inl (cI, n_a_all_m6, .inl b_a_all_m6)), ((am 4), .inr (8, [.ref a_all_m4, .int size_m4])), (a_all_m4, .inl (cI, n_a_all_m4, .inl b_a_all_m4)), ((am 22), .inr (8, [.ref a_all_m22, .int size_m22])), (a_all_m22, .inl (cI, n_a_all_m22, .inl b_a_all_m22)), ((am 20), .inr (8, [.ref q305, .int r302])), ((am 2), .inl (cI, n_m2, .inl b_m2)), (q305, .inl (cI, r303, .inl r304)), (h0, .inr (9, moF am known_h0 thrown_h0 wrong_h0 lastEnd_h0 r314 r315 r301 least_h0 found_h0)), ((am 5), .inr (8, [.ref a_all_m5, .int size_m5])), (a_all_m5, .inl (cI, n_a_all_m5, .inl b_a_all_m5))]) (cl' := 0 + C307) (sl' := 0 + S308) rfl rfl rfl rfl rfl rfl ?_
                                    refine j_if_eq (tgt := 560) d_Mo_readStatement_553 (by decide) (fun c318 => ?_) (fun c318 => ?_)
                                    · replace h := it_t c318 h
                                      refine j_iconst (v := 0) d_Mo_readStatement_560 (by decide) ?_
                                      replace h := lf_s h
                                      obtain ⟨h, e1, e2⟩ := h
                                      replace h := Prod.mk.inj h
                                      obtain ⟨h9, h⟩ := h
                                      subst h9
                                      replace h := Prod.mk.inj h
                                      obtain ⟨h9, h⟩ := h
                                      subst h9
                                      replace h := Prod.mk.inj h
                                      obtain ⟨h9, h⟩ := h
                                      subst h9
                                      replace h := Prod.mk.inj h
                                      obtain ⟨h9, h⟩ := h
                                      subst h9
                                      replace h := Prod.mk.inj h
                                      obtain ⟨h9, h⟩ := h
                                      subst h9
                                      replace h := Prod.mk.inj h
                                      obtain ⟨h9, h⟩ := h
                                      subst h9
                                      replace h := Prod.mk.inj h
                                      obtain ⟨h9, h⟩ := h
                                      subst h9
                                      replace h := Prod.mk.inj h
                                      obtain ⟨h9, h⟩ := h
                                      subst h9
                                      replace h := Prod.mk.inj h
                                      obtain ⟨h9, h⟩ := h
                                      subst h9
                                      replace h := Prod.mk.inj h
                                      obtain ⟨h9, h⟩ := h
                                      subst h9
                                      replace h := Prod.mk.inj h
                                      obtain ⟨h9, h⟩ := h
                                      subst h9
                                      replace h := Prod.mk.inj h
                                      obtain ⟨h9, h⟩ := h
                                      subst h9
                                      replace h := Prod.mk.inj h
                                      obtain ⟨h9, h⟩ := h
                                      subst h9
                                      subst h
                                      refine j_widen (cl' := mc) (sl' := ms) (by omega) (by omega) ?_
                                      exact j_zret (w := [(h0, .inr (9, moF am known_h0 thrown_h0 wrong_h0 lastEnd_h0 r314 r315 r301 least_h0 found_h0)), ((am 5), .inr (8, [.ref a_all_m5, .int size_m5])), (a_all_m5, .inl (cI, n_a_all_m5, .inl b_a_all_m5)), ((am 20), .inr (8, [.ref q305, .int r302])), ((am 2), .inl (cI, n_m2, .inl b_m2)), ((am 21), .inr (8, [.ref a_all_m21, .int size_m21])), ((am 7), .inr (8, [.ref a_all_m7, .int size_m7])), (a_all_m7, .inl (cI, n_a_all_m7, .inl b_a_all_m7)), ((am 6), .inr (8, [.ref a_all_m6, .int size_m6])), (a_all_m6, .inl (cI, n_a_all_m6, .inl b_a_all_m6)), ((am 4), .inr (8, [.ref a_all_m4, .int size_m4])), (a_all_m4, .inl (cI, n_a_all_m4, .inl b_a_all_m4)), ((am 22), .inr (8, [.ref a_all_m22, .int size_m22])), (q305, .inl (cI, r303, .inl r304)), (a_all_m21, .inl (cI, n_a_all_m21, .inl b_a_all_m21)), (a_all_m22, .inl (cI, n_a_all_m22, .inl b_a_all_m22))]) hr (zb_n zb0) d_Mo_readStatement_561 [13, 14, 15, 10, 11, 0, 2, 3, 4, 5, 6, 7, 8, 12, 1, 9] rfl (by decide) ⟨q305, a_all_m21, a_all_m22, rfl, zb0, rfl⟩
                                    · replace h := it_f c318 h
                                      refine j_iconst (v := 1) d_Mo_readStatement_556 (by decide) ?_
                                      refine j_goto (tgt := 561) d_Mo_readStatement_557 (by decide) ?_
                                      replace h := lf_s h
                                      obtain ⟨h, e1, e2⟩ := h
                                      replace h := Prod.mk.inj h
                                      obtain ⟨h9, h⟩ := h
                                      subst h9
                                      replace h := Prod.mk.inj h
                                      obtain ⟨h9, h⟩ := h
                                      subst h9
                                      replace h := Prod.mk.inj h
                                      obtain ⟨h9, h⟩ := h
                                      subst h9
                                      replace h := Prod.mk.inj h
                                      obtain ⟨h9, h⟩ := h
                                      subst h9
                                      replace h := Prod.mk.inj h
                                      obtain ⟨h9, h⟩ := h
                                      subst h9
                                      replace h := Prod.mk.inj h
                                      obtain ⟨h9, h⟩ := h
                                      subst h9
                                      replace h := Prod.mk.inj h
                                      obtain ⟨h9, h⟩ := h
                                      subst h9
                                      replace h := Prod.mk.inj h
                                      obtain ⟨h9, h⟩ := h
                                      subst h9
                                      replace h := Prod.mk.inj h
                                      obtain ⟨h9, h⟩ := h
                                      subst h9
                                      replace h := Prod.mk.inj h
                                      obtain ⟨h9, h⟩ := h
                                      subst h9
                                      replace h := Prod.mk.inj h
                                      obtain ⟨h9, h⟩ := h
                                      subst h9
                                      replace h := Prod.mk.inj h
                                      obtain ⟨h9, h⟩ := h
                                      subst h9
                                      replace h := Prod.mk.inj h
                                      obtain ⟨h9, h⟩ := h
                                      subst h9
                                      subst h
                                      refine j_widen (cl' := mc) (sl' := ms) (by omega) (by omega) ?_
                                      exact j_zret (w := [(h0, .inr (9, moF am known_h0 thrown_h0 wrong_h0 lastEnd_h0 r314 r315 r301 least_h0 found_h0)), ((am 5), .inr (8, [.ref a_all_m5, .int size_m5])), (a_all_m5, .inl (cI, n_a_all_m5, .inl b_a_all_m5)), ((am 20), .inr (8, [.ref q305, .int r302])), ((am 2), .inl (cI, n_m2, .inl b_m2)), ((am 21), .inr (8, [.ref a_all_m21, .int size_m21])), ((am 7), .inr (8, [.ref a_all_m7, .int size_m7])), (a_all_m7, .inl (cI, n_a_all_m7, .inl b_a_all_m7)), ((am 6), .inr (8, [.ref a_all_m6, .int size_m6])), (a_all_m6, .inl (cI, n_a_all_m6, .inl b_a_all_m6)), ((am 4), .inr (8, [.ref a_all_m4, .int size_m4])), (a_all_m4, .inl (cI, n_a_all_m4, .inl b_a_all_m4)), ((am 22), .inr (8, [.ref a_all_m22, .int size_m22])), (q305, .inl (cI, r303, .inl r304)), (a_all_m21, .inl (cI, n_a_all_m21, .inl b_a_all_m21)), (a_all_m22, .inl (cI, n_a_all_m22, .inl b_a_all_m22))]) hr (zb_n zb1) d_Mo_readStatement_561 [13, 14, 15, 10, 11, 0, 2, 3, 4, 5, 6, 7, 8, 12, 1, 9] rfl (by decide) ⟨q305, a_all_m21, a_all_m22, rfl, zb1, rfl⟩
                                · replace h := it_f c297 h
                                  by_cases c319 : (b_a_all_m5 (Int32.toNatClampNeg at_h0)) = 26
                                  · replace h := it_t c319 h
                                    refine j_tabIn (tgt := 540) (off := 534) d_Mo_readStatement_6 26 c319 (by decide) (by decide) (by decide) (by decide) ?_
                                    refine j_aload_n d_Mo_readStatement_540 rfl 1 rfl ?_
                                    replace h := bw_s h
                                    obtain ⟨⟨r320, r321, r322, r323, r324, r325, r326⟩, C329, S330, C331, S332, k333, h, e1, e2⟩ := h
                                    replace hC : 0 + C329 + C331 ≤ mc := by omega
                                    replace hS : 0 + S330 + S332 ≤ ms := by omega
                                    clear e1 e2
                                    refine j_callV (n := 0) (As := []) (rest := []) (wr := [((am 21), .inr (8, [.ref a_all_m21, .int size_m21])), (a_all_m21, .inl (cI, n_a_all_m21, .inl b_a_all_m21)), ((am 7), .inr (8, [.ref a_all_m7, .int size_m7])), (a_all_m7, .inl (cI, n_a_all_m7, .inl b_a_all_m7)), ((am 6), .inr (8, [.ref a_all_m6, .int size_m6])), (a_all_m6, .inl (cI, n_a_all_m6, .inl b_a_all_m6)), ((am 4), .inr (8, [.ref a_all_m4, .int size_m4])), (a_all_m4, .inl (cI, n_a_all_m4, .inl b_a_all_m4)), ((am 22), .inr (8, [.ref a_all_m22, .int size_m22])), (a_all_m22, .inl (cI, n_a_all_m22, .inl b_a_all_m22))]) (c_Mo_readWorking l D cI cB cJ cS h0 am a_all_m20 a_all_m5 known_h0 thrown_h0 wrong_h0 lastEnd_h0 at_h0 bad_h0 levels_h0 least_h0 found_h0 size_m20 size_m5 n_a_all_m5 b_a_all_m5 n_a_all_m20 b_a_all_m20 n_m2 b_m2  r320 r321 r322 r323 r324 r325 r326 C329 S330 k333) k_Mo_362 (by decide) ⟨Nat.le_of_ble_eq_true rfl, Nat.le_of_ble_eq_true rfl⟩ rfl 0 rfl [13, 0, 14, 15, 1, 2] [3, 4, 5, 6, 7, 8, 9, 10, 11, 12] rfl (by decide +kernel) rfl (by decide +kernel) (by decide +kernel) rfl rfl (Nat.le_of_ble_eq_true rfl) d_Mo_readStatement_541 ⟨show 0 + C329 ≤ mc by omega, show 0 + S330 ≤ ms by omega⟩ (fun v w hq => ?_)
                                    obtain ⟨q327, rfl, z328, rfl⟩ := hq
                                    refine j_norm (pc' := 544) (st' := [.int r320]) (ws' := [((am 21), .inr (8, [.ref a_all_m21, .int size_m21])), (a_all_m21, .inl (cI, n_a_all_m21, .inl b_a_all_m21)), ((am 7), .inr (8, [.ref a_all_m7, .int size_m7])), (a_all_m7, .inl (cI, n_a_all_m7, .inl b_a_all_m7)), ((am 6), .inr (8, [.ref a_all_m6, .int size_m6])), (a_all_m6, .inl (cI, n_a_all_m6, .inl b_a_all_m6)), ((am 4), .inr (8, [.ref a_all_m4, .int size_m4])), (a_all_m4, .inl (cI, n_a_all_m4, .inl b_a_all_m4)), ((am 22), .inr (8, [.ref a_all_m22, .int size_m22])), (a_all_m22, .inl (cI, n_a_all_m22, .inl b_a_all_m22)), (h0, .inr (9, moF am known_h0 thrown_h0 wrong_h0 lastEnd_h0 r321 r322 r323 least_h0 found_h0)), ((am 20), .inr (8, [.ref q327, .int r324])), ((am 5), .inr (8, [.ref a_all_m5, .int size_m5])), (a_all_m5, .inl (cI, n_a_all_m5, .inl b_a_all_m5)), ((am 2), .inl (cI, n_m2, .inl b_m2)), (q327, .inl (cI, r325, .inl r326))]) (cl' := 0 + C329) (sl' := 0 + S330) rfl rfl rfl rfl rfl rfl ?_
                                    refine j_if_eq (tgt := 560) d_Mo_readStatement_544 (by decide) (fun c334 => ?_) (fun c334 => ?_)
                                    · replace h := it_t c334 h
                                      refine j_iconst (v := 0) d_Mo_readStatement_560 (by decide) ?_
                                      replace h := lf_s h
                                      obtain ⟨h, e1, e2⟩ := h
                                      replace h := Prod.mk.inj h
                                      obtain ⟨h9, h⟩ := h
                                      subst h9
                                      replace h := Prod.mk.inj h
                                      obtain ⟨h9, h⟩ := h
                                      subst h9
                                      replace h := Prod.mk.inj h
                                      obtain ⟨h9, h⟩ := h
                                      subst h9
                                      replace h := Prod.mk.inj h
                                      obtain ⟨h9, h⟩ := h
                                      subst h9
                                      replace h := Prod.mk.inj h
                                      obtain ⟨h9, h⟩ := h
                                      subst h9
                                      replace h := Prod.mk.inj h
                                      obtain ⟨h9, h⟩ := h
                                      subst h9
                                      replace h := Prod.mk.inj h
                                      obtain ⟨h9, h⟩ := h
                                      subst h9
                                      replace h := Prod.mk.inj h
                                      obtain ⟨h9, h⟩ := h
                                      subst h9
                                      replace h := Prod.mk.inj h
                                      obtain ⟨h9, h⟩ := h
                                      subst h9
                                      replace h := Prod.mk.inj h
                                      obtain ⟨h9, h⟩ := h
                                      subst h9
                                      replace h := Prod.mk.inj h
                                      obtain ⟨h9, h⟩ := h
                                      subst h9
                                      replace h := Prod.mk.inj h
                                      obtain ⟨h9, h⟩ := h
                                      subst h9
                                      replace h := Prod.mk.inj h
                                      obtain ⟨h9, h⟩ := h
                                      subst h9
                                      subst h
                                      refine j_widen (cl' := mc) (sl' := ms) (by omega) (by omega) ?_
                                      exact j_zret (w := [(h0, .inr (9, moF am known_h0 thrown_h0 wrong_h0 lastEnd_h0 r321 r322 r323 least_h0 found_h0)), ((am 5), .inr (8, [.ref a_all_m5, .int size_m5])), (a_all_m5, .inl (cI, n_a_all_m5, .inl b_a_all_m5)), ((am 20), .inr (8, [.ref q327, .int r324])), ((am 2), .inl (cI, n_m2, .inl b_m2)), ((am 21), .inr (8, [.ref a_all_m21, .int size_m21])), ((am 7), .inr (8, [.ref a_all_m7, .int size_m7])), (a_all_m7, .inl (cI, n_a_all_m7, .inl b_a_all_m7)), ((am 6), .inr (8, [.ref a_all_m6, .int size_m6])), (a_all_m6, .inl (cI, n_a_all_m6, .inl b_a_all_m6)), ((am 4), .inr (8, [.ref a_all_m4, .int size_m4])), (a_all_m4, .inl (cI, n_a_all_m4, .inl b_a_all_m4)), ((am 22), .inr (8, [.ref a_all_m22, .int size_m22])), (q327, .inl (cI, r325, .inl r326)), (a_all_m21, .inl (cI, n_a_all_m21, .inl b_a_all_m21)), (a_all_m22, .inl (cI, n_a_all_m22, .inl b_a_all_m22))]) hr (zb_n zb0) d_Mo_readStatement_561 [10, 12, 13, 11, 14, 0, 2, 3, 4, 5, 6, 7, 8, 15, 1, 9] rfl (by decide) ⟨q327, a_all_m21, a_all_m22, rfl, zb0, rfl⟩
                                    · replace h := it_f c334 h
                                      refine j_aload_n d_Mo_readStatement_547 rfl 1 rfl ?_
                                      refine j_bipush (v := 55) d_Mo_readStatement_548 (by decide) ?_
                                      replace h := bd_s h
                                      obtain ⟨⟨r335, r336, r337⟩, k339, h⟩ := h
                                      refine j_callV (n := 1) (As := [.int 55]) (rest := []) (wr := [((am 21), .inr (8, [.ref a_all_m21, .int size_m21])), (a_all_m21, .inl (cI, n_a_all_m21, .inl b_a_all_m21)), ((am 7), .inr (8, [.ref a_all_m7, .int size_m7])), (a_all_m7, .inl (cI, n_a_all_m7, .inl b_a_all_m7)), ((am 6), .inr (8, [.ref a_all_m6, .int size_m6])), (a_all_m6, .inl (cI, n_a_all_m6, .inl b_a_all_m6)), ((am 4), .inr (8, [.ref a_all_m4, .int size_m4])), (a_all_m4, .inl (cI, n_a_all_m4, .inl b_a_all_m4)), ((am 22), .inr (8, [.ref a_all_m22, .int size_m22])), (a_all_m22, .inl (cI, n_a_all_m22, .inl b_a_all_m22)), ((am 20), .inr (8, [.ref q327, .int r324])), ((am 2), .inl (cI, n_m2, .inl b_m2)), (q327, .inl (cI, r325, .inl r326))]) (c_Mo_take l D cI cB cJ cS h0 am a_all_m5 55 known_h0 thrown_h0 wrong_h0 lastEnd_h0 r321 r322 r323 least_h0 found_h0 size_m5 n_a_all_m5 b_a_all_m5  r335 r336 r337 k339) k_Mo_285 (by decide) ⟨Nat.le_of_ble_eq_true rfl, Nat.le_of_ble_eq_true rfl⟩ rfl 0 rfl [10, 12, 13] [0, 1, 2, 3, 4, 5, 6, 7, 8, 9, 11, 14, 15] rfl (by decide +kernel) rfl (by decide +kernel) (by decide +kernel) rfl rfl (Nat.le_of_ble_eq_true rfl) d_Mo_readStatement_550 ⟨show 0 + C329 + 0 ≤ mc by omega, show 0 + S330 + 0 ≤ ms by omega⟩ (fun v w hq => ?_)
                                      obtain ⟨rfl, z338, rfl⟩ := hq
                                      refine j_norm (pc' := 553) (st' := [.int r335]) (ws' := [((am 21), .inr (8, [.ref a_all_m21, .int size_m21])), (a_all_m21, .inl (cI, n_a_all_m21, .inl b_a_all_m21)), ((am 7), .inr (8, [.ref a_all_m7, .int size_m7])), (a_all_m7, .inl (cI, n_a_all_m7, .inl b_a_all_m7)), ((am 6), .inr (8, [.ref a_all_m6, .int size_m6])), (a_all_m6, .inl (cI, n_a_all_m6, .inl b_a_all_m6)), ((am 4), .inr (8, [.ref a_all_m4, .int size_m4])), (a_all_m4, .inl (cI, n_a_all_m4, .inl b_a_all_m4)), ((am 22), .inr (8, [.ref a_all_m22, .int size_m22])), (a_all_m22, .inl (cI, n_a_all_m22, .inl b_a_all_m22)), ((am 20), .inr (8, [.ref q327, .int r324])), ((am 2), .inl (cI, n_m2, .inl b_m2)), (q327, .inl (cI, r325, .inl r326)), (h0, .inr (9, moF am known_h0 thrown_h0 wrong_h0 lastEnd_h0 r336 r337 r323 least_h0 found_h0)), ((am 5), .inr (8, [.ref a_all_m5, .int size_m5])), (a_all_m5, .inl (cI, n_a_all_m5, .inl b_a_all_m5))]) (cl' := 0 + C329) (sl' := 0 + S330) rfl rfl rfl rfl rfl rfl ?_
                                      refine j_if_eq (tgt := 560) d_Mo_readStatement_553 (by decide) (fun c340 => ?_) (fun c340 => ?_)
                                      · replace h := it_t c340 h
                                        refine j_iconst (v := 0) d_Mo_readStatement_560 (by decide) ?_
                                        replace h := lf_s h
                                        obtain ⟨h, e1, e2⟩ := h
                                        replace h := Prod.mk.inj h
                                        obtain ⟨h9, h⟩ := h
                                        subst h9
                                        replace h := Prod.mk.inj h
                                        obtain ⟨h9, h⟩ := h
                                        subst h9
                                        replace h := Prod.mk.inj h
                                        obtain ⟨h9, h⟩ := h
                                        subst h9
                                        replace h := Prod.mk.inj h
                                        obtain ⟨h9, h⟩ := h
                                        subst h9
                                        replace h := Prod.mk.inj h
                                        obtain ⟨h9, h⟩ := h
                                        subst h9
                                        replace h := Prod.mk.inj h
                                        obtain ⟨h9, h⟩ := h
                                        subst h9
                                        replace h := Prod.mk.inj h
                                        obtain ⟨h9, h⟩ := h
                                        subst h9
                                        replace h := Prod.mk.inj h
                                        obtain ⟨h9, h⟩ := h
                                        subst h9
                                        replace h := Prod.mk.inj h
                                        obtain ⟨h9, h⟩ := h
                                        subst h9
                                        replace h := Prod.mk.inj h
                                        obtain ⟨h9, h⟩ := h
                                        subst h9
                                        replace h := Prod.mk.inj h
                                        obtain ⟨h9, h⟩ := h
                                        subst h9
                                        replace h := Prod.mk.inj h
                                        obtain ⟨h9, h⟩ := h
                                        subst h9
                                        replace h := Prod.mk.inj h
                                        obtain ⟨h9, h⟩ := h
                                        subst h9
                                        subst h
                                        refine j_widen (cl' := mc) (sl' := ms) (by omega) (by omega) ?_
                                        exact j_zret (w := [(h0, .inr (9, moF am known_h0 thrown_h0 wrong_h0 lastEnd_h0 r336 r337 r323 least_h0 found_h0)), ((am 5), .inr (8, [.ref a_all_m5, .int size_m5])), (a_all_m5, .inl (cI, n_a_all_m5, .inl b_a_all_m5)), ((am 20), .inr (8, [.ref q327, .int r324])), ((am 2), .inl (cI, n_m2, .inl b_m2)), ((am 21), .inr (8, [.ref a_all_m21, .int size_m21])), ((am 7), .inr (8, [.ref a_all_m7, .int size_m7])), (a_all_m7, .inl (cI, n_a_all_m7, .inl b_a_all_m7)), ((am 6), .inr (8, [.ref a_all_m6, .int size_m6])), (a_all_m6, .inl (cI, n_a_all_m6, .inl b_a_all_m6)), ((am 4), .inr (8, [.ref a_all_m4, .int size_m4])), (a_all_m4, .inl (cI, n_a_all_m4, .inl b_a_all_m4)), ((am 22), .inr (8, [.ref a_all_m22, .int size_m22])), (q327, .inl (cI, r325, .inl r326)), (a_all_m21, .inl (cI, n_a_all_m21, .inl b_a_all_m21)), (a_all_m22, .inl (cI, n_a_all_m22, .inl b_a_all_m22))]) hr (zb_n zb0) d_Mo_readStatement_561 [13, 14, 15, 10, 11, 0, 2, 3, 4, 5, 6, 7, 8, 12, 1, 9] rfl (by decide) ⟨q327, a_all_m21, a_all_m22, rfl, zb0, rfl⟩
                                      · replace h := it_f c340 h
                                        refine j_iconst (v := 1) d_Mo_readStatement_556 (by decide) ?_
                                        refine j_goto (tgt := 561) d_Mo_readStatement_557 (by decide) ?_
                                        replace h := lf_s h
                                        obtain ⟨h, e1, e2⟩ := h
                                        replace h := Prod.mk.inj h
                                        obtain ⟨h9, h⟩ := h
                                        subst h9
                                        replace h := Prod.mk.inj h
                                        obtain ⟨h9, h⟩ := h
                                        subst h9
                                        replace h := Prod.mk.inj h
                                        obtain ⟨h9, h⟩ := h
                                        subst h9
                                        replace h := Prod.mk.inj h
                                        obtain ⟨h9, h⟩ := h
                                        subst h9
                                        replace h := Prod.mk.inj h
                                        obtain ⟨h9, h⟩ := h
                                        subst h9
                                        replace h := Prod.mk.inj h
                                        obtain ⟨h9, h⟩ := h
                                        subst h9
                                        replace h := Prod.mk.inj h
                                        obtain ⟨h9, h⟩ := h
                                        subst h9
                                        replace h := Prod.mk.inj h
                                        obtain ⟨h9, h⟩ := h
                                        subst h9
                                        replace h := Prod.mk.inj h
                                        obtain ⟨h9, h⟩ := h
                                        subst h9
                                        replace h := Prod.mk.inj h
                                        obtain ⟨h9, h⟩ := h
                                        subst h9
                                        replace h := Prod.mk.inj h
                                        obtain ⟨h9, h⟩ := h
                                        subst h9
                                        replace h := Prod.mk.inj h
                                        obtain ⟨h9, h⟩ := h
                                        subst h9
                                        replace h := Prod.mk.inj h
                                        obtain ⟨h9, h⟩ := h
                                        subst h9
                                        subst h
                                        refine j_widen (cl' := mc) (sl' := ms) (by omega) (by omega) ?_
                                        exact j_zret (w := [(h0, .inr (9, moF am known_h0 thrown_h0 wrong_h0 lastEnd_h0 r336 r337 r323 least_h0 found_h0)), ((am 5), .inr (8, [.ref a_all_m5, .int size_m5])), (a_all_m5, .inl (cI, n_a_all_m5, .inl b_a_all_m5)), ((am 20), .inr (8, [.ref q327, .int r324])), ((am 2), .inl (cI, n_m2, .inl b_m2)), ((am 21), .inr (8, [.ref a_all_m21, .int size_m21])), ((am 7), .inr (8, [.ref a_all_m7, .int size_m7])), (a_all_m7, .inl (cI, n_a_all_m7, .inl b_a_all_m7)), ((am 6), .inr (8, [.ref a_all_m6, .int size_m6])), (a_all_m6, .inl (cI, n_a_all_m6, .inl b_a_all_m6)), ((am 4), .inr (8, [.ref a_all_m4, .int size_m4])), (a_all_m4, .inl (cI, n_a_all_m4, .inl b_a_all_m4)), ((am 22), .inr (8, [.ref a_all_m22, .int size_m22])), (q327, .inl (cI, r325, .inl r326)), (a_all_m21, .inl (cI, n_a_all_m21, .inl b_a_all_m21)), (a_all_m22, .inl (cI, n_a_all_m22, .inl b_a_all_m22))]) hr (zb_n zb1) d_Mo_readStatement_561 [13, 14, 15, 10, 11, 0, 2, 3, 4, 5, 6, 7, 8, 12, 1, 9] rfl (by decide) ⟨q327, a_all_m21, a_all_m22, rfl, zb1, rfl⟩
                                  · replace h := it_f c319 h
                                    by_cases c341 : (b_a_all_m5 (Int32.toNatClampNeg at_h0)) = 27
                                    · replace h := it_t c341 h
                                      refine j_tabIn (tgt := 540) (off := 534) d_Mo_readStatement_6 27 c341 (by decide) (by decide) (by decide) (by decide) ?_
                                      refine j_aload_n d_Mo_readStatement_540 rfl 1 rfl ?_
                                      replace h := bw_s h
                                      obtain ⟨⟨r342, r343, r344, r345, r346, r347, r348⟩, C351, S352, C353, S354, k355, h, e1, e2⟩ := h
                                      replace hC : 0 + C351 + C353 ≤ mc := by omega
                                      replace hS : 0 + S352 + S354 ≤ ms := by omega
                                      clear e1 e2
                                      refine j_callV (n := 0) (As := []) (rest := []) (wr := [((am 21), .inr (8, [.ref a_all_m21, .int size_m21])), (a_all_m21, .inl (cI, n_a_all_m21, .inl b_a_all_m21)), ((am 7), .inr (8, [.ref a_all_m7, .int size_m7])), (a_all_m7, .inl (cI, n_a_all_m7, .inl b_a_all_m7)), ((am 6), .inr (8, [.ref a_all_m6, .int size_m6])), (a_all_m6, .inl (cI, n_a_all_m6, .inl b_a_all_m6)), ((am 4), .inr (8, [.ref a_all_m4, .int size_m4])), (a_all_m4, .inl (cI, n_a_all_m4, .inl b_a_all_m4)), ((am 22), .inr (8, [.ref a_all_m22, .int size_m22])), (a_all_m22, .inl (cI, n_a_all_m22, .inl b_a_all_m22))]) (c_Mo_readWorking l D cI cB cJ cS h0 am a_all_m20 a_all_m5 known_h0 thrown_h0 wrong_h0 lastEnd_h0 at_h0 bad_h0 levels_h0 least_h0 found_h0 size_m20 size_m5 n_a_all_m5 b_a_all_m5 n_a_all_m20 b_a_all_m20 n_m2 b_m2  r342 r343 r344 r345 r346 r347 r348 C351 S352 k355) k_Mo_362 (by decide) ⟨Nat.le_of_ble_eq_true rfl, Nat.le_of_ble_eq_true rfl⟩ rfl 0 rfl [13, 0, 14, 15, 1, 2] [3, 4, 5, 6, 7, 8, 9, 10, 11, 12] rfl (by decide +kernel) rfl (by decide +kernel) (by decide +kernel) rfl rfl (Nat.le_of_ble_eq_true rfl) d_Mo_readStatement_541 ⟨show 0 + C351 ≤ mc by omega, show 0 + S352 ≤ ms by omega⟩ (fun v w hq => ?_)
                                      obtain ⟨q349, rfl, z350, rfl⟩ := hq
                                      refine j_norm (pc' := 544) (st' := [.int r342]) (ws' := [((am 21), .inr (8, [.ref a_all_m21, .int size_m21])), (a_all_m21, .inl (cI, n_a_all_m21, .inl b_a_all_m21)), ((am 7), .inr (8, [.ref a_all_m7, .int size_m7])), (a_all_m7, .inl (cI, n_a_all_m7, .inl b_a_all_m7)), ((am 6), .inr (8, [.ref a_all_m6, .int size_m6])), (a_all_m6, .inl (cI, n_a_all_m6, .inl b_a_all_m6)), ((am 4), .inr (8, [.ref a_all_m4, .int size_m4])), (a_all_m4, .inl (cI, n_a_all_m4, .inl b_a_all_m4)), ((am 22), .inr (8, [.ref a_all_m22, .int size_m22])), (a_all_m22, .inl (cI, n_a_all_m22, .inl b_a_all_m22)), (h0, .inr (9, moF am known_h0 thrown_h0 wrong_h0 lastEnd_h0 r343 r344 r345 least_h0 found_h0)), ((am 20), .inr (8, [.ref q349, .int r346])), ((am 5), .inr (8, [.ref a_all_m5, .int size_m5])), (a_all_m5, .inl (cI, n_a_all_m5, .inl b_a_all_m5)), ((am 2), .inl (cI, n_m2, .inl b_m2)), (q349, .inl (cI, r347, .inl r348))]) (cl' := 0 + C351) (sl' := 0 + S352) rfl rfl rfl rfl rfl rfl ?_
                                      refine j_if_eq (tgt := 560) d_Mo_readStatement_544 (by decide) (fun c356 => ?_) (fun c356 => ?_)
                                      · replace h := it_t c356 h
                                        refine j_iconst (v := 0) d_Mo_readStatement_560 (by decide) ?_
                                        replace h := lf_s h
                                        obtain ⟨h, e1, e2⟩ := h
                                        replace h := Prod.mk.inj h
                                        obtain ⟨h9, h⟩ := h
                                        subst h9
                                        replace h := Prod.mk.inj h
                                        obtain ⟨h9, h⟩ := h
                                        subst h9
                                        replace h := Prod.mk.inj h
                                        obtain ⟨h9, h⟩ := h
                                        subst h9
                                        replace h := Prod.mk.inj h
                                        obtain ⟨h9, h⟩ := h
                                        subst h9
                                        replace h := Prod.mk.inj h
                                        obtain ⟨h9, h⟩ := h
                                        subst h9
                                        replace h := Prod.mk.inj h
                                        obtain ⟨h9, h⟩ := h
                                        subst h9
                                        replace h := Prod.mk.inj h
                                        obtain ⟨h9, h⟩ := h
                                        subst h9
                                        replace h := Prod.mk.inj h
                                        obtain ⟨h9, h⟩ := h
                                        subst h9
                                        replace h := Prod.mk.inj h
                                        obtain ⟨h9, h⟩ := h
                                        subst h9
                                        replace h := Prod.mk.inj h
                                        obtain ⟨h9, h⟩ := h
                                        subst h9
                                        replace h := Prod.mk.inj h
                                        obtain ⟨h9, h⟩ := h
                                        subst h9
                                        replace h := Prod.mk.inj h
                                        obtain ⟨h9, h⟩ := h
                                        subst h9
                                        replace h := Prod.mk.inj h
                                        obtain ⟨h9, h⟩ := h
                                        subst h9
                                        subst h
                                        refine j_widen (cl' := mc) (sl' := ms) (by omega) (by omega) ?_
                                        exact j_zret (w := [(h0, .inr (9, moF am known_h0 thrown_h0 wrong_h0 lastEnd_h0 r343 r344 r345 least_h0 found_h0)), ((am 5), .inr (8, [.ref a_all_m5, .int size_m5])), (a_all_m5, .inl (cI, n_a_all_m5, .inl b_a_all_m5)), ((am 20), .inr (8, [.ref q349, .int r346])), ((am 2), .inl (cI, n_m2, .inl b_m2)), ((am 21), .inr (8, [.ref a_all_m21, .int size_m21])), ((am 7), .inr (8, [.ref a_all_m7, .int size_m7])), (a_all_m7, .inl (cI, n_a_all_m7, .inl b_a_all_m7)), ((am 6), .inr (8, [.ref a_all_m6, .int size_m6])), (a_all_m6, .inl (cI, n_a_all_m6, .inl b_a_all_m6)), ((am 4), .inr (8, [.ref a_all_m4, .int size_m4])), (a_all_m4, .inl (cI, n_a_all_m4, .inl b_a_all_m4)), ((am 22), .inr (8, [.ref a_all_m22, .int size_m22])), (q349, .inl (cI, r347, .inl r348)), (a_all_m21, .inl (cI, n_a_all_m21, .inl b_a_all_m21)), (a_all_m22, .inl (cI, n_a_all_m22, .inl b_a_all_m22))]) hr (zb_n zb0) d_Mo_readStatement_561 [10, 12, 13, 11, 14, 0, 2, 3, 4, 5, 6, 7, 8, 15, 1, 9] rfl (by decide) ⟨q349, a_all_m21, a_all_m22, rfl, zb0, rfl⟩
                                      · replace h := it_f c356 h
                                        refine j_aload_n d_Mo_readStatement_547 rfl 1 rfl ?_
                                        refine j_bipush (v := 55) d_Mo_readStatement_548 (by decide) ?_
                                        replace h := bd_s h
                                        obtain ⟨⟨r357, r358, r359⟩, k361, h⟩ := h
                                        refine j_callV (n := 1) (As := [.int 55]) (rest := []) (wr := [((am 21), .inr (8, [.ref a_all_m21, .int size_m21])), (a_all_m21, .inl (cI, n_a_all_m21, .inl b_a_all_m21)), ((am 7), .inr (8, [.ref a_all_m7, .int size_m7])), (a_all_m7, .inl (cI, n_a_all_m7, .inl b_a_all_m7)), ((am 6), .inr (8, [.ref a_all_m6, .int size_m6])), (a_all_m6, .inl (cI, n_a_all_m6, .inl b_a_all_m6)), ((am 4), .inr (8, [.ref a_all_m4, .int size_m4])), (a_all_m4, .inl (cI, n_a_all_m4, .inl b_a_all_m4)), ((am 22), .inr (8, [.ref a_all_m22, .int size_m22])), (a_all_m22, .inl (cI, n_a_all_m22, .inl b_a_all_m22)), ((am 20), .inr (8, [.ref q349, .int r346])), ((am 2), .inl (cI, n_m2, .inl b_m2)), (q349, .inl (cI, r347, .inl r348))]) (c_Mo_take l D cI cB cJ cS h0 am a_all_m5 55 known_h0 thrown_h0 wrong_h0 lastEnd_h0 r343 r344 r345 least_h0 found_h0 size_m5 n_a_all_m5 b_a_all_m5  r357 r358 r359 k361) k_Mo_285 (by decide) ⟨Nat.le_of_ble_eq_true rfl, Nat.le_of_ble_eq_true rfl⟩ rfl 0 rfl [10, 12, 13] [0, 1, 2, 3, 4, 5, 6, 7, 8, 9, 11, 14, 15] rfl (by decide +kernel) rfl (by decide +kernel) (by decide +kernel) rfl rfl (Nat.le_of_ble_eq_true rfl) d_Mo_readStatement_550 ⟨show 0 + C351 + 0 ≤ mc by omega, show 0 + S352 + 0 ≤ ms by omega⟩ (fun v w hq => ?_)
                                        obtain ⟨rfl, z360, rfl⟩ := hq
                                        refine j_norm (pc' := 553) (st' := [.int r357]) (ws' := [((am 21), .inr (8, [.ref a_all_m21, .int size_m21])), (a_all_m21, .inl (cI, n_a_all_m21, .inl b_a_all_m21)), ((am 7), .inr (8, [.ref a_all_m7, .int size_m7])), (a_all_m7, .inl (cI, n_a_all_m7, .inl b_a_all_m7)), ((am 6), .inr (8, [.ref a_all_m6, .int size_m6])), (a_all_m6, .inl (cI, n_a_all_m6, .inl b_a_all_m6)), ((am 4), .inr (8, [.ref a_all_m4, .int size_m4])), (a_all_m4, .inl (cI, n_a_all_m4, .inl b_a_all_m4)), ((am 22), .inr (8, [.ref a_all_m22, .int size_m22])), (a_all_m22, .inl (cI, n_a_all_m22, .inl b_a_all_m22)), ((am 20), .inr (8, [.ref q349, .int r346])), ((am 2), .inl (cI, n_m2, .inl b_m2)), (q349, .inl (cI, r347, .inl r348)), (h0, .inr (9, moF am known_h0 thrown_h0 wrong_h0 lastEnd_h0 r358 r359 r345 least_h0 found_h0)), ((am 5), .inr (8, [.ref a_all_m5, .int size_m5])), (a_all_m5, .inl (cI, n_a_all_m5, .inl b_a_all_m5))]) (cl' := 0 + C351) (sl' := 0 + S352) rfl rfl rfl rfl rfl rfl ?_
                                        refine j_if_eq (tgt := 560) d_Mo_readStatement_553 (by decide) (fun c362 => ?_) (fun c362 => ?_)
                                        · replace h := it_t c362 h
                                          refine j_iconst (v := 0) d_Mo_readStatement_560 (by decide) ?_
                                          replace h := lf_s h
                                          obtain ⟨h, e1, e2⟩ := h
                                          replace h := Prod.mk.inj h
                                          obtain ⟨h9, h⟩ := h
                                          subst h9
                                          replace h := Prod.mk.inj h
                                          obtain ⟨h9, h⟩ := h
                                          subst h9
                                          replace h := Prod.mk.inj h
                                          obtain ⟨h9, h⟩ := h
                                          subst h9
                                          replace h := Prod.mk.inj h
                                          obtain ⟨h9, h⟩ := h
                                          subst h9
                                          replace h := Prod.mk.inj h
                                          obtain ⟨h9, h⟩ := h
                                          subst h9
                                          replace h := Prod.mk.inj h
                                          obtain ⟨h9, h⟩ := h
                                          subst h9
                                          replace h := Prod.mk.inj h
                                          obtain ⟨h9, h⟩ := h
                                          subst h9
                                          replace h := Prod.mk.inj h
                                          obtain ⟨h9, h⟩ := h
                                          subst h9
                                          replace h := Prod.mk.inj h
                                          obtain ⟨h9, h⟩ := h
                                          subst h9
                                          replace h := Prod.mk.inj h
                                          obtain ⟨h9, h⟩ := h
                                          subst h9
                                          replace h := Prod.mk.inj h
                                          obtain ⟨h9, h⟩ := h
                                          subst h9
                                          replace h := Prod.mk.inj h
                                          obtain ⟨h9, h⟩ := h
                                          subst h9
                                          replace h := Prod.mk.inj h
                                          obtain ⟨h9, h⟩ := h
                                          subst h9
                                          subst h
                                          refine j_widen (cl' := mc) (sl' := ms) (by omega) (by omega) ?_
                                          exact j_zret (w := [(h0, .inr (9, moF am known_h0 thrown_h0 wrong_h0 lastEnd_h0 r358 r359 r345 least_h0 found_h0)), ((am 5), .inr (8, [.ref a_all_m5, .int size_m5])), (a_all_m5, .inl (cI, n_a_all_m5, .inl b_a_all_m5)), ((am 20), .inr (8, [.ref q349, .int r346])), ((am 2), .inl (cI, n_m2, .inl b_m2)), ((am 21), .inr (8, [.ref a_all_m21, .int size_m21])), ((am 7), .inr (8, [.ref a_all_m7, .int size_m7])), (a_all_m7, .inl (cI, n_a_all_m7, .inl b_a_all_m7)), ((am 6), .inr (8, [.ref a_all_m6, .int size_m6])), (a_all_m6, .inl (cI, n_a_all_m6, .inl b_a_all_m6)), ((am 4), .inr (8, [.ref a_all_m4, .int size_m4])), (a_all_m4, .inl (cI, n_a_all_m4, .inl b_a_all_m4)), ((am 22), .inr (8, [.ref a_all_m22, .int size_m22])), (q349, .inl (cI, r347, .inl r348)), (a_all_m21, .inl (cI, n_a_all_m21, .inl b_a_all_m21)), (a_all_m22, .inl (cI, n_a_all_m22, .inl b_a_all_m22))]) hr (zb_n zb0) d_Mo_readStatement_561 [13, 14, 15, 10, 11, 0, 2, 3, 4, 5, 6, 7, 8, 12, 1, 9] rfl (by decide) ⟨q349, a_all_m21, a_all_m22, rfl, zb0, rfl⟩
                                        · replace h := it_f c362 h
                                          refine j_iconst (v := 1) d_Mo_readStatement_556 (by decide) ?_
                                          refine j_goto (tgt := 561) d_Mo_readStatement_557 (by decide) ?_
                                          replace h := lf_s h
                                          obtain ⟨h, e1, e2⟩ := h
                                          replace h := Prod.mk.inj h
                                          obtain ⟨h9, h⟩ := h
                                          subst h9
                                          replace h := Prod.mk.inj h
                                          obtain ⟨h9, h⟩ := h
                                          subst h9
                                          replace h := Prod.mk.inj h
                                          obtain ⟨h9, h⟩ := h
                                          subst h9
                                          replace h := Prod.mk.inj h
                                          obtain ⟨h9, h⟩ := h
                                          subst h9
                                          replace h := Prod.mk.inj h
                                          obtain ⟨h9, h⟩ := h
                                          subst h9
                                          replace h := Prod.mk.inj h
                                          obtain ⟨h9, h⟩ := h
                                          subst h9
                                          replace h := Prod.mk.inj h
                                          obtain ⟨h9, h⟩ := h
                                          subst h9
                                          replace h := Prod.mk.inj h
                                          obtain ⟨h9, h⟩ := h
                                          subst h9
                                          replace h := Prod.mk.inj h
                                          obtain ⟨h9, h⟩ := h
                                          subst h9
                                          replace h := Prod.mk.inj h
                                          obtain ⟨h9, h⟩ := h
                                          subst h9
                                          replace h := Prod.mk.inj h
                                          obtain ⟨h9, h⟩ := h
                                          subst h9
                                          replace h := Prod.mk.inj h
                                          obtain ⟨h9, h⟩ := h
                                          subst h9
                                          replace h := Prod.mk.inj h
                                          obtain ⟨h9, h⟩ := h
                                          subst h9
                                          subst h
                                          refine j_widen (cl' := mc) (sl' := ms) (by omega) (by omega) ?_
                                          exact j_zret (w := [(h0, .inr (9, moF am known_h0 thrown_h0 wrong_h0 lastEnd_h0 r358 r359 r345 least_h0 found_h0)), ((am 5), .inr (8, [.ref a_all_m5, .int size_m5])), (a_all_m5, .inl (cI, n_a_all_m5, .inl b_a_all_m5)), ((am 20), .inr (8, [.ref q349, .int r346])), ((am 2), .inl (cI, n_m2, .inl b_m2)), ((am 21), .inr (8, [.ref a_all_m21, .int size_m21])), ((am 7), .inr (8, [.ref a_all_m7, .int size_m7])), (a_all_m7, .inl (cI, n_a_all_m7, .inl b_a_all_m7)), ((am 6), .inr (8, [.ref a_all_m6, .int size_m6])), (a_all_m6, .inl (cI, n_a_all_m6, .inl b_a_all_m6)), ((am 4), .inr (8, [.ref a_all_m4, .int size_m4])), (a_all_m4, .inl (cI, n_a_all_m4, .inl b_a_all_m4)), ((am 22), .inr (8, [.ref a_all_m22, .int size_m22])), (q349, .inl (cI, r347, .inl r348)), (a_all_m21, .inl (cI, n_a_all_m21, .inl b_a_all_m21)), (a_all_m22, .inl (cI, n_a_all_m22, .inl b_a_all_m22))]) hr (zb_n zb1) d_Mo_readStatement_561 [13, 14, 15, 10, 11, 0, 2, 3, 4, 5, 6, 7, 8, 12, 1, 9] rfl (by decide) ⟨q349, a_all_m21, a_all_m22, rfl, zb1, rfl⟩
                                    · replace h := it_f c341 h
                                      by_cases c363 : (b_a_all_m5 (Int32.toNatClampNeg at_h0)) = 28
                                      · replace h := it_t c363 h
                                        refine j_tabIn (tgt := 540) (off := 534) d_Mo_readStatement_6 28 c363 (by decide) (by decide) (by decide) (by decide) ?_
                                        refine j_aload_n d_Mo_readStatement_540 rfl 1 rfl ?_
                                        replace h := bw_s h
                                        obtain ⟨⟨r364, r365, r366, r367, r368, r369, r370⟩, C373, S374, C375, S376, k377, h, e1, e2⟩ := h
                                        replace hC : 0 + C373 + C375 ≤ mc := by omega
                                        replace hS : 0 + S374 + S376 ≤ ms := by omega
                                        clear e1 e2
                                        refine j_callV (n := 0) (As := []) (rest := []) (wr := [((am 21), .inr (8, [.ref a_all_m21, .int size_m21])), (a_all_m21, .inl (cI, n_a_all_m21, .inl b_a_all_m21)), ((am 7), .inr (8, [.ref a_all_m7, .int size_m7])), (a_all_m7, .inl (cI, n_a_all_m7, .inl b_a_all_m7)), ((am 6), .inr (8, [.ref a_all_m6, .int size_m6])), (a_all_m6, .inl (cI, n_a_all_m6, .inl b_a_all_m6)), ((am 4), .inr (8, [.ref a_all_m4, .int size_m4])), (a_all_m4, .inl (cI, n_a_all_m4, .inl b_a_all_m4)), ((am 22), .inr (8, [.ref a_all_m22, .int size_m22])), (a_all_m22, .inl (cI, n_a_all_m22, .inl b_a_all_m22))]) (c_Mo_readWorking l D cI cB cJ cS h0 am a_all_m20 a_all_m5 known_h0 thrown_h0 wrong_h0 lastEnd_h0 at_h0 bad_h0 levels_h0 least_h0 found_h0 size_m20 size_m5 n_a_all_m5 b_a_all_m5 n_a_all_m20 b_a_all_m20 n_m2 b_m2  r364 r365 r366 r367 r368 r369 r370 C373 S374 k377) k_Mo_362 (by decide) ⟨Nat.le_of_ble_eq_true rfl, Nat.le_of_ble_eq_true rfl⟩ rfl 0 rfl [13, 0, 14, 15, 1, 2] [3, 4, 5, 6, 7, 8, 9, 10, 11, 12] rfl (by decide +kernel) rfl (by decide +kernel) (by decide +kernel) rfl rfl (Nat.le_of_ble_eq_true rfl) d_Mo_readStatement_541 ⟨show 0 + C373 ≤ mc by omega, show 0 + S374 ≤ ms by omega⟩ (fun v w hq => ?_)
                                        obtain ⟨q371, rfl, z372, rfl⟩ := hq
                                        refine j_norm (pc' := 544) (st' := [.int r364]) (ws' := [((am 21), .inr (8, [.ref a_all_m21, .int size_m21])), (a_all_m21, .inl (cI, n_a_all_m21, .inl b_a_all_m21)), ((am 7), .inr (8, [.ref a_all_m7, .int size_m7])), (a_all_m7, .inl (cI, n_a_all_m7, .inl b_a_all_m7)), ((am 6), .inr (8, [.ref a_all_m6, .int size_m6])), (a_all_m6, .inl (cI, n_a_all_m6, .inl b_a_all_m6)), ((am 4), .inr (8, [.ref a_all_m4, .int size_m4])), (a_all_m4, .inl (cI, n_a_all_m4, .inl b_a_all_m4)), ((am 22), .inr (8, [.ref a_all_m22, .int size_m22])), (a_all_m22, .inl (cI, n_a_all_m22, .inl b_a_all_m22)), (h0, .inr (9, moF am known_h0 thrown_h0 wrong_h0 lastEnd_h0 r365 r366 r367 least_h0 found_h0)), ((am 20), .inr (8, [.ref q371, .int r368])), ((am 5), .inr (8, [.ref a_all_m5, .int size_m5])), (a_all_m5, .inl (cI, n_a_all_m5, .inl b_a_all_m5)), ((am 2), .inl (cI, n_m2, .inl b_m2)), (q371, .inl (cI, r369, .inl r370))]) (cl' := 0 + C373) (sl' := 0 + S374) rfl rfl rfl rfl rfl rfl ?_
                                        refine j_if_eq (tgt := 560) d_Mo_readStatement_544 (by decide) (fun c378 => ?_) (fun c378 => ?_)
                                        · replace h := it_t c378 h
                                          refine j_iconst (v := 0) d_Mo_readStatement_560 (by decide) ?_
                                          replace h := lf_s h
                                          obtain ⟨h, e1, e2⟩ := h
                                          replace h := Prod.mk.inj h
                                          obtain ⟨h9, h⟩ := h
                                          subst h9
                                          replace h := Prod.mk.inj h
                                          obtain ⟨h9, h⟩ := h
                                          subst h9
                                          replace h := Prod.mk.inj h
                                          obtain ⟨h9, h⟩ := h
                                          subst h9
                                          replace h := Prod.mk.inj h
                                          obtain ⟨h9, h⟩ := h
                                          subst h9
                                          replace h := Prod.mk.inj h
                                          obtain ⟨h9, h⟩ := h
                                          subst h9
                                          replace h := Prod.mk.inj h
                                          obtain ⟨h9, h⟩ := h
                                          subst h9
                                          replace h := Prod.mk.inj h
                                          obtain ⟨h9, h⟩ := h
                                          subst h9
                                          replace h := Prod.mk.inj h
                                          obtain ⟨h9, h⟩ := h
                                          subst h9
                                          replace h := Prod.mk.inj h
                                          obtain ⟨h9, h⟩ := h
                                          subst h9
                                          replace h := Prod.mk.inj h
                                          obtain ⟨h9, h⟩ := h
                                          subst h9
                                          replace h := Prod.mk.inj h
                                          obtain ⟨h9, h⟩ := h
                                          subst h9
                                          replace h := Prod.mk.inj h
                                          obtain ⟨h9, h⟩ := h
                                          subst h9
                                          replace h := Prod.mk.inj h
                                          obtain ⟨h9, h⟩ := h
                                          subst h9
                                          subst h
                                          refine j_widen (cl' := mc) (sl' := ms) (by omega) (by omega) ?_
                                          exact j_zret (w := [(h0, .inr (9, moF am known_h0 thrown_h0 wrong_h0 lastEnd_h0 r365 r366 r367 least_h0 found_h0)), ((am 5), .inr (8, [.ref a_all_m5, .int size_m5])), (a_all_m5, .inl (cI, n_a_all_m5, .inl b_a_all_m5)), ((am 20), .inr (8, [.ref q371, .int r368])), ((am 2), .inl (cI, n_m2, .inl b_m2)), ((am 21), .inr (8, [.ref a_all_m21, .int size_m21])), ((am 7), .inr (8, [.ref a_all_m7, .int size_m7])), (a_all_m7, .inl (cI, n_a_all_m7, .inl b_a_all_m7)), ((am 6), .inr (8, [.ref a_all_m6, .int size_m6])), (a_all_m6, .inl (cI, n_a_all_m6, .inl b_a_all_m6)), ((am 4), .inr (8, [.ref a_all_m4, .int size_m4])), (a_all_m4, .inl (cI, n_a_all_m4, .inl b_a_all_m4)), ((am 22), .inr (8, [.ref a_all_m22, .int size_m22])), (q371, .inl (cI, r369, .inl r370)), (a_all_m21, .inl (cI, n_a_all_m21, .inl b_a_all_m21)), (a_all_m22, .inl (cI, n_a_all_m22, .inl b_a_all_m22))]) hr (zb_n zb0) d_Mo_readStatement_561 [10, 12, 13, 11, 14, 0, 2, 3, 4, 5, 6, 7, 8, 15, 1, 9] rfl (by decide) ⟨q371, a_all_m21, a_all_m22, rfl, zb0, rfl⟩
                                        · replace h := it_f c378 h
                                          refine j_aload_n d_Mo_readStatement_547 rfl 1 rfl ?_
                                          refine j_bipush (v := 55) d_Mo_readStatement_548 (by decide) ?_
                                          replace h := bd_s h
                                          obtain ⟨⟨r379, r380, r381⟩, k383, h⟩ := h
                                          refine j_callV (n := 1) (As := [.int 55]) (rest := []) (wr := [((am 21), .inr (8, [.ref a_all_m21, .int size_m21])), (a_all_m21, .inl (cI, n_a_all_m21, .inl b_a_all_m21)), ((am 7), .inr (8, [.ref a_all_m7, .int size_m7])), (a_all_m7, .inl (cI, n_a_all_m7, .inl b_a_all_m7)), ((am 6), .inr (8, [.ref a_all_m6, .int size_m6])), (a_all_m6, .inl (cI, n_a_all_m6, .inl b_a_all_m6)), ((am 4), .inr (8, [.ref a_all_m4, .int size_m4])), (a_all_m4, .inl (cI, n_a_all_m4, .inl b_a_all_m4)), ((am 22), .inr (8, [.ref a_all_m22, .int size_m22])), (a_all_m22, .inl (cI, n_a_all_m22, .inl b_a_all_m22)), ((am 20), .inr (8, [.ref q371, .int r368])), ((am 2), .inl (cI, n_m2, .inl b_m2)), (q371, .inl (cI, r369, .inl r370))]) (c_Mo_take l D cI cB cJ cS h0 am a_all_m5 55 known_h0 thrown_h0 wrong_h0 lastEnd_h0 r365 r366 r367 least_h0 found_h0 size_m5 n_a_all_m5 b_a_all_m5  r379 r380 r381 k383) k_Mo_285 (by decide) ⟨Nat.le_of_ble_eq_true rfl, Nat.le_of_ble_eq_true rfl⟩ rfl 0 rfl [10, 12, 13] [0, 1, 2, 3, 4, 5, 6, 7, 8, 9, 11, 14, 15] rfl (by decide +kernel) rfl (by decide +kernel) (by decide +kernel) rfl rfl (Nat.le_of_ble_eq_true rfl) d_Mo_readStatement_550 ⟨show 0 + C373 + 0 ≤ mc by omega, show 0 + S374 + 0 ≤ ms by omega⟩ (fun v w hq => ?_)
                                          obtain ⟨rfl, z382, rfl⟩ := hq
                                          refine j_norm (pc' := 553) (st' := [.int r379]) (ws' := [((am 21), .inr (8, [.ref a_all_m21, .int size_m21])), (a_all_m21, .inl (cI, n_a_all_m21, .inl b_a_all_m21)), ((am 7), .inr (8, [.ref a_all_m7, .int size_m7])), (a_all_m7, .inl (cI, n_a_all_m7, .inl b_a_all_m7)), ((am 6), .inr (8, [.ref a_all_m6, .int size_m6])), (a_all_m6, .inl (cI, n_a_all_m6, .inl b_a_all_m6)), ((am 4), .inr (8, [.ref a_all_m4, .int size_m4])), (a_all_m4, .inl (cI, n_a_all_m4, .inl b_a_all_m4)), ((am 22), .inr (8, [.ref a_all_m22, .int size_m22])), (a_all_m22, .inl (cI, n_a_all_m22, .inl b_a_all_m22)), ((am 20), .inr (8, [.ref q371, .int r368])), ((am 2), .inl (cI, n_m2, .inl b_m2)), (q371, .inl (cI, r369, .inl r370)), (h0, .inr (9, moF am known_h0 thrown_h0 wrong_h0 lastEnd_h0 r380 r381 r367 least_h0 found_h0)), ((am 5), .inr (8, [.ref a_all_m5, .int size_m5])), (a_all_m5, .inl (cI, n_a_all_m5, .inl b_a_all_m5))]) (cl' := 0 + C373) (sl' := 0 + S374) rfl rfl rfl rfl rfl rfl ?_
                                          refine j_if_eq (tgt := 560) d_Mo_readStatement_553 (by decide) (fun c384 => ?_) (fun c384 => ?_)
                                          · replace h := it_t c384 h
                                            refine j_iconst (v := 0) d_Mo_readStatement_560 (by decide) ?_
                                            replace h := lf_s h
                                            obtain ⟨h, e1, e2⟩ := h
                                            replace h := Prod.mk.inj h
                                            obtain ⟨h9, h⟩ := h
                                            subst h9
                                            replace h := Prod.mk.inj h
                                            obtain ⟨h9, h⟩ := h
                                            subst h9
                                            replace h := Prod.mk.inj h
                                            obtain ⟨h9, h⟩ := h
                                            subst h9
                                            replace h := Prod.mk.inj h
                                            obtain ⟨h9, h⟩ := h
                                            subst h9
                                            replace h := Prod.mk.inj h
                                            obtain ⟨h9, h⟩ := h
                                            subst h9
                                            replace h := Prod.mk.inj h
                                            obtain ⟨h9, h⟩ := h
                                            subst h9
                                            replace h := Prod.mk.inj h
                                            obtain ⟨h9, h⟩ := h
                                            subst h9
                                            replace h := Prod.mk.inj h
                                            obtain ⟨h9, h⟩ := h
                                            subst h9
                                            replace h := Prod.mk.inj h
                                            obtain ⟨h9, h⟩ := h
                                            subst h9
                                            replace h := Prod.mk.inj h
                                            obtain ⟨h9, h⟩ := h
                                            subst h9
                                            replace h := Prod.mk.inj h
                                            obtain ⟨h9, h⟩ := h
                                            subst h9
                                            replace h := Prod.mk.inj h
                                            obtain ⟨h9, h⟩ := h
                                            subst h9
                                            replace h := Prod.mk.inj h
                                            obtain ⟨h9, h⟩ := h
                                            subst h9
                                            subst h
                                            refine j_widen (cl' := mc) (sl' := ms) (by omega) (by omega) ?_
                                            exact j_zret (w := [(h0, .inr (9, moF am known_h0 thrown_h0 wrong_h0 lastEnd_h0 r380 r381 r367 least_h0 found_h0)), ((am 5), .inr (8, [.ref a_all_m5, .int size_m5])), (a_all_m5, .inl (cI, n_a_all_m5, .inl b_a_all_m5)), ((am 20), .inr (8, [.ref q371, .int r368])), ((am 2), .inl (cI, n_m2, .inl b_m2)), ((am 21), .inr (8, [.ref a_all_m21, .int size_m21])), ((am 7), .inr (8, [.ref a_all_m7, .int size_m7])), (a_all_m7, .inl (cI, n_a_all_m7, .inl b_a_all_m7)), ((am 6), .inr (8, [.ref a_all_m6, .int size_m6])), (a_all_m6, .inl (cI, n_a_all_m6, .inl b_a_all_m6)), ((am 4), .inr (8, [.ref a_all_m4, .int size_m4])), (a_all_m4, .inl (cI, n_a_all_m4, .inl b_a_all_m4)), ((am 22), .inr (8, [.ref a_all_m22, .int size_m22])), (q371, .inl (cI, r369, .inl r370)), (a_all_m21, .inl (cI, n_a_all_m21, .inl b_a_all_m21)), (a_all_m22, .inl (cI, n_a_all_m22, .inl b_a_all_m22))]) hr (zb_n zb0) d_Mo_readStatement_561 [13, 14, 15, 10, 11, 0, 2, 3, 4, 5, 6, 7, 8, 12, 1, 9] rfl (by decide) ⟨q371, a_all_m21, a_all_m22, rfl, zb0, rfl⟩
                                          · replace h := it_f c384 h
                                            refine j_iconst (v := 1) d_Mo_readStatement_556 (by decide) ?_
                                            refine j_goto (tgt := 561) d_Mo_readStatement_557 (by decide) ?_
                                            replace h := lf_s h
                                            obtain ⟨h, e1, e2⟩ := h
                                            replace h := Prod.mk.inj h
                                            obtain ⟨h9, h⟩ := h
                                            subst h9
                                            replace h := Prod.mk.inj h
                                            obtain ⟨h9, h⟩ := h
                                            subst h9
                                            replace h := Prod.mk.inj h
                                            obtain ⟨h9, h⟩ := h
                                            subst h9
                                            replace h := Prod.mk.inj h
                                            obtain ⟨h9, h⟩ := h
                                            subst h9
                                            replace h := Prod.mk.inj h
                                            obtain ⟨h9, h⟩ := h
                                            subst h9
                                            replace h := Prod.mk.inj h
                                            obtain ⟨h9, h⟩ := h
                                            subst h9
                                            replace h := Prod.mk.inj h
                                            obtain ⟨h9, h⟩ := h
                                            subst h9
                                            replace h := Prod.mk.inj h
                                            obtain ⟨h9, h⟩ := h
                                            subst h9
                                            replace h := Prod.mk.inj h
                                            obtain ⟨h9, h⟩ := h
                                            subst h9
                                            replace h := Prod.mk.inj h
                                            obtain ⟨h9, h⟩ := h
                                            subst h9
                                            replace h := Prod.mk.inj h
                                            obtain ⟨h9, h⟩ := h
                                            subst h9
                                            replace h := Prod.mk.inj h
                                            obtain ⟨h9, h⟩ := h
                                            subst h9
                                            replace h := Prod.mk.inj h
                                            obtain ⟨h9, h⟩ := h
                                            subst h9
                                            subst h
                                            refine j_widen (cl' := mc) (sl' := ms) (by omega) (by omega) ?_
                                            exact j_zret (w := [(h0, .inr (9, moF am known_h0 thrown_h0 wrong_h0 lastEnd_h0 r380 r381 r367 least_h0 found_h0)), ((am 5), .inr (8, [.ref a_all_m5, .int size_m5])), (a_all_m5, .inl (cI, n_a_all_m5, .inl b_a_all_m5)), ((am 20), .inr (8, [.ref q371, .int r368])), ((am 2), .inl (cI, n_m2, .inl b_m2)), ((am 21), .inr (8, [.ref a_all_m21, .int size_m21])), ((am 7), .inr (8, [.ref a_all_m7, .int size_m7])), (a_all_m7, .inl (cI, n_a_all_m7, .inl b_a_all_m7)), ((am 6), .inr (8, [.ref a_all_m6, .int size_m6])), (a_all_m6, .inl (cI, n_a_all_m6, .inl b_a_all_m6)), ((am 4), .inr (8, [.ref a_all_m4, .int size_m4])), (a_all_m4, .inl (cI, n_a_all_m4, .inl b_a_all_m4)), ((am 22), .inr (8, [.ref a_all_m22, .int size_m22])), (q371, .inl (cI, r369, .inl r370)), (a_all_m21, .inl (cI, n_a_all_m21, .inl b_a_all_m21)), (a_all_m22, .inl (cI, n_a_all_m22, .inl b_a_all_m22))]) hr (zb_n zb1) d_Mo_readStatement_561 [13, 14, 15, 10, 11, 0, 2, 3, 4, 5, 6, 7, 8, 12, 1, 9] rfl (by decide) ⟨q371, a_all_m21, a_all_m22, rfl, zb1, rfl⟩
                                      · replace h := it_f c363 h
                                        by_cases c385 : (b_a_all_m5 (Int32.toNatClampNeg at_h0)) = 29
                                        · replace h := it_t c385 h
                                          refine j_tabIn (tgt := 540) (off := 534) d_Mo_readStatement_6 29 c385 (by decide) (by decide) (by decide) (by decide) ?_
                                          refine j_aload_n d_Mo_readStatement_540 rfl 1 rfl ?_
                                          replace h := bw_s h
                                          obtain ⟨⟨r386, r387, r388, r389, r390, r391, r392⟩, C395, S396, C397, S398, k399, h, e1, e2⟩ := h
                                          replace hC : 0 + C395 + C397 ≤ mc := by omega
                                          replace hS : 0 + S396 + S398 ≤ ms := by omega
                                          clear e1 e2
                                          refine j_callV (n := 0) (As := []) (rest := []) (wr := [((am 21), .inr (8, [.ref a_all_m21, .int size_m21])), (a_all_m21, .inl (cI, n_a_all_m21, .inl b_a_all_m21)), ((am 7), .inr (8, [.ref a_all_m7, .int size_m7])), (a_all_m7, .inl (cI, n_a_all_m7, .inl b_a_all_m7)), ((am 6), .inr (8, [.ref a_all_m6, .int size_m6])), (a_all_m6, .inl (cI, n_a_all_m6, .inl b_a_all_m6)), ((am 4), .inr (8, [.ref a_all_m4, .int size_m4])), (a_all_m4, .inl (cI, n_a_all_m4, .inl b_a_all_m4)), ((am 22), .inr (8, [.ref a_all_m22, .int size_m22])), (a_all_m22, .inl (cI, n_a_all_m22, .inl b_a_all_m22))]) (c_Mo_readWorking l D cI cB cJ cS h0 am a_all_m20 a_all_m5 known_h0 thrown_h0 wrong_h0 lastEnd_h0 at_h0 bad_h0 levels_h0 least_h0 found_h0 size_m20 size_m5 n_a_all_m5 b_a_all_m5 n_a_all_m20 b_a_all_m20 n_m2 b_m2  r386 r387 r388 r389 r390 r391 r392 C395 S396 k399) k_Mo_362 (by decide) ⟨Nat.le_of_ble_eq_true rfl, Nat.le_of_ble_eq_true rfl⟩ rfl 0 rfl [13, 0, 14, 15, 1, 2] [3, 4, 5, 6, 7, 8, 9, 10, 11, 12] rfl (by decide +kernel) rfl (by decide +kernel) (by decide +kernel) rfl rfl (Nat.le_of_ble_eq_true rfl) d_Mo_readStatement_541 ⟨show 0 + C395 ≤ mc by omega, show 0 + S396 ≤ ms by omega⟩ (fun v w hq => ?_)
                                          obtain ⟨q393, rfl, z394, rfl⟩ := hq
                                          refine j_norm (pc' := 544) (st' := [.int r386]) (ws' := [((am 21), .inr (8, [.ref a_all_m21, .int size_m21])), (a_all_m21, .inl (cI, n_a_all_m21, .inl b_a_all_m21)), ((am 7), .inr (8, [.ref a_all_m7, .int size_m7])), (a_all_m7, .inl (cI, n_a_all_m7, .inl b_a_all_m7)), ((am 6), .inr (8, [.ref a_all_m6, .int size_m6])), (a_all_m6, .inl (cI, n_a_all_m6, .inl b_a_all_m6)), ((am 4), .inr (8, [.ref a_all_m4, .int size_m4])), (a_all_m4, .inl (cI, n_a_all_m4, .inl b_a_all_m4)), ((am 22), .inr (8, [.ref a_all_m22, .int size_m22])), (a_all_m22, .inl (cI, n_a_all_m22, .inl b_a_all_m22)), (h0, .inr (9, moF am known_h0 thrown_h0 wrong_h0 lastEnd_h0 r387 r388 r389 least_h0 found_h0)), ((am 20), .inr (8, [.ref q393, .int r390])), ((am 5), .inr (8, [.ref a_all_m5, .int size_m5])), (a_all_m5, .inl (cI, n_a_all_m5, .inl b_a_all_m5)), ((am 2), .inl (cI, n_m2, .inl b_m2)), (q393, .inl (cI, r391, .inl r392))]) (cl' := 0 + C395) (sl' := 0 + S396) rfl rfl rfl rfl rfl rfl ?_
                                          refine j_if_eq (tgt := 560) d_Mo_readStatement_544 (by decide) (fun c400 => ?_) (fun c400 => ?_)
                                          · replace h := it_t c400 h
                                            refine j_iconst (v := 0) d_Mo_readStatement_560 (by decide) ?_
                                            replace h := lf_s h
                                            obtain ⟨h, e1, e2⟩ := h
                                            replace h := Prod.mk.inj h
                                            obtain ⟨h9, h⟩ := h
                                            subst h9
                                            replace h := Prod.mk.inj h
                                            obtain ⟨h9, h⟩ := h
                                            subst h9
                                            replace h := Prod.mk.inj h
                                            obtain ⟨h9, h⟩ := h
                                            subst h9
                                            replace h := Prod.mk.inj h
                                            obtain ⟨h9, h⟩ := h
                                            subst h9
                                            replace h := Prod.mk.inj h
                                            obtain ⟨h9, h⟩ := h
                                            subst h9
                                            replace h := Prod.mk.inj h
                                            obtain ⟨h9, h⟩ := h
                                            subst h9
                                            replace h := Prod.mk.inj h
                                            obtain ⟨h9, h⟩ := h
                                            subst h9
                                            replace h := Prod.mk.inj h
                                            obtain ⟨h9, h⟩ := h
                                            subst h9
                                            replace h := Prod.mk.inj h
                                            obtain ⟨h9, h⟩ := h
                                            subst h9
                                            replace h := Prod.mk.inj h
                                            obtain ⟨h9, h⟩ := h
                                            subst h9
                                            replace h := Prod.mk.inj h
                                            obtain ⟨h9, h⟩ := h
                                            subst h9
                                            replace h := Prod.mk.inj h
                                            obtain ⟨h9, h⟩ := h
                                            subst h9
                                            replace h := Prod.mk.inj h
                                            obtain ⟨h9, h⟩ := h
                                            subst h9
                                            subst h
                                            refine j_widen (cl' := mc) (sl' := ms) (by omega) (by omega) ?_
                                            exact j_zret (w := [(h0, .inr (9, moF am known_h0 thrown_h0 wrong_h0 lastEnd_h0 r387 r388 r389 least_h0 found_h0)), ((am 5), .inr (8, [.ref a_all_m5, .int size_m5])), (a_all_m5, .inl (cI, n_a_all_m5, .inl b_a_all_m5)), ((am 20), .inr (8, [.ref q393, .int r390])), ((am 2), .inl (cI, n_m2, .inl b_m2)), ((am 21), .inr (8, [.ref a_all_m21, .int size_m21])), ((am 7), .inr (8, [.ref a_all_m7, .int size_m7])), (a_all_m7, .inl (cI, n_a_all_m7, .inl b_a_all_m7)), ((am 6), .inr (8, [.ref a_all_m6, .int size_m6])), (a_all_m6, .inl (cI, n_a_all_m6, .inl b_a_all_m6)), ((am 4), .inr (8, [.ref a_all_m4, .int size_m4])), (a_all_m4, .inl (cI, n_a_all_m4, .inl b_a_all_m4)), ((am 22), .inr (8, [.ref a_all_m22, .int size_m22])), (q393, .inl (cI, r391, .inl r392)), (a_all_m21, .inl (cI, n_a_all_m21, .inl b_a_all_m21)), (a_all_m22, .inl (cI, n_a_all_m22, .inl b_a_all_m22))]) hr (zb_n zb0) d_Mo_readStatement_561 [10, 12, 13, 11, 14, 0, 2, 3, 4, 5, 6, 7, 8, 15, 1, 9] rfl (by decide) ⟨q393, a_all_m21, a_all_m22, rfl, zb0, rfl⟩
                                          · replace h := it_f c400 h
                                            refine j_aload_n d_Mo_readStatement_547 rfl 1 rfl ?_
                                            refine j_bipush (v := 55) d_Mo_readStatement_548 (by decide) ?_
                                            replace h := bd_s h
                                            obtain ⟨⟨r401, r402, r403⟩, k405, h⟩ := h
                                            refine j_callV (n := 1) (As := [.int 55]) (rest := []) (wr := [((am 21), .inr (8, [.ref a_all_m21, .int size_m21])), (a_all_m21, .inl (cI, n_a_all_m21, .inl b_a_all_m21)), ((am 7), .inr (8, [.ref a_all_m7, .int size_m7])), (a_all_m7, .inl (cI, n_a_all_m7, .inl b_a_all_m7)), ((am 6), .inr (8, [.ref a_all_m6, .int size_m6])), (a_all_m6, .inl (cI, n_a_all_m6, .inl b_a_all_m6)), ((am 4), .inr (8, [.ref a_all_m4, .int size_m4])), (a_all_m4, .inl (cI, n_a_all_m4, .inl b_a_all_m4)), ((am 22), .inr (8, [.ref a_all_m22, .int size_m22])), (a_all_m22, .inl (cI, n_a_all_m22, .inl b_a_all_m22)), ((am 20), .inr (8, [.ref q393, .int r390])), ((am 2), .inl (cI, n_m2, .inl b_m2)), (q393, .inl (cI, r391, .inl r392))]) (c_Mo_take l D cI cB cJ cS h0 am a_all_m5 55 known_h0 thrown_h0 wrong_h0 lastEnd_h0 r387 r388 r389 least_h0 found_h0 size_m5 n_a_all_m5 b_a_all_m5  r401 r402 r403 k405) k_Mo_285 (by decide) ⟨Nat.le_of_ble_eq_true rfl, Nat.le_of_ble_eq_true rfl⟩ rfl 0 rfl [10, 12, 13] [0, 1, 2, 3, 4, 5, 6, 7, 8, 9, 11, 14, 15] rfl (by decide +kernel) rfl (by decide +kernel) (by decide +kernel) rfl rfl (Nat.le_of_ble_eq_true rfl) d_Mo_readStatement_550 ⟨show 0 + C395 + 0 ≤ mc by omega, show 0 + S396 + 0 ≤ ms by omega⟩ (fun v w hq => ?_)
                                            obtain ⟨rfl, z404, rfl⟩ := hq
                                            refine j_norm (pc' := 553) (st' := [.int r401]) (ws' := [((am 21), .inr (8, [.ref a_all_m21, .int size_m21])), (a_all_m21, .inl (cI, n_a_all_m21, .inl b_a_all_m21)), ((am 7), .inr (8, [.ref a_all_m7, .int size_m7])), (a_all_m7, .inl (cI, n_a_all_m7, .inl b_a_all_m7)), ((am 6), .inr (8, [.ref a_all_m6, .int size_m6])), (a_all_m6, .inl (cI, n_a_all_m6, .inl b_a_all_m6)), ((am 4), .inr (8, [.ref a_all_m4, .int size_m4])), (a_all_m4, .inl (cI, n_a_all_m4, .inl b_a_all_m4)), ((am 22), .inr (8, [.ref a_all_m22, .int size_m22])), (a_all_m22, .inl (cI, n_a_all_m22, .inl b_a_all_m22)), ((am 20), .inr (8, [.ref q393, .int r390])), ((am 2), .inl (cI, n_m2, .inl b_m2)), (q393, .inl (cI, r391, .inl r392)), (h0, .inr (9, moF am known_h0 thrown_h0 wrong_h0 lastEnd_h0 r402 r403 r389 least_h0 found_h0)), ((am 5), .inr (8, [.ref a_all_m5, .int size_m5])), (a_all_m5, .inl (cI, n_a_all_m5, .inl b_a_all_m5))]) (cl' := 0 + C395) (sl' := 0 + S396) rfl rfl rfl rfl rfl rfl ?_
                                            refine j_if_eq (tgt := 560) d_Mo_readStatement_553 (by decide) (fun c406 => ?_) (fun c406 => ?_)
                                            · replace h := it_t c406 h
                                              refine j_iconst (v := 0) d_Mo_readStatement_560 (by decide) ?_
                                              replace h := lf_s h
                                              obtain ⟨h, e1, e2⟩ := h
                                              replace h := Prod.mk.inj h
                                              obtain ⟨h9, h⟩ := h
                                              subst h9
                                              replace h := Prod.mk.inj h
                                              obtain ⟨h9, h⟩ := h
                                              subst h9
                                              replace h := Prod.mk.inj h
                                              obtain ⟨h9, h⟩ := h
                                              subst h9
                                              replace h := Prod.mk.inj h
                                              obtain ⟨h9, h⟩ := h
                                              subst h9
                                              replace h := Prod.mk.inj h
                                              obtain ⟨h9, h⟩ := h
                                              subst h9
                                              replace h := Prod.mk.inj h
                                              obtain ⟨h9, h⟩ := h
                                              subst h9
                                              replace h := Prod.mk.inj h
                                              obtain ⟨h9, h⟩ := h
                                              subst h9
                                              replace h := Prod.mk.inj h
                                              obtain ⟨h9, h⟩ := h
                                              subst h9
                                              replace h := Prod.mk.inj h
                                              obtain ⟨h9, h⟩ := h
                                              subst h9
                                              replace h := Prod.mk.inj h
                                              obtain ⟨h9, h⟩ := h
                                              subst h9
                                              replace h := Prod.mk.inj h
                                              obtain ⟨h9, h⟩ := h
                                              subst h9
                                              replace h := Prod.mk.inj h
                                              obtain ⟨h9, h⟩ := h
                                              subst h9
                                              replace h := Prod.mk.inj h
                                              obtain ⟨h9, h⟩ := h
                                              subst h9
                                              subst h
                                              refine j_widen (cl' := mc) (sl' := ms) (by omega) (by omega) ?_
                                              exact j_zret (w := [(h0, .inr (9, moF am known_h0 thrown_h0 wrong_h0 lastEnd_h0 r402 r403 r389 least_h0 found_h0)), ((am 5), .inr (8, [.ref a_all_m5, .int size_m5])), (a_all_m5, .inl (cI, n_a_all_m5, .inl b_a_all_m5)), ((am 20), .inr (8, [.ref q393, .int r390])), ((am 2), .inl (cI, n_m2, .inl b_m2)), ((am 21), .inr (8, [.ref a_all_m21, .int size_m21])), ((am 7), .inr (8, [.ref a_all_m7, .int size_m7])), (a_all_m7, .inl (cI, n_a_all_m7, .inl b_a_all_m7)), ((am 6), .inr (8, [.ref a_all_m6, .int size_m6])), (a_all_m6, .inl (cI, n_a_all_m6, .inl b_a_all_m6)), ((am 4), .inr (8, [.ref a_all_m4, .int size_m4])), (a_all_m4, .inl (cI, n_a_all_m4, .inl b_a_all_m4)), ((am 22), .inr (8, [.ref a_all_m22, .int size_m22])), (q393, .inl (cI, r391, .inl r392)), (a_all_m21, .inl (cI, n_a_all_m21, .inl b_a_all_m21)), (a_all_m22, .inl (cI, n_a_all_m22, .inl b_a_all_m22))]) hr (zb_n zb0) d_Mo_readStatement_561 [13, 14, 15, 10, 11, 0, 2, 3, 4, 5, 6, 7, 8, 12, 1, 9] rfl (by decide) ⟨q393, a_all_m21, a_all_m22, rfl, zb0, rfl⟩
                                            · replace h := it_f c406 h
                                              refine j_iconst (v := 1) d_Mo_readStatement_556 (by decide) ?_
                                              refine j_goto (tgt := 561) d_Mo_readStatement_557 (by decide) ?_
                                              replace h := lf_s h
                                              obtain ⟨h, e1, e2⟩ := h
                                              replace h := Prod.mk.inj h
                                              obtain ⟨h9, h⟩ := h
                                              subst h9
                                              replace h := Prod.mk.inj h
                                              obtain ⟨h9, h⟩ := h
                                              subst h9
                                              replace h := Prod.mk.inj h
                                              obtain ⟨h9, h⟩ := h
                                              subst h9
                                              replace h := Prod.mk.inj h
                                              obtain ⟨h9, h⟩ := h
                                              subst h9
                                              replace h := Prod.mk.inj h
                                              obtain ⟨h9, h⟩ := h
                                              subst h9
                                              replace h := Prod.mk.inj h
                                              obtain ⟨h9, h⟩ := h
                                              subst h9
                                              replace h := Prod.mk.inj h
                                              obtain ⟨h9, h⟩ := h
                                              subst h9
                                              replace h := Prod.mk.inj h
                                              obtain ⟨h9, h⟩ := h
                                              subst h9
                                              replace h := Prod.mk.inj h
                                              obtain ⟨h9, h⟩ := h
                                              subst h9
                                              replace h := Prod.mk.inj h
                                              obtain ⟨h9, h⟩ := h
                                              subst h9
                                              replace h := Prod.mk.inj h
                                              obtain ⟨h9, h⟩ := h
                                              subst h9
                                              replace h := Prod.mk.inj h
                                              obtain ⟨h9, h⟩ := h
                                              subst h9
                                              replace h := Prod.mk.inj h
                                              obtain ⟨h9, h⟩ := h
                                              subst h9
                                              subst h
                                              refine j_widen (cl' := mc) (sl' := ms) (by omega) (by omega) ?_
                                              exact j_zret (w := [(h0, .inr (9, moF am known_h0 thrown_h0 wrong_h0 lastEnd_h0 r402 r403 r389 least_h0 found_h0)), ((am 5), .inr (8, [.ref a_all_m5, .int size_m5])), (a_all_m5, .inl (cI, n_a_all_m5, .inl b_a_all_m5)), ((am 20), .inr (8, [.ref q393, .int r390])), ((am 2), .inl (cI, n_m2, .inl b_m2)), ((am 21), .inr (8, [.ref a_all_m21, .int size_m21])), ((am 7), .inr (8, [.ref a_all_m7, .int size_m7])), (a_all_m7, .inl (cI, n_a_all_m7, .inl b_a_all_m7)), ((am 6), .inr (8, [.ref a_all_m6, .int size_m6])), (a_all_m6, .inl (cI, n_a_all_m6, .inl b_a_all_m6)), ((am 4), .inr (8, [.ref a_all_m4, .int size_m4])), (a_all_m4, .inl (cI, n_a_all_m4, .inl b_a_all_m4)), ((am 22), .inr (8, [.ref a_all_m22, .int size_m22])), (q393, .inl (cI, r391, .inl r392)), (a_all_m21, .inl (cI, n_a_all_m21, .inl b_a_all_m21)), (a_all_m22, .inl (cI, n_a_all_m22, .inl b_a_all_m22))]) hr (zb_n zb1) d_Mo_readStatement_561 [13, 14, 15, 10, 11, 0, 2, 3, 4, 5, 6, 7, 8, 12, 1, 9] rfl (by decide) ⟨q393, a_all_m21, a_all_m22, rfl, zb1, rfl⟩
                                        · replace h := it_f c385 h
                                          by_cases c407 : (b_a_all_m5 (Int32.toNatClampNeg at_h0)) = 30
                                          · replace h := it_t c407 h
                                            refine j_tabIn (tgt := 540) (off := 534) d_Mo_readStatement_6 30 c407 (by decide) (by decide) (by decide) (by decide) ?_
                                            refine j_aload_n d_Mo_readStatement_540 rfl 1 rfl ?_
                                            replace h := bw_s h
                                            obtain ⟨⟨r408, r409, r410, r411, r412, r413, r414⟩, C417, S418, C419, S420, k421, h, e1, e2⟩ := h
                                            replace hC : 0 + C417 + C419 ≤ mc := by omega
                                            replace hS : 0 + S418 + S420 ≤ ms := by omega
                                            clear e1 e2
                                            refine j_callV (n := 0) (As := []) (rest := []) (wr := [((am 21), .inr (8, [.ref a_all_m21, .int size_m21])), (a_all_m21, .inl (cI, n_a_all_m21, .inl b_a_all_m21)), ((am 7), .inr (8, [.ref a_all_m7, .int size_m7])), (a_all_m7, .inl (cI, n_a_all_m7, .inl b_a_all_m7)), ((am 6), .inr (8, [.ref a_all_m6, .int size_m6])), (a_all_m6, .inl (cI, n_a_all_m6, .inl b_a_all_m6)), ((am 4), .inr (8, [.ref a_all_m4, .int size_m4])), (a_all_m4, .inl (cI, n_a_all_m4, .inl b_a_all_m4)), ((am 22), .inr (8, [.ref a_all_m22, .int size_m22])), (a_all_m22, .inl (cI, n_a_all_m22, .inl b_a_all_m22))]) (c_Mo_readWorking l D cI cB cJ cS h0 am a_all_m20 a_all_m5 known_h0 thrown_h0 wrong_h0 lastEnd_h0 at_h0 bad_h0 levels_h0 least_h0 found_h0 size_m20 size_m5 n_a_all_m5 b_a_all_m5 n_a_all_m20 b_a_all_m20 n_m2 b_m2  r408 r409 r410 r411 r412 r413 r414 C417 S418 k421) k_Mo_362 (by decide) ⟨Nat.le_of_ble_eq_true rfl, Nat.le_of_ble_eq_true rfl⟩ rfl 0 rfl [13, 0, 14, 15, 1, 2] [3, 4, 5, 6, 7, 8, 9, 10, 11, 12] rfl (by decide +kernel) rfl (by decide +kernel) (by decide +kernel) rfl rfl (Nat.le_of_ble_eq_true rfl) d_Mo_readStatement_541 ⟨show 0 + C417 ≤ mc by omega, show 0 + S418 ≤ ms by omega⟩ (fun v w hq => ?_)
                                            obtain ⟨q415, rfl, z416, rfl⟩ := hq
                                            refine j_norm (pc' := 544) (st' := [.int r408]) (ws' := [((am 21), .inr (8, [.ref a_all_m21, .int size_m21])), (a_all_m21, .inl (cI, n_a_all_m21, .inl b_a_all_m21)), ((am 7), .inr (8, [.ref a_all_m7, .int size_m7])), (a_all_m7, .inl (cI, n_a_all_m7, .inl b_a_all_m7)), ((am 6), .inr (8, [.ref a_all_m6, .int size_m6])), (a_all_m6, .inl (cI, n_a_all_m6, .inl b_a_all_m6)), ((am 4), .inr (8, [.ref a_all_m4, .int size_m4])), (a_all_m4, .inl (cI, n_a_all_m4, .inl b_a_all_m4)), ((am 22), .inr (8, [.ref a_all_m22, .int size_m22])), (a_all_m22, .inl (cI, n_a_all_m22, .inl b_a_all_m22)), (h0, .inr (9, moF am known_h0 thrown_h0 wrong_h0 lastEnd_h0 r409 r410 r411 least_h0 found_h0)), ((am 20), .inr (8, [.ref q415, .int r412])), ((am 5), .inr (8, [.ref a_all_m5, .int size_m5])), (a_all_m5, .inl (cI, n_a_all_m5, .inl b_a_all_m5)), ((am 2), .inl (cI, n_m2, .inl b_m2)), (q415, .inl (cI, r413, .inl r414))]) (cl' := 0 + C417) (sl' := 0 + S418) rfl rfl rfl rfl rfl rfl ?_
                                            refine j_if_eq (tgt := 560) d_Mo_readStatement_544 (by decide) (fun c422 => ?_) (fun c422 => ?_)
                                            · replace h := it_t c422 h
                                              refine j_iconst (v := 0) d_Mo_readStatement_560 (by decide) ?_
                                              replace h := lf_s h
                                              obtain ⟨h, e1, e2⟩ := h
                                              replace h := Prod.mk.inj h
                                              obtain ⟨h9, h⟩ := h
                                              subst h9
                                              replace h := Prod.mk.inj h
                                              obtain ⟨h9, h⟩ := h
                                              subst h9
                                              replace h := Prod.mk.inj h
                                              obtain ⟨h9, h⟩ := h
                                              subst h9
                                              replace h := Prod.mk.inj h
                                              obtain ⟨h9, h⟩ := h
                                              subst h9
                                              replace h := Prod.mk.inj h
                                              obtain ⟨h9, h⟩ := h
                                              subst h9
                                              replace h := Prod.mk.inj h
                                              obtain ⟨h9, h⟩ := h
                                              subst h9
                                              replace h := Prod.mk.inj h
                                              obtain ⟨h9, h⟩ := h
                                              subst h9
                                              replace h := Prod.mk.inj h
                                              obtain ⟨h9, h⟩ := h
                                              subst h9
                                              replace h := Prod.mk.inj h
                                              obtain ⟨h9, h⟩ := h
                                              subst h9
                                              replace h := Prod.mk.inj h
                                              obtain ⟨h9, h⟩ := h
                                              subst h9
                                              replace h := Prod.mk.inj h
                                              obtain ⟨h9, h⟩ := h
                                              subst h9
                                              replace h := Prod.mk.inj h
                                              obtain ⟨h9, h⟩ := h
                                              subst h9
                                              replace h := Prod.mk.inj h
                                              obtain ⟨h9, h⟩ := h
                                              subst h9
                                              subst h
                                              refine j_widen (cl' := mc) (sl' := ms) (by omega) (by omega) ?_
                                              exact j_zret (w := [(h0, .inr (9, moF am known_h0 thrown_h0 wrong_h0 lastEnd_h0 r409 r410 r411 least_h0 found_h0)), ((am 5), .inr (8, [.ref a_all_m5, .int size_m5])), (a_all_m5, .inl (cI, n_a_all_m5, .inl b_a_all_m5)), ((am 20), .inr (8, [.ref q415, .int r412])), ((am 2), .inl (cI, n_m2, .inl b_m2)), ((am 21), .inr (8, [.ref a_all_m21, .int size_m21])), ((am 7), .inr (8, [.ref a_all_m7, .int size_m7])), (a_all_m7, .inl (cI, n_a_all_m7, .inl b_a_all_m7)), ((am 6), .inr (8, [.ref a_all_m6, .int size_m6])), (a_all_m6, .inl (cI, n_a_all_m6, .inl b_a_all_m6)), ((am 4), .inr (8, [.ref a_all_m4, .int size_m4])), (a_all_m4, .inl (cI, n_a_all_m4, .inl b_a_all_m4)), ((am 22), .inr (8, [.ref a_all_m22, .int size_m22])), (q415, .inl (cI, r413, .inl r414)), (a_all_m21, .inl (cI, n_a_all_m21, .inl b_a_all_m21)), (a_all_m22, .inl (cI, n_a_all_m22, .inl b_a_all_m22))]) hr (zb_n zb0) d_Mo_readStatement_561 [10, 12, 13, 11, 14, 0, 2, 3, 4, 5, 6, 7, 8, 15, 1, 9] rfl (by decide) ⟨q415, a_all_m21, a_all_m22, rfl, zb0, rfl⟩
                                            · replace h := it_f c422 h
                                              refine j_aload_n d_Mo_readStatement_547 rfl 1 rfl ?_
                                              refine j_bipush (v := 55) d_Mo_readStatement_548 (by decide) ?_
                                              replace h := bd_s h
                                              obtain ⟨⟨r423, r424, r425⟩, k427, h⟩ := h
                                              refine j_callV (n := 1) (As := [.int 55]) (rest := []) (wr := [((am 21), .inr (8, [.ref a_all_m21, .int size_m21])), (a_all_m21, .inl (cI, n_a_all_m21, .inl b_a_all_m21)), ((am 7), .inr (8, [.ref a_all_m7, .int size_m7])), (a_all_m7, .inl (cI, n_a_all_m7, .inl b_a_all_m7)), ((am 6), .inr (8, [.ref a_all_m6, .int size_m6])), (a_all_m6, .inl (cI, n_a_all_m6, .inl b_a_all_m6)), ((am 4), .inr (8, [.ref a_all_m4, .int size_m4])), (a_all_m4, .inl (cI, n_a_all_m4, .inl b_a_all_m4)), ((am 22), .inr (8, [.ref a_all_m22, .int size_m22])), (a_all_m22, .inl (cI, n_a_all_m22, .inl b_a_all_m22)), ((am 20), .inr (8, [.ref q415, .int r412])), ((am 2), .inl (cI, n_m2, .inl b_m2)), (q415, .inl (cI, r413, .inl r414))]) (c_Mo_take l D cI cB cJ cS h0 am a_all_m5 55 known_h0 thrown_h0 wrong_h0 lastEnd_h0 r409 r410 r411 least_h0 found_h0 size_m5 n_a_all_m5 b_a_all_m5  r423 r424 r425 k427) k_Mo_285 (by decide) ⟨Nat.le_of_ble_eq_true rfl, Nat.le_of_ble_eq_true rfl⟩ rfl 0 rfl [10, 12, 13] [0, 1, 2, 3, 4, 5, 6, 7, 8, 9, 11, 14, 15] rfl (by decide +kernel) rfl (by decide +kernel) (by decide +kernel) rfl rfl (Nat.le_of_ble_eq_true rfl) d_Mo_readStatement_550 ⟨show 0 + C417 + 0 ≤ mc by omega, show 0 + S418 + 0 ≤ ms by omega⟩ (fun v w hq => ?_)
                                              obtain ⟨rfl, z426, rfl⟩ := hq
                                              refine j_norm (pc' := 553) (st' := [.int r423]) (ws' := [((am 21), .inr (8, [.ref a_all_m21, .int size_m21])), (a_all_m21, .inl (cI, n_a_all_m21, .inl b_a_all_m21)), ((am 7), .inr (8, [.ref a_all_m7, .int size_m7])), (a_all_m7, .inl (cI, n_a_all_m7, .inl b_a_all_m7)), ((am 6), .inr (8, [.ref a_all_m6, .int size_m6])), (a_all_m6, .inl (cI, n_a_all_m6, .inl b_a_all_m6)), ((am 4), .inr (8, [.ref a_all_m4, .int size_m4])), (a_all_m4, .inl (cI, n_a_all_m4, .inl b_a_all_m4)), ((am 22), .inr (8, [.ref a_all_m22, .int size_m22])), (a_all_m22, .inl (cI, n_a_all_m22, .inl b_a_all_m22)), ((am 20), .inr (8, [.ref q415, .int r412])), ((am 2), .inl (cI, n_m2, .inl b_m2)), (q415, .inl (cI, r413, .inl r414)), (h0, .inr (9, moF am known_h0 thrown_h0 wrong_h0 lastEnd_h0 r424 r425 r411 least_h0 found_h0)), ((am 5), .inr (8, [.ref a_all_m5, .int size_m5])), (a_all_m5, .inl (cI, n_a_all_m5, .inl b_a_all_m5))]) (cl' := 0 + C417) (sl' := 0 + S418) rfl rfl rfl rfl rfl rfl ?_
                                              refine j_if_eq (tgt := 560) d_Mo_readStatement_553 (by decide) (fun c428 => ?_) (fun c428 => ?_)
                                              · replace h := it_t c428 h
                                                refine j_iconst (v := 0) d_Mo_readStatement_560 (by decide) ?_
                                                replace h := lf_s h
                                                obtain ⟨h, e1, e2⟩ := h
                                                replace h := Prod.mk.inj h
                                                obtain ⟨h9, h⟩ := h
                                                subst h9
                                                replace h := Prod.mk.inj h
                                                obtain ⟨h9, h⟩ := h
                                                subst h9
                                                replace h := Prod.mk.inj h
                                                obtain ⟨h9, h⟩ := h
                                                subst h9
                                                replace h := Prod.mk.inj h
                                                obtain ⟨h9, h⟩ := h
                                                subst h9
                                                replace h := Prod.mk.inj h
                                                obtain ⟨h9, h⟩ := h
                                                subst h9
                                                replace h := Prod.mk.inj h
                                                obtain ⟨h9, h⟩ := h
                                                subst h9
                                                replace h := Prod.mk.inj h
                                                obtain ⟨h9, h⟩ := h
                                                subst h9
                                                replace h := Prod.mk.inj h
                                                obtain ⟨h9, h⟩ := h
                                                subst h9
                                                replace h := Prod.mk.inj h
                                                obtain ⟨h9, h⟩ := h
                                                subst h9
                                                replace h := Prod.mk.inj h
                                                obtain ⟨h9, h⟩ := h
                                                subst h9
                                                replace h := Prod.mk.inj h
                                                obtain ⟨h9, h⟩ := h
                                                subst h9
                                                replace h := Prod.mk.inj h
                                                obtain ⟨h9, h⟩ := h
                                                subst h9
                                                replace h := Prod.mk.inj h
                                                obtain ⟨h9, h⟩ := h
                                                subst h9
                                                subst h
                                                refine j_widen (cl' := mc) (sl' := ms) (by omega) (by omega) ?_
                                                exact j_zret (w := [(h0, .inr (9, moF am known_h0 thrown_h0 wrong_h0 lastEnd_h0 r424 r425 r411 least_h0 found_h0)), ((am 5), .inr (8, [.ref a_all_m5, .int size_m5])), (a_all_m5, .inl (cI, n_a_all_m5, .inl b_a_all_m5)), ((am 20), .inr (8, [.ref q415, .int r412])), ((am 2), .inl (cI, n_m2, .inl b_m2)), ((am 21), .inr (8, [.ref a_all_m21, .int size_m21])), ((am 7), .inr (8, [.ref a_all_m7, .int size_m7])), (a_all_m7, .inl (cI, n_a_all_m7, .inl b_a_all_m7)), ((am 6), .inr (8, [.ref a_all_m6, .int size_m6])), (a_all_m6, .inl (cI, n_a_all_m6, .inl b_a_all_m6)), ((am 4), .inr (8, [.ref a_all_m4, .int size_m4])), (a_all_m4, .inl (cI, n_a_all_m4, .inl b_a_all_m4)), ((am 22), .inr (8, [.ref a_all_m22, .int size_m22])), (q415, .inl (cI, r413, .inl r414)), (a_all_m21, .inl (cI, n_a_all_m21, .inl b_a_all_m21)), (a_all_m22, .inl (cI, n_a_all_m22, .inl b_a_all_m22))]) hr (zb_n zb0) d_Mo_readStatement_561 [13, 14, 15, 10, 11, 0, 2, 3, 4, 5, 6, 7, 8, 12, 1, 9] rfl (by decide) ⟨q415, a_all_m21, a_all_m22, rfl, zb0, rfl⟩
                                              · replace h := it_f c428 h
                                                refine j_iconst (v := 1) d_Mo_readStatement_556 (by decide) ?_
                                                refine j_goto (tgt := 561) d_Mo_readStatement_557 (by decide) ?_
                                                replace h := lf_s h
                                                obtain ⟨h, e1, e2⟩ := h
                                                replace h := Prod.mk.inj h
                                                obtain ⟨h9, h⟩ := h
                                                subst h9
                                                replace h := Prod.mk.inj h
                                                obtain ⟨h9, h⟩ := h
                                                subst h9
                                                replace h := Prod.mk.inj h
                                                obtain ⟨h9, h⟩ := h
                                                subst h9
                                                replace h := Prod.mk.inj h
                                                obtain ⟨h9, h⟩ := h
                                                subst h9
                                                replace h := Prod.mk.inj h
                                                obtain ⟨h9, h⟩ := h
                                                subst h9
                                                replace h := Prod.mk.inj h
                                                obtain ⟨h9, h⟩ := h
                                                subst h9
                                                replace h := Prod.mk.inj h
                                                obtain ⟨h9, h⟩ := h
                                                subst h9
                                                replace h := Prod.mk.inj h
                                                obtain ⟨h9, h⟩ := h
                                                subst h9
                                                replace h := Prod.mk.inj h
                                                obtain ⟨h9, h⟩ := h
                                                subst h9
                                                replace h := Prod.mk.inj h
                                                obtain ⟨h9, h⟩ := h
                                                subst h9
                                                replace h := Prod.mk.inj h
                                                obtain ⟨h9, h⟩ := h
                                                subst h9
                                                replace h := Prod.mk.inj h
                                                obtain ⟨h9, h⟩ := h
                                                subst h9
                                                replace h := Prod.mk.inj h
                                                obtain ⟨h9, h⟩ := h
                                                subst h9
                                                subst h
                                                refine j_widen (cl' := mc) (sl' := ms) (by omega) (by omega) ?_
                                                exact j_zret (w := [(h0, .inr (9, moF am known_h0 thrown_h0 wrong_h0 lastEnd_h0 r424 r425 r411 least_h0 found_h0)), ((am 5), .inr (8, [.ref a_all_m5, .int size_m5])), (a_all_m5, .inl (cI, n_a_all_m5, .inl b_a_all_m5)), ((am 20), .inr (8, [.ref q415, .int r412])), ((am 2), .inl (cI, n_m2, .inl b_m2)), ((am 21), .inr (8, [.ref a_all_m21, .int size_m21])), ((am 7), .inr (8, [.ref a_all_m7, .int size_m7])), (a_all_m7, .inl (cI, n_a_all_m7, .inl b_a_all_m7)), ((am 6), .inr (8, [.ref a_all_m6, .int size_m6])), (a_all_m6, .inl (cI, n_a_all_m6, .inl b_a_all_m6)), ((am 4), .inr (8, [.ref a_all_m4, .int size_m4])), (a_all_m4, .inl (cI, n_a_all_m4, .inl b_a_all_m4)), ((am 22), .inr (8, [.ref a_all_m22, .int size_m22])), (q415, .inl (cI, r413, .inl r414)), (a_all_m21, .inl (cI, n_a_all_m21, .inl b_a_all_m21)), (a_all_m22, .inl (cI, n_a_all_m22, .inl b_a_all_m22))]) hr (zb_n zb1) d_Mo_readStatement_561 [13, 14, 15, 10, 11, 0, 2, 3, 4, 5, 6, 7, 8, 12, 1, 9] rfl (by decide) ⟨q415, a_all_m21, a_all_m22, rfl, zb1, rfl⟩
                                          · replace h := it_f c407 h
                                            by_cases c429 : (b_a_all_m5 (Int32.toNatClampNeg at_h0)) = 31
                                            · replace h := it_t c429 h
                                              refine j_tabIn (tgt := 540) (off := 534) d_Mo_readStatement_6 31 c429 (by decide) (by decide) (by decide) (by decide) ?_
                                              refine j_aload_n d_Mo_readStatement_540 rfl 1 rfl ?_
                                              replace h := bw_s h
                                              obtain ⟨⟨r430, r431, r432, r433, r434, r435, r436⟩, C439, S440, C441, S442, k443, h, e1, e2⟩ := h
                                              replace hC : 0 + C439 + C441 ≤ mc := by omega
                                              replace hS : 0 + S440 + S442 ≤ ms := by omega
                                              clear e1 e2
                                              refine j_callV (n := 0) (As := []) (rest := []) (wr := [((am 21), .inr (8, [.ref a_all_m21, .int size_m21])), (a_all_m21, .inl (cI, n_a_all_m21, .inl b_a_all_m21)), ((am 7), .inr (8, [.ref a_all_m7, .int size_m7])), (a_all_m7, .inl (cI, n_a_all_m7, .inl b_a_all_m7)), ((am 6), .inr (8, [.ref a_all_m6, .int size_m6])), (a_all_m6, .inl (cI, n_a_all_m6, .inl b_a_all_m6)), ((am 4), .inr (8, [.ref a_all_m4, .int size_m4])), (a_all_m4, .inl (cI, n_a_all_m4, .inl b_a_all_m4)), ((am 22), .inr (8, [.ref a_all_m22, .int size_m22])), (a_all_m22, .inl (cI, n_a_all_m22, .inl b_a_all_m22))]) (c_Mo_readWorking l D cI cB cJ cS h0 am a_all_m20 a_all_m5 known_h0 thrown_h0 wrong_h0 lastEnd_h0 at_h0 bad_h0 levels_h0 least_h0 found_h0 size_m20 size_m5 n_a_all_m5 b_a_all_m5 n_a_all_m20 b_a_all_m20 n_m2 b_m2  r430 r431 r432 r433 r434 r435 r436 C439 S440 k443) k_Mo_362 (by decide) ⟨Nat.le_of_ble_eq_true rfl, Nat.le_of_ble_eq_true rfl⟩ rfl 0 rfl [13, 0, 14, 15, 1, 2] [3, 4, 5, 6, 7, 8, 9, 10, 11, 12] rfl (by decide +kernel) rfl (by decide +kernel) (by decide +kernel) rfl rfl (Nat.le_of_ble_eq_true rfl) d_Mo_readStatement_541 ⟨show 0 + C439 ≤ mc by omega, show 0 + S440 ≤ ms by omega⟩ (fun v w hq => ?_)
                                              obtain ⟨q437, rfl, z438, rfl⟩ := hq
                                              refine j_norm (pc' := 544) (st' := [.int r430]) (ws' := [((am 21), .inr (8, [.ref a_all_m21, .int size_m21])), (a_all_m21, .inl (cI, n_a_all_m21, .inl b_a_all_m21)), ((am 7), .inr (8, [.ref a_all_m7, .int size_m7])), (a_all_m7, .inl (cI, n_a_all_m7, .inl b_a_all_m7)), ((am 6), .inr (8, [.ref a_all_m6, .int size_m6])), (a_all_m6, .inl (cI, n_a_all_m6, .inl b_a_all_m6)), ((am 4), .inr (8, [.ref a_all_m4, .int size_m4])), (a_all_m4, .inl (cI, n_a_all_m4, .inl b_a_all_m4)), ((am 22), .inr (8, [.ref a_all_m22, .int size_m22])), (a_all_m22, .inl (cI, n_a_all_m22, .inl b_a_all_m22)), (h0, .inr (9, moF am known_h0 thrown_h0 wrong_h0 lastEnd_h0 r431 r432 r433 least_h0 found_h0)), ((am 20), .inr (8, [.ref q437, .int r434])), ((am 5), .inr (8, [.ref a_all_m5, .int size_m5])), (a_all_m5, .inl (cI, n_a_all_m5, .inl b_a_all_m5)), ((am 2), .inl (cI, n_m2, .inl b_m2)), (q437, .inl (cI, r435, .inl r436))]) (cl' := 0 + C439) (sl' := 0 + S440) rfl rfl rfl rfl rfl rfl ?_
                                              refine j_if_eq (tgt := 560) d_Mo_readStatement_544 (by decide) (fun c444 => ?_) (fun c444 => ?_)
                                              · replace h := it_t c444 h
                                                refine j_iconst (v := 0) d_Mo_readStatement_560 (by decide) ?_
                                                replace h := lf_s h
                                                obtain ⟨h, e1, e2⟩ := h
                                                replace h := Prod.mk.inj h
                                                obtain ⟨h9, h⟩ := h
                                                subst h9
                                                replace h := Prod.mk.inj h
                                                obtain ⟨h9, h⟩ := h
                                                subst h9
                                                replace h := Prod.mk.inj h
                                                obtain ⟨h9, h⟩ := h
                                                subst h9
                                                replace h := Prod.mk.inj h
                                                obtain ⟨h9, h⟩ := h
                                                subst h9
                                                replace h := Prod.mk.inj h
                                                obtain ⟨h9, h⟩ := h
                                                subst h9
                                                replace h := Prod.mk.inj h
                                                obtain ⟨h9, h⟩ := h
                                                subst h9
                                                replace h := Prod.mk.inj h
                                                obtain ⟨h9, h⟩ := h
                                                subst h9
                                                replace h := Prod.mk.inj h
                                                obtain ⟨h9, h⟩ := h
                                                subst h9
                                                replace h := Prod.mk.inj h
                                                obtain ⟨h9, h⟩ := h
                                                subst h9
                                                replace h := Prod.mk.inj h
                                                obtain ⟨h9, h⟩ := h
                                                subst h9
                                                replace h := Prod.mk.inj h
                                                obtain ⟨h9, h⟩ := h
                                                subst h9
                                                replace h := Prod.mk.inj h
                                                obtain ⟨h9, h⟩ := h
                                                subst h9
                                                replace h := Prod.mk.inj h
                                                obtain ⟨h9, h⟩ := h
                                                subst h9
                                                subst h
                                                refine j_widen (cl' := mc) (sl' := ms) (by omega) (by omega) ?_
                                                exact j_zret (w := [(h0, .inr (9, moF am known_h0 thrown_h0 wrong_h0 lastEnd_h0 r431 r432 r433 least_h0 found_h0)), ((am 5), .inr (8, [.ref a_all_m5, .int size_m5])), (a_all_m5, .inl (cI, n_a_all_m5, .inl b_a_all_m5)), ((am 20), .inr (8, [.ref q437, .int r434])), ((am 2), .inl (cI, n_m2, .inl b_m2)), ((am 21), .inr (8, [.ref a_all_m21, .int size_m21])), ((am 7), .inr (8, [.ref a_all_m7, .int size_m7])), (a_all_m7, .inl (cI, n_a_all_m7, .inl b_a_all_m7)), ((am 6), .inr (8, [.ref a_all_m6, .int size_m6])), (a_all_m6, .inl (cI, n_a_all_m6, .inl b_a_all_m6)), ((am 4), .inr (8, [.ref a_all_m4, .int size_m4])), (a_all_m4, .inl (cI, n_a_all_m4, .inl b_a_all_m4)), ((am 22), .inr (8, [.ref a_all_m22, .int size_m22])), (q437, .inl (cI, r435, .inl r436)), (a_all_m21, .inl (cI, n_a_all_m21, .inl b_a_all_m21)), (a_all_m22, .inl (cI, n_a_all_m22, .inl b_a_all_m22))]) hr (zb_n zb0) d_Mo_readStatement_561 [10, 12, 13, 11, 14, 0, 2, 3, 4, 5, 6, 7, 8, 15, 1, 9] rfl (by decide) ⟨q437, a_all_m21, a_all_m22, rfl, zb0, rfl⟩
                                              · replace h := it_f c444 h
                                                refine j_aload_n d_Mo_readStatement_547 rfl 1 rfl ?_
                                                refine j_bipush (v := 55) d_Mo_readStatement_548 (by decide) ?_
                                                replace h := bd_s h
                                                obtain ⟨⟨r445, r446, r447⟩, k449, h⟩ := h
                                                refine j_callV (n := 1) (As := [.int 55]) (rest := []) (wr := [((am 21), .inr (8, [.ref a_all_m21, .int size_m21])), (a_all_m21, .inl (cI, n_a_all_m21, .inl b_a_all_m21)), ((am 7), .inr (8, [.ref a_all_m7, .int size_m7])), (a_all_m7, .inl (cI, n_a_all_m7, .inl b_a_all_m7)), ((am 6), .inr (8, [.ref a_all_m6, .int size_m6])), (a_all_m6, .inl (cI, n_a_all_m6, .inl b_a_all_m6)), ((am 4), .inr (8, [.ref a_all_m4, .int size_m4])), (a_all_m4, .inl (cI, n_a_all_m4, .inl b_a_all_m4)), ((am 22), .inr (8, [.ref a_all_m22, .int size_m22])), (a_all_m22, .inl (cI, n_a_all_m22, .inl b_a_all_m22)), ((am 20), .inr (8, [.ref q437, .int r434])), ((am 2), .inl (cI, n_m2, .inl b_m2)), (q437, .inl (cI, r435, .inl r436))]) (c_Mo_take l D cI cB cJ cS h0 am a_all_m5 55 known_h0 thrown_h0 wrong_h0 lastEnd_h0 r431 r432 r433 least_h0 found_h0 size_m5 n_a_all_m5 b_a_all_m5  r445 r446 r447 k449) k_Mo_285 (by decide) ⟨Nat.le_of_ble_eq_true rfl, Nat.le_of_ble_eq_true rfl⟩ rfl 0 rfl [10, 12, 13] [0, 1, 2, 3, 4, 5, 6, 7, 8, 9, 11, 14, 15] rfl (by decide +kernel) rfl (by decide +kernel) (by decide +kernel) rfl rfl (Nat.le_of_ble_eq_true rfl) d_Mo_readStatement_550 ⟨show 0 + C439 + 0 ≤ mc by omega, show 0 + S440 + 0 ≤ ms by omega⟩ (fun v w hq => ?_)
                                                obtain ⟨rfl, z448, rfl⟩ := hq
                                                refine j_norm (pc' := 553) (st' := [.int r445]) (ws' := [((am 21), .inr (8, [.ref a_all_m21, .int size_m21])), (a_all_m21, .inl (cI, n_a_all_m21, .inl b_a_all_m21)), ((am 7), .inr (8, [.ref a_all_m7, .int size_m7])), (a_all_m7, .inl (cI, n_a_all_m7, .inl b_a_all_m7)), ((am 6), .inr (8, [.ref a_all_m6, .int size_m6])), (a_all_m6, .inl (cI, n_a_all_m6, .inl b_a_all_m6)), ((am 4), .inr (8, [.ref a_all_m4, .int size_m4])), (a_all_m4, .inl (cI, n_a_all_m4, .inl b_a_all_m4)), ((am 22), .inr (8, [.ref a_all_m22, .int size_m22])), (a_all_m22, .inl (cI, n_a_all_m22, .inl b_a_all_m22)), ((am 20), .inr (8, [.ref q437, .int r434])), ((am 2), .inl (cI, n_m2, .inl b_m2)), (q437, .inl (cI, r435, .inl r436)), (h0, .inr (9, moF am known_h0 thrown_h0 wrong_h0 lastEnd_h0 r446 r447 r433 least_h0 found_h0)), ((am 5), .inr (8, [.ref a_all_m5, .int size_m5])), (a_all_m5, .inl (cI, n_a_all_m5, .inl b_a_all_m5))]) (cl' := 0 + C439) (sl' := 0 + S440) rfl rfl rfl rfl rfl rfl ?_
                                                refine j_if_eq (tgt := 560) d_Mo_readStatement_553 (by decide) (fun c450 => ?_) (fun c450 => ?_)
                                                · replace h := it_t c450 h
                                                  refine j_iconst (v := 0) d_Mo_readStatement_560 (by decide) ?_
                                                  replace h := lf_s h
                                                  obtain ⟨h, e1, e2⟩ := h
                                                  replace h := Prod.mk.inj h
                                                  obtain ⟨h9, h⟩ := h
                                                  subst h9
                                                  replace h := Prod.mk.inj h
                                                  obtain ⟨h9, h⟩ := h
                                                  subst h9
                                                  replace h := Prod.mk.inj h
                                                  obtain ⟨h9, h⟩ := h
                                                  subst h9
                                                  replace h := Prod.mk.inj h
                                                  obtain ⟨h9, h⟩ := h
                                                  subst h9
                                                  replace h := Prod.mk.inj h
                                                  obtain ⟨h9, h⟩ := h
                                                  subst h9
                                                  replace h := Prod.mk.inj h
                                                  obtain ⟨h9, h⟩ := h
                                                  subst h9
                                                  replace h := Prod.mk.inj h
                                                  obtain ⟨h9, h⟩ := h
                                                  subst h9
                                                  replace h := Prod.mk.inj h
                                                  obtain ⟨h9, h⟩ := h
                                                  subst h9
                                                  replace h := Prod.mk.inj h
                                                  obtain ⟨h9, h⟩ := h
                                                  subst h9
                                                  replace h := Prod.mk.inj h
                                                  obtain ⟨h9, h⟩ := h
                                                  subst h9
                                                  replace h := Prod.mk.inj h
                                                  obtain ⟨h9, h⟩ := h
                                                  subst h9
                                                  replace h := Prod.mk.inj h
                                                  obtain ⟨h9, h⟩ := h
                                                  subst h9
                                                  replace h := Prod.mk.inj h
                                                  obtain ⟨h9, h⟩ := h
                                                  subst h9
                                                  subst h
                                                  refine j_widen (cl' := mc) (sl' := ms) (by omega) (by omega) ?_
                                                  exact j_zret (w := [(h0, .inr (9, moF am known_h0 thrown_h0 wrong_h0 lastEnd_h0 r446 r447 r433 least_h0 found_h0)), ((am 5), .inr (8, [.ref a_all_m5, .int size_m5])), (a_all_m5, .inl (cI, n_a_all_m5, .inl b_a_all_m5)), ((am 20), .inr (8, [.ref q437, .int r434])), ((am 2), .inl (cI, n_m2, .inl b_m2)), ((am 21), .inr (8, [.ref a_all_m21, .int size_m21])), ((am 7), .inr (8, [.ref a_all_m7, .int size_m7])), (a_all_m7, .inl (cI, n_a_all_m7, .inl b_a_all_m7)), ((am 6), .inr (8, [.ref a_all_m6, .int size_m6])), (a_all_m6, .inl (cI, n_a_all_m6, .inl b_a_all_m6)), ((am 4), .inr (8, [.ref a_all_m4, .int size_m4])), (a_all_m4, .inl (cI, n_a_all_m4, .inl b_a_all_m4)), ((am 22), .inr (8, [.ref a_all_m22, .int size_m22])), (q437, .inl (cI, r435, .inl r436)), (a_all_m21, .inl (cI, n_a_all_m21, .inl b_a_all_m21)), (a_all_m22, .inl (cI, n_a_all_m22, .inl b_a_all_m22))]) hr (zb_n zb0) d_Mo_readStatement_561 [13, 14, 15, 10, 11, 0, 2, 3, 4, 5, 6, 7, 8, 12, 1, 9] rfl (by decide) ⟨q437, a_all_m21, a_all_m22, rfl, zb0, rfl⟩
                                                · replace h := it_f c450 h
                                                  refine j_iconst (v := 1) d_Mo_readStatement_556 (by decide) ?_
                                                  refine j_goto (tgt := 561) d_Mo_readStatement_557 (by decide) ?_
                                                  replace h := lf_s h
                                                  obtain ⟨h, e1, e2⟩ := h
                                                  replace h := Prod.mk.inj h
                                                  obtain ⟨h9, h⟩ := h
                                                  subst h9
                                                  replace h := Prod.mk.inj h
                                                  obtain ⟨h9, h⟩ := h
                                                  subst h9
                                                  replace h := Prod.mk.inj h
                                                  obtain ⟨h9, h⟩ := h
                                                  subst h9
                                                  replace h := Prod.mk.inj h
                                                  obtain ⟨h9, h⟩ := h
                                                  subst h9
                                                  replace h := Prod.mk.inj h
                                                  obtain ⟨h9, h⟩ := h
                                                  subst h9
                                                  replace h := Prod.mk.inj h
                                                  obtain ⟨h9, h⟩ := h
                                                  subst h9
                                                  replace h := Prod.mk.inj h
                                                  obtain ⟨h9, h⟩ := h
                                                  subst h9
                                                  replace h := Prod.mk.inj h
                                                  obtain ⟨h9, h⟩ := h
                                                  subst h9
                                                  replace h := Prod.mk.inj h
                                                  obtain ⟨h9, h⟩ := h
                                                  subst h9
                                                  replace h := Prod.mk.inj h
                                                  obtain ⟨h9, h⟩ := h
                                                  subst h9
                                                  replace h := Prod.mk.inj h
                                                  obtain ⟨h9, h⟩ := h
                                                  subst h9
                                                  replace h := Prod.mk.inj h
                                                  obtain ⟨h9, h⟩ := h
                                                  subst h9
                                                  replace h := Prod.mk.inj h
                                                  obtain ⟨h9, h⟩ := h
                                                  subst h9
                                                  subst h
                                                  refine j_widen (cl' := mc) (sl' := ms) (by omega) (by omega) ?_
                                                  exact j_zret (w := [(h0, .inr (9, moF am known_h0 thrown_h0 wrong_h0 lastEnd_h0 r446 r447 r433 least_h0 found_h0)), ((am 5), .inr (8, [.ref a_all_m5, .int size_m5])), (a_all_m5, .inl (cI, n_a_all_m5, .inl b_a_all_m5)), ((am 20), .inr (8, [.ref q437, .int r434])), ((am 2), .inl (cI, n_m2, .inl b_m2)), ((am 21), .inr (8, [.ref a_all_m21, .int size_m21])), ((am 7), .inr (8, [.ref a_all_m7, .int size_m7])), (a_all_m7, .inl (cI, n_a_all_m7, .inl b_a_all_m7)), ((am 6), .inr (8, [.ref a_all_m6, .int size_m6])), (a_all_m6, .inl (cI, n_a_all_m6, .inl b_a_all_m6)), ((am 4), .inr (8, [.ref a_all_m4, .int size_m4])), (a_all_m4, .inl (cI, n_a_all_m4, .inl b_a_all_m4)), ((am 22), .inr (8, [.ref a_all_m22, .int size_m22])), (q437, .inl (cI, r435, .inl r436)), (a_all_m21, .inl (cI, n_a_all_m21, .inl b_a_all_m21)), (a_all_m22, .inl (cI, n_a_all_m22, .inl b_a_all_m22))]) hr (zb_n zb1) d_Mo_readStatement_561 [13, 14, 15, 10, 11, 0, 2, 3, 4, 5, 6, 7, 8, 12, 1, 9] rfl (by decide) ⟨q437, a_all_m21, a_all_m22, rfl, zb1, rfl⟩
                                            · replace h := it_f c429 h
                                              by_cases c451 : (b_a_all_m5 (Int32.toNatClampNeg at_h0)) = 32
                                              · replace h := it_t c451 h
                                                refine j_tabIn (tgt := 540) (off := 534) d_Mo_readStatement_6 32 c451 (by decide) (by decide) (by decide) (by decide) ?_
                                                refine j_aload_n d_Mo_readStatement_540 rfl 1 rfl ?_
                                                replace h := bw_s h
                                                obtain ⟨⟨r452, r453, r454, r455, r456, r457, r458⟩, C461, S462, C463, S464, k465, h, e1, e2⟩ := h
                                                replace hC : 0 + C461 + C463 ≤ mc := by omega
                                                replace hS : 0 + S462 + S464 ≤ ms := by omega
                                                clear e1 e2
                                                refine j_callV (n := 0) (As := []) (rest := []) (wr := [((am 21), .inr (8, [.ref a_all_m21, .int size_m21])), (a_all_m21, .inl (cI, n_a_all_m21, .inl b_a_all_m21)), ((am 7), .inr (8, [.ref a_all_m7, .int size_m7])), (a_all_m7, .inl (cI, n_a_all_m7, .inl b_a_all_m7)), ((am 6), .inr (8, [.ref a_all_m6, .int size_m6])), (a_all_m6, .inl (cI, n_a_all_m6, .inl b_a_all_m6)), ((am 4), .inr (8, [.ref a_all_m4, .int size_m4])), (a_all_m4, .inl (cI, n_a_all_m4, .inl b_a_all_m4)), ((am 22), .inr (8, [.ref a_all_m22, .int size_m22])), (a_all_m22, .inl (cI, n_a_all_m22, .inl b_a_all_m22))]) (c_Mo_readWorking l D cI cB cJ cS h0 am a_all_m20 a_all_m5 known_h0 thrown_h0 wrong_h0 lastEnd_h0 at_h0 bad_h0 levels_h0 least_h0 found_h0 size_m20 size_m5 n_a_all_m5 b_a_all_m5 n_a_all_m20 b_a_all_m20 n_m2 b_m2  r452 r453 r454 r455 r456 r457 r458 C461 S462 k465) k_Mo_362 (by decide) ⟨Nat.le_of_ble_eq_true rfl, Nat.le_of_ble_eq_true rfl⟩ rfl 0 rfl [13, 0, 14, 15, 1, 2] [3, 4, 5, 6, 7, 8, 9, 10, 11, 12] rfl (by decide +kernel) rfl (by decide +kernel) (by decide +kernel) rfl rfl (Nat.le_of_ble_eq_true rfl) d_Mo_readStatement_541 ⟨show 0 + C461 ≤ mc by omega, show 0 + S462 ≤ ms by omega⟩ (fun v w hq => ?_)
                                                obtain ⟨q459, rfl, z460, rfl⟩ := hq
                                                refine j_norm (pc' := 544) (st' := [.int r452]) (ws' := [((am 21), .inr (8, [.ref a_all_m21, .int size_m21])), (a_all_m21, .inl (cI, n_a_all_m21, .inl b_a_all_m21)), ((am 7), .inr (8, [.ref a_all_m7, .int size_m7])), (a_all_m7, .inl (cI, n_a_all_m7, .inl b_a_all_m7)), ((am 6), .inr (8, [.ref a_all_m6, .int size_m6])), (a_all_m6, .inl (cI, n_a_all_m6, .inl b_a_all_m6)), ((am 4), .inr (8, [.ref a_all_m4, .int size_m4])), (a_all_m4, .inl (cI, n_a_all_m4, .inl b_a_all_m4)), ((am 22), .inr (8, [.ref a_all_m22, .int size_m22])), (a_all_m22, .inl (cI, n_a_all_m22, .inl b_a_all_m22)), (h0, .inr (9, moF am known_h0 thrown_h0 wrong_h0 lastEnd_h0 r453 r454 r455 least_h0 found_h0)), ((am 20), .inr (8, [.ref q459, .int r456])), ((am 5), .inr (8, [.ref a_all_m5, .int size_m5])), (a_all_m5, .inl (cI, n_a_all_m5, .inl b_a_all_m5)), ((am 2), .inl (cI, n_m2, .inl b_m2)), (q459, .inl (cI, r457, .inl r458))]) (cl' := 0 + C461) (sl' := 0 + S462) rfl rfl rfl rfl rfl rfl ?_
                                                refine j_if_eq (tgt := 560) d_Mo_readStatement_544 (by decide) (fun c466 => ?_) (fun c466 => ?_)
                                                · replace h := it_t c466 h
                                                  refine j_iconst (v := 0) d_Mo_readStatement_560 (by decide) ?_
                                                  replace h := lf_s h
                                                  obtain ⟨h, e1, e2⟩ := h
                                                  replace h := Prod.mk.inj h
                                                  obtain ⟨h9, h⟩ := h
                                                  subst h9
                                                  replace h := Prod.mk.inj h
                                                  obtain ⟨h9, h⟩ := h
                                                  subst h9
                                                  replace h := Prod.mk.inj h
                                                  obtain ⟨h9, h⟩ := h
                                                  subst h9
                                                  replace h := Prod.mk.inj h
                                                  obtain ⟨h9, h⟩ := h
                                                  subst h9
                                                  replace h := Prod.mk.inj h
                                                  obtain ⟨h9, h⟩ := h
                                                  subst h9
                                                  replace h := Prod.mk.inj h
                                                  obtain ⟨h9, h⟩ := h
                                                  subst h9
                                                  replace h := Prod.mk.inj h
                                                  obtain ⟨h9, h⟩ := h
                                                  subst h9
                                                  replace h := Prod.mk.inj h
                                                  obtain ⟨h9, h⟩ := h
                                                  subst h9
                                                  replace h := Prod.mk.inj h
                                                  obtain ⟨h9, h⟩ := h
                                                  subst h9
                                                  replace h := Prod.mk.inj h
                                                  obtain ⟨h9, h⟩ := h
                                                  subst h9
                                                  replace h := Prod.mk.inj h
                                                  obtain ⟨h9, h⟩ := h
                                                  subst h9
                                                  replace h := Prod.mk.inj h
                                                  obtain ⟨h9, h⟩ := h
                                                  subst h9
                                                  replace h := Prod.mk.inj h
                                                  obtain ⟨h9, h⟩ := h
                                                  subst h9
                                                  subst h
                                                  refine j_widen (cl' := mc) (sl' := ms) (by omega) (by omega) ?_
                                                  exact j_zret (w := [(h0, .inr (9, moF am known_h0 thrown_h0 wrong_h0 lastEnd_h0 r453 r454 r455 least_h0 found_h0)), ((am 5), .inr (8, [.ref a_all_m5, .int size_m5])), (a_all_m5, .inl (cI, n_a_all_m5, .inl b_a_all_m5)), ((am 20), .inr (8, [.ref q459, .int r456])), ((am 2), .inl (cI, n_m2, .inl b_m2)), ((am 21), .inr (8, [.ref a_all_m21, .int size_m21])), ((am 7), .inr (8, [.ref a_all_m7, .int size_m7])), (a_all_m7, .inl (cI, n_a_all_m7, .inl b_a_all_m7)), ((am 6), .inr (8, [.ref a_all_m6, .int size_m6])), (a_all_m6, .inl (cI, n_a_all_m6, .inl b_a_all_m6)), ((am 4), .inr (8, [.ref a_all_m4, .int size_m4])), (a_all_m4, .inl (cI, n_a_all_m4, .inl b_a_all_m4)), ((am 22), .inr (8, [.ref a_all_m22, .int size_m22])), (q459, .inl (cI, r457, .inl r458)), (a_all_m21, .inl (cI, n_a_all_m21, .inl b_a_all_m21)), (a_all_m22, .inl (cI, n_a_all_m22, .inl b_a_all_m22))]) hr (zb_n zb0) d_Mo_readStatement_561 [10, 12, 13, 11, 14, 0, 2, 3, 4, 5, 6, 7, 8, 15, 1, 9] rfl (by decide) ⟨q459, a_all_m21, a_all_m22, rfl, zb0, rfl⟩
                                                · replace h := it_f c466 h
                                                  refine j_aload_n d_Mo_readStatement_547 rfl 1 rfl ?_
                                                  refine j_bipush (v := 55) d_Mo_readStatement_548 (by decide) ?_
                                                  replace h := bd_s h
                                                  obtain ⟨⟨r467, r468, r469⟩, k471, h⟩ := h
                                                  refine j_callV (n := 1) (As := [.int 55]) (rest := []) (wr := [((am 21), .inr (8, [.ref a_all_m21, .int size_m21])), (a_all_m21, .inl (cI, n_a_all_m21, .inl b_a_all_m21)), ((am 7), .inr (8, [.ref a_all_m7, .int size_m7])), (a_all_m7, .inl (cI, n_a_all_m7, .inl b_a_all_m7)), ((am 6), .inr (8, [.ref a_all_m6, .int size_m6])), (a_all_m6, .inl (cI, n_a_all_m6, .inl b_a_all_m6)), ((am 4), .inr (8, [.ref a_all_m4, .int size_m4])), (a_all_m4, .inl (cI, n_a_all_m4, .inl b_a_all_m4)), ((am 22), .inr (8, [.ref a_all_m22, .int size_m22])), (a_all_m22, .inl (cI, n_a_all_m22, .inl b_a_all_m22)), ((am 20), .inr (8, [.ref q459, .int r456])), ((am 2), .inl (cI, n_m2, .inl b_m2)), (q459, .inl (cI, r457, .inl r458))]) (c_Mo_take l D cI cB cJ cS h0 am a_all_m5 55 known_h0 thrown_h0 wrong_h0 lastEnd_h0 r453 r454 r455 least_h0 found_h0 size_m5 n_a_all_m5 b_a_all_m5  r467 r468 r469 k471) k_Mo_285 (by decide) ⟨Nat.le_of_ble_eq_true rfl, Nat.le_of_ble_eq_true rfl⟩ rfl 0 rfl [10, 12, 13] [0, 1, 2, 3, 4, 5, 6, 7, 8, 9, 11, 14, 15] rfl (by decide +kernel) rfl (by decide +kernel) (by decide +kernel) rfl rfl (Nat.le_of_ble_eq_true rfl) d_Mo_readStatement_550 ⟨show 0 + C461 + 0 ≤ mc by omega, show 0 + S462 + 0 ≤ ms by omega⟩ (fun v w hq => ?_)
                                                  obtain ⟨rfl, z470, rfl⟩ := hq
                                                  refine j_norm (pc' := 553) (st' := [.int r467]) (ws' := [((am 21), .inr (8, [.ref a_all_m21, .int size_m21])), (a_all_m21, .inl (cI, n_a_all_m21, .inl b_a_all_m21)), ((am 7), .inr (8, [.ref a_all_m7, .int size_m7])), (a_all_m7, .inl (cI, n_a_all_m7, .inl b_a_all_m7)), ((am 6), .inr (8, [.ref a_all_m6, .int size_m6])), (a_all_m6, .inl (cI, n_a_all_m6, .inl b_a_all_m6)), ((am 4), .inr (8, [.ref a_all_m4, .int size_m4])), (a_all_m4, .inl (cI, n_a_all_m4, .inl b_a_all_m4)), ((am 22), .inr (8, [.ref a_all_m22, .int size_m22])), (a_all_m22, .inl (cI, n_a_all_m22, .inl b_a_all_m22)), ((am 20), .inr (8, [.ref q459, .int r456])), ((am 2), .inl (cI, n_m2, .inl b_m2)), (q459, .inl (cI, r457, .inl r458)), (h0, .inr (9, moF am known_h0 thrown_h0 wrong_h0 lastEnd_h0 r468 r469 r455 least_h0 found_h0)), ((am 5), .inr (8, [.ref a_all_m5, .int size_m5])), (a_all_m5, .inl (cI, n_a_all_m5, .inl b_a_all_m5))]) (cl' := 0 + C461) (sl' := 0 + S462) rfl rfl rfl rfl rfl rfl ?_
                                                  refine j_if_eq (tgt := 560) d_Mo_readStatement_553 (by decide) (fun c472 => ?_) (fun c472 => ?_)
                                                  · replace h := it_t c472 h
                                                    refine j_iconst (v := 0) d_Mo_readStatement_560 (by decide) ?_
                                                    replace h := lf_s h
                                                    obtain ⟨h, e1, e2⟩ := h
                                                    replace h := Prod.mk.inj h
                                                    obtain ⟨h9, h⟩ := h
                                                    subst h9
                                                    replace h := Prod.mk.inj h
                                                    obtain ⟨h9, h⟩ := h
                                                    subst h9
                                                    replace h := Prod.mk.inj h
                                                    obtain ⟨h9, h⟩ := h
                                                    subst h9
                                                    replace h := Prod.mk.inj h
                                                    obtain ⟨h9, h⟩ := h
                                                    subst h9
                                                    replace h := Prod.mk.inj h
                                                    obtain ⟨h9, h⟩ := h
                                                    subst h9
                                                    replace h := Prod.mk.inj h
                                                    obtain ⟨h9, h⟩ := h
                                                    subst h9
                                                    replace h := Prod.mk.inj h
                                                    obtain ⟨h9, h⟩ := h
                                                    subst h9
                                                    replace h := Prod.mk.inj h
                                                    obtain ⟨h9, h⟩ := h
                                                    subst h9
                                                    replace h := Prod.mk.inj h
                                                    obtain ⟨h9, h⟩ := h
                                                    subst h9
                                                    replace h := Prod.mk.inj h
                                                    obtain ⟨h9, h⟩ := h
                                                    subst h9
                                                    replace h := Prod.mk.inj h
                                                    obtain ⟨h9, h⟩ := h
                                                    subst h9
                                                    replace h := Prod.mk.inj h
                                                    obtain ⟨h9, h⟩ := h
                                                    subst h9
                                                    replace h := Prod.mk.inj h
                                                    obtain ⟨h9, h⟩ := h
                                                    subst h9
                                                    subst h
                                                    refine j_widen (cl' := mc) (sl' := ms) (by omega) (by omega) ?_
                                                    exact j_zret (w := [(h0, .inr (9, moF am known_h0 thrown_h0 wrong_h0 lastEnd_h0 r468 r469 r455 least_h0 found_h0)), ((am 5), .inr (8, [.ref a_all_m5, .int size_m5])), (a_all_m5, .inl (cI, n_a_all_m5, .inl b_a_all_m5)), ((am 20), .inr (8, [.ref q459, .int r456])), ((am 2), .inl (cI, n_m2, .inl b_m2)), ((am 21), .inr (8, [.ref a_all_m21, .int size_m21])), ((am 7), .inr (8, [.ref a_all_m7, .int size_m7])), (a_all_m7, .inl (cI, n_a_all_m7, .inl b_a_all_m7)), ((am 6), .inr (8, [.ref a_all_m6, .int size_m6])), (a_all_m6, .inl (cI, n_a_all_m6, .inl b_a_all_m6)), ((am 4), .inr (8, [.ref a_all_m4, .int size_m4])), (a_all_m4, .inl (cI, n_a_all_m4, .inl b_a_all_m4)), ((am 22), .inr (8, [.ref a_all_m22, .int size_m22])), (q459, .inl (cI, r457, .inl r458)), (a_all_m21, .inl (cI, n_a_all_m21, .inl b_a_all_m21)), (a_all_m22, .inl (cI, n_a_all_m22, .inl b_a_all_m22))]) hr (zb_n zb0) d_Mo_readStatement_561 [13, 14, 15, 10, 11, 0, 2, 3, 4, 5, 6, 7, 8, 12, 1, 9] rfl (by decide) ⟨q459, a_all_m21, a_all_m22, rfl, zb0, rfl⟩
                                                  · replace h := it_f c472 h
                                                    refine j_iconst (v := 1) d_Mo_readStatement_556 (by decide) ?_
                                                    refine j_goto (tgt := 561) d_Mo_readStatement_557 (by decide) ?_
                                                    replace h := lf_s h
                                                    obtain ⟨h, e1, e2⟩ := h
                                                    replace h := Prod.mk.inj h
                                                    obtain ⟨h9, h⟩ := h
                                                    subst h9
                                                    replace h := Prod.mk.inj h
                                                    obtain ⟨h9, h⟩ := h
                                                    subst h9
                                                    replace h := Prod.mk.inj h
                                                    obtain ⟨h9, h⟩ := h
                                                    subst h9
                                                    replace h := Prod.mk.inj h
                                                    obtain ⟨h9, h⟩ := h
                                                    subst h9
                                                    replace h := Prod.mk.inj h
                                                    obtain ⟨h9, h⟩ := h
                                                    subst h9
                                                    replace h := Prod.mk.inj h
                                                    obtain ⟨h9, h⟩ := h
                                                    subst h9
                                                    replace h := Prod.mk.inj h
                                                    obtain ⟨h9, h⟩ := h
                                                    subst h9
                                                    replace h := Prod.mk.inj h
                                                    obtain ⟨h9, h⟩ := h
                                                    subst h9
                                                    replace h := Prod.mk.inj h
                                                    obtain ⟨h9, h⟩ := h
                                                    subst h9
                                                    replace h := Prod.mk.inj h
                                                    obtain ⟨h9, h⟩ := h
                                                    subst h9
                                                    replace h := Prod.mk.inj h
                                                    obtain ⟨h9, h⟩ := h
                                                    subst h9
                                                    replace h := Prod.mk.inj h
                                                    obtain ⟨h9, h⟩ := h
                                                    subst h9
                                                    replace h := Prod.mk.inj h
                                                    obtain ⟨h9, h⟩ := h
                                                    subst h9
                                                    subst h
                                                    refine j_widen (cl' := mc) (sl' := ms) (by omega) (by omega) ?_
                                                    exact j_zret (w := [(h0, .inr (9, moF am known_h0 thrown_h0 wrong_h0 lastEnd_h0 r468 r469 r455 least_h0 found_h0)), ((am 5), .inr (8, [.ref a_all_m5, .int size_m5])), (a_all_m5, .inl (cI, n_a_all_m5, .inl b_a_all_m5)), ((am 20), .inr (8, [.ref q459, .int r456])), ((am 2), .inl (cI, n_m2, .inl b_m2)), ((am 21), .inr (8, [.ref a_all_m21, .int size_m21])), ((am 7), .inr (8, [.ref a_all_m7, .int size_m7])), (a_all_m7, .inl (cI, n_a_all_m7, .inl b_a_all_m7)), ((am 6), .inr (8, [.ref a_all_m6, .int size_m6])), (a_all_m6, .inl (cI, n_a_all_m6, .inl b_a_all_m6)), ((am 4), .inr (8, [.ref a_all_m4, .int size_m4])), (a_all_m4, .inl (cI, n_a_all_m4, .inl b_a_all_m4)), ((am 22), .inr (8, [.ref a_all_m22, .int size_m22])), (q459, .inl (cI, r457, .inl r458)), (a_all_m21, .inl (cI, n_a_all_m21, .inl b_a_all_m21)), (a_all_m22, .inl (cI, n_a_all_m22, .inl b_a_all_m22))]) hr (zb_n zb1) d_Mo_readStatement_561 [13, 14, 15, 10, 11, 0, 2, 3, 4, 5, 6, 7, 8, 12, 1, 9] rfl (by decide) ⟨q459, a_all_m21, a_all_m22, rfl, zb1, rfl⟩
                                              · replace h := it_f c451 h
                                                by_cases c473 : (b_a_all_m5 (Int32.toNatClampNeg at_h0)) = 33
                                                · replace h := it_t c473 h
                                                  refine j_tabIn (tgt := 540) (off := 534) d_Mo_readStatement_6 33 c473 (by decide) (by decide) (by decide) (by decide) ?_
                                                  refine j_aload_n d_Mo_readStatement_540 rfl 1 rfl ?_
                                                  replace h := bw_s h
                                                  obtain ⟨⟨r474, r475, r476, r477, r478, r479, r480⟩, C483, S484, C485, S486, k487, h, e1, e2⟩ := h
                                                  replace hC : 0 + C483 + C485 ≤ mc := by omega
                                                  replace hS : 0 + S484 + S486 ≤ ms := by omega
                                                  clear e1 e2
                                                  refine j_callV (n := 0) (As := []) (rest := []) (wr := [((am 21), .inr (8, [.ref a_all_m21, .int size_m21])), (a_all_m21, .inl (cI, n_a_all_m21, .inl b_a_all_m21)), ((am 7), .inr (8, [.ref a_all_m7, .int size_m7])), (a_all_m7, .inl (cI, n_a_all_m7, .inl b_a_all_m7)), ((am 6), .inr (8, [.ref a_all_m6, .int size_m6])), (a_all_m6, .inl (cI, n_a_all_m6, .inl b_a_all_m6)), ((am 4), .inr (8, [.ref a_all_m4, .int size_m4])), (a_all_m4, .inl (cI, n_a_all_m4, .inl b_a_all_m4)), ((am 22), .inr (8, [.ref a_all_m22, .int size_m22])), (a_all_m22, .inl (cI, n_a_all_m22, .inl b_a_all_m22))]) (c_Mo_readWorking l D cI cB cJ cS h0 am a_all_m20 a_all_m5 known_h0 thrown_h0 wrong_h0 lastEnd_h0 at_h0 bad_h0 levels_h0 least_h0 found_h0 size_m20 size_m5 n_a_all_m5 b_a_all_m5 n_a_all_m20 b_a_all_m20 n_m2 b_m2  r474 r475 r476 r477 r478 r479 r480 C483 S484 k487) k_Mo_362 (by decide) ⟨Nat.le_of_ble_eq_true rfl, Nat.le_of_ble_eq_true rfl⟩ rfl 0 rfl [13, 0, 14, 15, 1, 2] [3, 4, 5, 6, 7, 8, 9, 10, 11, 12] rfl (by decide +kernel) rfl (by decide +kernel) (by decide +kernel) rfl rfl (Nat.le_of_ble_eq_true rfl) d_Mo_readStatement_541 ⟨show 0 + C483 ≤ mc by omega, show 0 + S484 ≤ ms by omega⟩ (fun v w hq => ?_)
                                                  obtain ⟨q481, rfl, z482, rfl⟩ := hq
                                                  refine j_norm (pc' := 544) (st' := [.int r474]) (ws' := [((am 21), .inr (8, [.ref a_all_m21, .int size_m21])), (a_all_m21, .inl (cI, n_a_all_m21, .inl b_a_all_m21)), ((am 7), .inr (8, [.ref a_all_m7, .int size_m7])), (a_all_m7, .inl (cI, n_a_all_m7, .inl b_a_all_m7)), ((am 6), .inr (8, [.ref a_all_m6, .int size_m6])), (a_all_m6, .inl (cI, n_a_all_m6, .inl b_a_all_m6)), ((am 4), .inr (8, [.ref a_all_m4, .int size_m4])), (a_all_m4, .inl (cI, n_a_all_m4, .inl b_a_all_m4)), ((am 22), .inr (8, [.ref a_all_m22, .int size_m22])), (a_all_m22, .inl (cI, n_a_all_m22, .inl b_a_all_m22)), (h0, .inr (9, moF am known_h0 thrown_h0 wrong_h0 lastEnd_h0 r475 r476 r477 least_h0 found_h0)), ((am 20), .inr (8, [.ref q481, .int r478])), ((am 5), .inr (8, [.ref a_all_m5, .int size_m5])), (a_all_m5, .inl (cI, n_a_all_m5, .inl b_a_all_m5)), ((am 2), .inl (cI, n_m2, .inl b_m2)), (q481, .inl (cI, r479, .inl r480))]) (cl' := 0 + C483) (sl' := 0 + S484) rfl rfl rfl rfl rfl rfl ?_
                                                  refine j_if_eq (tgt := 560) d_Mo_readStatement_544 (by decide) (fun c488 => ?_) (fun c488 => ?_)
                                                  · replace h := it_t c488 h
                                                    refine j_iconst (v := 0) d_Mo_readStatement_560 (by decide) ?_
                                                    replace h := lf_s h
                                                    obtain ⟨h, e1, e2⟩ := h
                                                    replace h := Prod.mk.inj h
                                                    obtain ⟨h9, h⟩ := h
                                                    subst h9
                                                    replace h := Prod.mk.inj h
                                                    obtain ⟨h9, h⟩ := h
                                                    subst h9
                                                    replace h := Prod.mk.inj h
                                                    obtain ⟨h9, h⟩ := h
                                                    subst h9
                                                    replace h := Prod.mk.inj h
                                                    obtain ⟨h9, h⟩ := h
                                                    subst h9
                                                    replace h := Prod.mk.inj h
                                                    obtain ⟨h9, h⟩ := h
                                                    subst h9
                                                    replace h := Prod.mk.inj h
                                                    obtain ⟨h9, h⟩ := h
                                                    subst h9
                                                    replace h := Prod.mk.inj h
                                                    obtain ⟨h9, h⟩ := h
                                                    subst h9
                                                    replace h := Prod.mk.inj h
                                                    obtain ⟨h9, h⟩ := h
                                                    subst h9
                                                    replace h := Prod.mk.inj h
                                                    obtain ⟨h9, h⟩ := h
                                                    subst h9
                                                    replace h := Prod.mk.inj h
                                                    obtain ⟨h9, h⟩ := h
                                                    subst h9
                                                    replace h := Prod.mk.inj h
                                                    obtain ⟨h9, h⟩ := h
                                                    subst h9
                                                    replace h := Prod.mk.inj h
                                                    obtain ⟨h9, h⟩ := h
                                                    subst h9
                                                    replace h := Prod.mk.inj h
                                                    obtain ⟨h9, h⟩ := h
                                                    subst h9
                                                    subst h
                                                    refine j_widen (cl' := mc) (sl' := ms) (by omega) (by omega) ?_
                                                    exact j_zret (w := [(h0, .inr (9, moF am known_h0 thrown_h0 wrong_h0 lastEnd_h0 r475 r476 r477 least_h0 found_h0)), ((am 5), .inr (8, [.ref a_all_m5, .int size_m5])), (a_all_m5, .inl (cI, n_a_all_m5, .inl b_a_all_m5)), ((am 20), .inr (8, [.ref q481, .int r478])), ((am 2), .inl (cI, n_m2, .inl b_m2)), ((am 21), .inr (8, [.ref a_all_m21, .int size_m21])), ((am 7), .inr (8, [.ref a_all_m7, .int size_m7])), (a_all_m7, .inl (cI, n_a_all_m7, .inl b_a_all_m7)), ((am 6), .inr (8, [.ref a_all_m6, .int size_m6])), (a_all_m6, .inl (cI, n_a_all_m6, .inl b_a_all_m6)), ((am 4), .inr (8, [.ref a_all_m4, .int size_m4])), (a_all_m4, .inl (cI, n_a_all_m4, .inl b_a_all_m4)), ((am 22), .inr (8, [.ref a_all_m22, .int size_m22])), (q481, .inl (cI, r479, .inl r480)), (a_all_m21, .inl (cI, n_a_all_m21, .inl b_a_all_m21)), (a_all_m22, .inl (cI, n_a_all_m22, .inl b_a_all_m22))]) hr (zb_n zb0) d_Mo_readStatement_561 [10, 12, 13, 11, 14, 0, 2, 3, 4, 5, 6, 7, 8, 15, 1, 9] rfl (by decide) ⟨q481, a_all_m21, a_all_m22, rfl, zb0, rfl⟩
                                                  · replace h := it_f c488 h
                                                    refine j_aload_n d_Mo_readStatement_547 rfl 1 rfl ?_
                                                    refine j_bipush (v := 55) d_Mo_readStatement_548 (by decide) ?_
                                                    replace h := bd_s h
                                                    obtain ⟨⟨r489, r490, r491⟩, k493, h⟩ := h
                                                    refine j_callV (n := 1) (As := [.int 55]) (rest := []) (wr := [((am 21), .inr (8, [.ref a_all_m21, .int size_m21])), (a_all_m21, .inl (cI, n_a_all_m21, .inl b_a_all_m21)), ((am 7), .inr (8, [.ref a_all_m7, .int size_m7])), (a_all_m7, .inl (cI, n_a_all_m7, .inl b_a_all_m7)), ((am 6), .inr (8, [.ref a_all_m6, .int size_m6])), (a_all_m6, .inl (cI, n_a_all_m6, .inl b_a_all_m6)), ((am 4), .inr (8, [.ref a_all_m4, .int size_m4])), (a_all_m4, .inl (cI, n_a_all_m4, .inl b_a_all_m4)), ((am 22), .inr (8, [.ref a_all_m22, .int size_m22])), (a_all_m22, .inl (cI, n_a_all_m22, .inl b_a_all_m22)), ((am 20), .inr (8, [.ref q481, .int r478])), ((am 2), .inl (cI, n_m2, .inl b_m2)), (q481, .inl (cI, r479, .inl r480))]) (c_Mo_take l D cI cB cJ cS h0 am a_all_m5 55 known_h0 thrown_h0 wrong_h0 lastEnd_h0 r475 r476 r477 least_h0 found_h0 size_m5 n_a_all_m5 b_a_all_m5  r489 r490 r491 k493) k_Mo_285 (by decide) ⟨Nat.le_of_ble_eq_true rfl, Nat.le_of_ble_eq_true rfl⟩ rfl 0 rfl [10, 12, 13] [0, 1, 2, 3, 4, 5, 6, 7, 8, 9, 11, 14, 15] rfl (by decide +kernel) rfl (by decide +kernel) (by decide +kernel) rfl rfl (Nat.le_of_ble_eq_true rfl) d_Mo_readStatement_550 ⟨show 0 + C483 + 0 ≤ mc by omega, show 0 + S484 + 0 ≤ ms by omega⟩ (fun v w hq => ?_)
                                                    obtain ⟨rfl, z492, rfl⟩ := hq
                                                    refine j_norm (pc' := 553) (st' := [.int r489]) (ws' := [((am 21), .inr (8, [.ref a_all_m21, .int size_m21])), (a_all_m21, .inl (cI, n_a_all_m21, .inl b_a_all_m21)), ((am 7), .inr (8, [.ref a_all_m7, .int size_m7])), (a_all_m7, .inl (cI, n_a_all_m7, .inl b_a_all_m7)), ((am 6), .inr (8, [.ref a_all_m6, .int size_m6])), (a_all_m6, .inl (cI, n_a_all_m6, .inl b_a_all_m6)), ((am 4), .inr (8, [.ref a_all_m4, .int size_m4])), (a_all_m4, .inl (cI, n_a_all_m4, .inl b_a_all_m4)), ((am 22), .inr (8, [.ref a_all_m22, .int size_m22])), (a_all_m22, .inl (cI, n_a_all_m22, .inl b_a_all_m22)), ((am 20), .inr (8, [.ref q481, .int r478])), ((am 2), .inl (cI, n_m2, .inl b_m2)), (q481, .inl (cI, r479, .inl r480)), (h0, .inr (9, moF am known_h0 thrown_h0 wrong_h0 lastEnd_h0 r490 r491 r477 least_h0 found_h0)), ((am 5), .inr (8, [.ref a_all_m5, .int size_m5])), (a_all_m5, .inl (cI, n_a_all_m5, .inl b_a_all_m5))]) (cl' := 0 + C483) (sl' := 0 + S484) rfl rfl rfl rfl rfl rfl ?_
                                                    refine j_if_eq (tgt := 560) d_Mo_readStatement_553 (by decide) (fun c494 => ?_) (fun c494 => ?_)
                                                    · replace h := it_t c494 h
                                                      refine j_iconst (v := 0) d_Mo_readStatement_560 (by decide) ?_
                                                      replace h := lf_s h
                                                      obtain ⟨h, e1, e2⟩ := h
                                                      replace h := Prod.mk.inj h
                                                      obtain ⟨h9, h⟩ := h
                                                      subst h9
                                                      replace h := Prod.mk.inj h
                                                      obtain ⟨h9, h⟩ := h
                                                      subst h9
                                                      replace h := Prod.mk.inj h
                                                      obtain ⟨h9, h⟩ := h
                                                      subst h9
                                                      replace h := Prod.mk.inj h
                                                      obtain ⟨h9, h⟩ := h
                                                      subst h9
                                                      replace h := Prod.mk.inj h
                                                      obtain ⟨h9, h⟩ := h
                                                      subst h9
                                                      replace h := Prod.mk.inj h
                                                      obtain ⟨h9, h⟩ := h
                                                      subst h9
                                                      replace h := Prod.mk.inj h
                                                      obtain ⟨h9, h⟩ := h
                                                      subst h9
                                                      replace h := Prod.mk.inj h
                                                      obtain ⟨h9, h⟩ := h
                                                      subst h9
                                                      replace h := Prod.mk.inj h
                                                      obtain ⟨h9, h⟩ := h
                                                      subst h9
                                                      replace h := Prod.mk.inj h
                                                      obtain ⟨h9, h⟩ := h
                                                      subst h9
                                                      replace h := Prod.mk.inj h
                                                      obtain ⟨h9, h⟩ := h
                                                      subst h9
                                                      replace h := Prod.mk.inj h
                                                      obtain ⟨h9, h⟩ := h
                                                      subst h9
                                                      replace h := Prod.mk.inj h
                                                      obtain ⟨h9, h⟩ := h
                                                      subst h9
                                                      subst h
                                                      refine j_widen (cl' := mc) (sl' := ms) (by omega) (by omega) ?_
                                                      exact j_zret (w := [(h0, .inr (9, moF am known_h0 thrown_h0 wrong_h0 lastEnd_h0 r490 r491 r477 least_h0 found_h0)), ((am 5), .inr (8, [.ref a_all_m5, .int size_m5])), (a_all_m5, .inl (cI, n_a_all_m5, .inl b_a_all_m5)), ((am 20), .inr (8, [.ref q481, .int r478])), ((am 2), .inl (cI, n_m2, .inl b_m2)), ((am 21), .inr (8, [.ref a_all_m21, .int size_m21])), ((am 7), .inr (8, [.ref a_all_m7, .int size_m7])), (a_all_m7, .inl (cI, n_a_all_m7, .inl b_a_all_m7)), ((am 6), .inr (8, [.ref a_all_m6, .int size_m6])), (a_all_m6, .inl (cI, n_a_all_m6, .inl b_a_all_m6)), ((am 4), .inr (8, [.ref a_all_m4, .int size_m4])), (a_all_m4, .inl (cI, n_a_all_m4, .inl b_a_all_m4)), ((am 22), .inr (8, [.ref a_all_m22, .int size_m22])), (q481, .inl (cI, r479, .inl r480)), (a_all_m21, .inl (cI, n_a_all_m21, .inl b_a_all_m21)), (a_all_m22, .inl (cI, n_a_all_m22, .inl b_a_all_m22))]) hr (zb_n zb0) d_Mo_readStatement_561 [13, 14, 15, 10, 11, 0, 2, 3, 4, 5, 6, 7, 8, 12, 1, 9] rfl (by decide) ⟨q481, a_all_m21, a_all_m22, rfl, zb0, rfl⟩
                                                    · replace h := it_f c494 h
                                                      refine j_iconst (v := 1) d_Mo_readStatement_556 (by decide) ?_
                                                      refine j_goto (tgt := 561) d_Mo_readStatement_557 (by decide) ?_
                                                      replace h := lf_s h
                                                      obtain ⟨h, e1, e2⟩ := h
                                                      replace h := Prod.mk.inj h
                                                      obtain ⟨h9, h⟩ := h
                                                      subst h9
                                                      replace h := Prod.mk.inj h
                                                      obtain ⟨h9, h⟩ := h
                                                      subst h9
                                                      replace h := Prod.mk.inj h
                                                      obtain ⟨h9, h⟩ := h
                                                      subst h9
                                                      replace h := Prod.mk.inj h
                                                      obtain ⟨h9, h⟩ := h
                                                      subst h9
                                                      replace h := Prod.mk.inj h
                                                      obtain ⟨h9, h⟩ := h
                                                      subst h9
                                                      replace h := Prod.mk.inj h
                                                      obtain ⟨h9, h⟩ := h
                                                      subst h9
                                                      replace h := Prod.mk.inj h
                                                      obtain ⟨h9, h⟩ := h
                                                      subst h9
                                                      replace h := Prod.mk.inj h
                                                      obtain ⟨h9, h⟩ := h
                                                      subst h9
                                                      replace h := Prod.mk.inj h
                                                      obtain ⟨h9, h⟩ := h
                                                      subst h9
                                                      replace h := Prod.mk.inj h
                                                      obtain ⟨h9, h⟩ := h
                                                      subst h9
                                                      replace h := Prod.mk.inj h
                                                      obtain ⟨h9, h⟩ := h
                                                      subst h9
                                                      replace h := Prod.mk.inj h
                                                      obtain ⟨h9, h⟩ := h
                                                      subst h9
                                                      replace h := Prod.mk.inj h
                                                      obtain ⟨h9, h⟩ := h
                                                      subst h9
                                                      subst h
                                                      refine j_widen (cl' := mc) (sl' := ms) (by omega) (by omega) ?_
                                                      exact j_zret (w := [(h0, .inr (9, moF am known_h0 thrown_h0 wrong_h0 lastEnd_h0 r490 r491 r477 least_h0 found_h0)), ((am 5), .inr (8, [.ref a_all_m5, .int size_m5])), (a_all_m5, .inl (cI, n_a_all_m5, .inl b_a_all_m5)), ((am 20), .inr (8, [.ref q481, .int r478])), ((am 2), .inl (cI, n_m2, .inl b_m2)), ((am 21), .inr (8, [.ref a_all_m21, .int size_m21])), ((am 7), .inr (8, [.ref a_all_m7, .int size_m7])), (a_all_m7, .inl (cI, n_a_all_m7, .inl b_a_all_m7)), ((am 6), .inr (8, [.ref a_all_m6, .int size_m6])), (a_all_m6, .inl (cI, n_a_all_m6, .inl b_a_all_m6)), ((am 4), .inr (8, [.ref a_all_m4, .int size_m4])), (a_all_m4, .inl (cI, n_a_all_m4, .inl b_a_all_m4)), ((am 22), .inr (8, [.ref a_all_m22, .int size_m22])), (q481, .inl (cI, r479, .inl r480)), (a_all_m21, .inl (cI, n_a_all_m21, .inl b_a_all_m21)), (a_all_m22, .inl (cI, n_a_all_m22, .inl b_a_all_m22))]) hr (zb_n zb1) d_Mo_readStatement_561 [13, 14, 15, 10, 11, 0, 2, 3, 4, 5, 6, 7, 8, 12, 1, 9] rfl (by decide) ⟨q481, a_all_m21, a_all_m22, rfl, zb1, rfl⟩
                                                · replace h := it_f c473 h
                                                  by_cases c495 : (b_a_all_m5 (Int32.toNatClampNeg at_h0)) = 34
                                                  · replace h := it_t c495 h
                                                    refine j_tabIn (tgt := 540) (off := 534) d_Mo_readStatement_6 34 c495 (by decide) (by decide) (by decide) (by decide) ?_
                                                    refine j_aload_n d_Mo_readStatement_540 rfl 1 rfl ?_
                                                    replace h := bw_s h
                                                    obtain ⟨⟨r496, r497, r498, r499, r500, r501, r502⟩, C505, S506, C507, S508, k509, h, e1, e2⟩ := h
                                                    replace hC : 0 + C505 + C507 ≤ mc := by omega
                                                    replace hS : 0 + S506 + S508 ≤ ms := by omega
                                                    clear e1 e2
                                                    refine j_callV (n := 0) (As := []) (rest := []) (wr := [((am 21), .inr (8, [.ref a_all_m21, .int size_m21])), (a_all_m21, .inl (cI, n_a_all_m21, .inl b_a_all_m21)), ((am 7), .inr (8, [.ref a_all_m7, .int size_m7])), (a_all_m7, .inl (cI, n_a_all_m7, .inl b_a_all_m7)), ((am 6), .inr (8, [.ref a_all_m6, .int size_m6])), (a_all_m6, .inl (cI, n_a_all_m6, .inl b_a_all_m6)), ((am 4), .inr (8, [.ref a_all_m4, .int size_m4])), (a_all_m4, .inl (cI, n_a_all_m4, .inl b_a_all_m4)), ((am 22), .inr (8, [.ref a_all_m22, .int size_m22])), (a_all_m22, .inl (cI, n_a_all_m22, .inl b_a_all_m22))]) (c_Mo_readWorking l D cI cB cJ cS h0 am a_all_m20 a_all_m5 known_h0 thrown_h0 wrong_h0 lastEnd_h0 at_h0 bad_h0 levels_h0 least_h0 found_h0 size_m20 size_m5 n_a_all_m5 b_a_all_m5 n_a_all_m20 b_a_all_m20 n_m2 b_m2  r496 r497 r498 r499 r500 r501 r502 C505 S506 k509) k_Mo_362 (by decide) ⟨Nat.le_of_ble_eq_true rfl, Nat.le_of_ble_eq_true rfl⟩ rfl 0 rfl [13, 0, 14, 15, 1, 2] [3, 4, 5, 6, 7, 8, 9, 10, 11, 12] rfl (by decide +kernel) rfl (by decide +kernel) (by decide +kernel) rfl rfl (Nat.le_of_ble_eq_true rfl) d_Mo_readStatement_541 ⟨show 0 + C505 ≤ mc by omega, show 0 + S506 ≤ ms by omega⟩ (fun v w hq => ?_)
                                                    obtain ⟨q503, rfl, z504, rfl⟩ := hq
                                                    refine j_norm (pc' := 544) (st' := [.int r496]) (ws' := [((am 21), .inr (8, [.ref a_all_m21, .int size_m21])), (a_all_m21, .inl (cI, n_a_all_m21, .inl b_a_all_m21)), ((am 7), .inr (8, [.ref a_all_m7, .int size_m7])), (a_all_m7, .inl (cI, n_a_all_m7, .inl b_a_all_m7)), ((am 6), .inr (8, [.ref a_all_m6, .int size_m6])), (a_all_m6, .inl (cI, n_a_all_m6, .inl b_a_all_m6)), ((am 4), .inr (8, [.ref a_all_m4, .int size_m4])), (a_all_m4, .inl (cI, n_a_all_m4, .inl b_a_all_m4)), ((am 22), .inr (8, [.ref a_all_m22, .int size_m22])), (a_all_m22, .inl (cI, n_a_all_m22, .inl b_a_all_m22)), (h0, .inr (9, moF am known_h0 thrown_h0 wrong_h0 lastEnd_h0 r497 r498 r499 least_h0 found_h0)), ((am 20), .inr (8, [.ref q503, .int r500])), ((am 5), .inr (8, [.ref a_all_m5, .int size_m5])), (a_all_m5, .inl (cI, n_a_all_m5, .inl b_a_all_m5)), ((am 2), .inl (cI, n_m2, .inl b_m2)), (q503, .inl (cI, r501, .inl r502))]) (cl' := 0 + C505) (sl' := 0 + S506) rfl rfl rfl rfl rfl rfl ?_
                                                    refine j_if_eq (tgt := 560) d_Mo_readStatement_544 (by decide) (fun c510 => ?_) (fun c510 => ?_)
                                                    · replace h := it_t c510 h
                                                      refine j_iconst (v := 0) d_Mo_readStatement_560 (by decide) ?_
                                                      replace h := lf_s h
                                                      obtain ⟨h, e1, e2⟩ := h
                                                      replace h := Prod.mk.inj h
                                                      obtain ⟨h9, h⟩ := h
                                                      subst h9
                                                      replace h := Prod.mk.inj h
                                                      obtain ⟨h9, h⟩ := h
                                                      subst h9
                                                      replace h := Prod.mk.inj h
                                                      obtain ⟨h9, h⟩ := h
                                                      subst h9
                                                      replace h := Prod.mk.inj h
                                                      obtain ⟨h9, h⟩ := h
                                                      subst h9
                                                      replace h := Prod.mk.inj h
                                                      obtain ⟨h9, h⟩ := h
                                                      subst h9
                                                      replace h := Prod.mk.inj h
                                                      obtain ⟨h9, h⟩ := h
                                                      subst h9
                                                      replace h := Prod.mk.inj h
                                                      obtain ⟨h9, h⟩ := h
                                                      subst h9
                                                      replace h := Prod.mk.inj h
                                                      obtain ⟨h9, h⟩ := h
                                                      subst h9
                                                      replace h := Prod.mk.inj h
                                                      obtain ⟨h9, h⟩ := h
                                                      subst h9
                                                      replace h := Prod.mk.inj h
                                                      obtain ⟨h9, h⟩ := h
                                                      subst h9
                                                      replace h := Prod.mk.inj h
                                                      obtain ⟨h9, h⟩ := h
                                                      subst h9
                                                      replace h := Prod.mk.inj h
                                                      obtain ⟨h9, h⟩ := h
                                                      subst h9
                                                      replace h := Prod.mk.inj h
                                                      obtain ⟨h9, h⟩ := h
                                                      subst h9
                                                      subst h
                                                      refine j_widen (cl' := mc) (sl' := ms) (by omega) (by omega) ?_
                                                      exact j_zret (w := [(h0, .inr (9, moF am known_h0 thrown_h0 wrong_h0 lastEnd_h0 r497 r498 r499 least_h0 found_h0)), ((am 5), .inr (8, [.ref a_all_m5, .int size_m5])), (a_all_m5, .inl (cI, n_a_all_m5, .inl b_a_all_m5)), ((am 20), .inr (8, [.ref q503, .int r500])), ((am 2), .inl (cI, n_m2, .inl b_m2)), ((am 21), .inr (8, [.ref a_all_m21, .int size_m21])), ((am 7), .inr (8, [.ref a_all_m7, .int size_m7])), (a_all_m7, .inl (cI, n_a_all_m7, .inl b_a_all_m7)), ((am 6), .inr (8, [.ref a_all_m6, .int size_m6])), (a_all_m6, .inl (cI, n_a_all_m6, .inl b_a_all_m6)), ((am 4), .inr (8, [.ref a_all_m4, .int size_m4])), (a_all_m4, .inl (cI, n_a_all_m4, .inl b_a_all_m4)), ((am 22), .inr (8, [.ref a_all_m22, .int size_m22])), (q503, .inl (cI, r501, .inl r502)), (a_all_m21, .inl (cI, n_a_all_m21, .inl b_a_all_m21)), (a_all_m22, .inl (cI, n_a_all_m22, .inl b_a_all_m22))]) hr (zb_n zb0) d_Mo_readStatement_561 [10, 12, 13, 11, 14, 0, 2, 3, 4, 5, 6, 7, 8, 15, 1, 9] rfl (by decide) ⟨q503, a_all_m21, a_all_m22, rfl, zb0, rfl⟩
                                                    · replace h := it_f c510 h
                                                      refine j_aload_n d_Mo_readStatement_547 rfl 1 rfl ?_
                                                      refine j_bipush (v := 55) d_Mo_readStatement_548 (by decide) ?_
                                                      replace h := bd_s h
                                                      obtain ⟨⟨r511, r512, r513⟩, k515, h⟩ := h
                                                      refine j_callV (n := 1) (As := [.int 55]) (rest := []) (wr := [((am 21), .inr (8, [.ref a_all_m21, .int size_m21])), (a_all_m21, .inl (cI, n_a_all_m21, .inl b_a_all_m21)), ((am 7), .inr (8, [.ref a_all_m7, .int size_m7])), (a_all_m7, .inl (cI, n_a_all_m7, .inl b_a_all_m7)), ((am 6), .inr (8, [.ref a_all_m6, .int size_m6])), (a_all_m6, .inl (cI, n_a_all_m6, .inl b_a_all_m6)), ((am 4), .inr (8, [.ref a_all_m4, .int size_m4])), (a_all_m4, .inl (cI, n_a_all_m4, .inl b_a_all_m4)), ((am 22), .inr (8, [.ref a_all_m22, .int size_m22])), (a_all_m22, .inl (cI, n_a_all_m22, .inl b_a_all_m22)), ((am 20), .inr (8, [.ref q503, .int r500])), ((am 2), .inl (cI, n_m2, .inl b_m2)), (q503, .inl (cI, r501, .inl r502))]) (c_Mo_take l D cI cB cJ cS h0 am a_all_m5 55 known_h0 thrown_h0 wrong_h0 lastEnd_h0 r497 r498 r499 least_h0 found_h0 size_m5 n_a_all_m5 b_a_all_m5  r511 r512 r513 k515) k_Mo_285 (by decide) ⟨Nat.le_of_ble_eq_true rfl, Nat.le_of_ble_eq_true rfl⟩ rfl 0 rfl [10, 12, 13] [0, 1, 2, 3, 4, 5, 6, 7, 8, 9, 11, 14, 15] rfl (by decide +kernel) rfl (by decide +kernel) (by decide +kernel) rfl rfl (Nat.le_of_ble_eq_true rfl) d_Mo_readStatement_550 ⟨show 0 + C505 + 0 ≤ mc by omega, show 0 + S506 + 0 ≤ ms by omega⟩ (fun v w hq => ?_)
                                                      obtain ⟨rfl, z514, rfl⟩ := hq
                                                      refine j_norm (pc' := 553) (st' := [.int r511]) (ws' := [((am 21), .inr (8, [.ref a_all_m21, .int size_m21])), (a_all_m21, .inl (cI, n_a_all_m21, .inl b_a_all_m21)), ((am 7), .inr (8, [.ref a_all_m7, .int size_m7])), (a_all_m7, .inl (cI, n_a_all_m7, .inl b_a_all_m7)), ((am 6), .inr (8, [.ref a_all_m6, .int size_m6])), (a_all_m6, .inl (cI, n_a_all_m6, .inl b_a_all_m6)), ((am 4), .inr (8, [.ref a_all_m4, .int size_m4])), (a_all_m4, .inl (cI, n_a_all_m4, .inl b_a_all_m4)), ((am 22), .inr (8, [.ref a_all_m22, .int size_m22])), (a_all_m22, .inl (cI, n_a_all_m22, .inl b_a_all_m22)), ((am 20), .inr (8, [.ref q503, .int r500])), ((am 2), .inl (cI, n_m2, .inl b_m2)), (q503, .inl (cI, r501, .inl r502)), (h0, .inr (9, moF am known_h0 thrown_h0 wrong_h0 lastEnd_h0 r512 r513 r499 least_h0 found_h0)), ((am 5), .inr (8, [.ref a_all_m5, .int size_m5])), (a_all_m5, .inl (cI, n_a_all_m5, .inl b_a_all_m5))]) (cl' := 0 + C505) (sl' := 0 + S506) rfl rfl rfl rfl rfl rfl ?_
                                                      refine j_if_eq (tgt := 560) d_Mo_readStatement_553 (by decide) (fun c516 => ?_) (fun c516 => ?_)
                                                      · replace h := it_t c516 h
                                                        refine j_iconst (v := 0) d_Mo_readStatement_560 (by decide) ?_
                                                        replace h := lf_s h
                                                        obtain ⟨h, e1, e2⟩ := h
                                                        replace h := Prod.mk.inj h
                                                        obtain ⟨h9, h⟩ := h
                                                        subst h9
                                                        replace h := Prod.mk.inj h
                                                        obtain ⟨h9, h⟩ := h
                                                        subst h9
                                                        replace h := Prod.mk.inj h
                                                        obtain ⟨h9, h⟩ := h
                                                        subst h9
                                                        replace h := Prod.mk.inj h
                                                        obtain ⟨h9, h⟩ := h
                                                        subst h9
                                                        replace h := Prod.mk.inj h
                                                        obtain ⟨h9, h⟩ := h
                                                        subst h9
                                                        replace h := Prod.mk.inj h
                                                        obtain ⟨h9, h⟩ := h
                                                        subst h9
                                                        replace h := Prod.mk.inj h
                                                        obtain ⟨h9, h⟩ := h
                                                        subst h9
                                                        replace h := Prod.mk.inj h
                                                        obtain ⟨h9, h⟩ := h
                                                        subst h9
                                                        replace h := Prod.mk.inj h
                                                        obtain ⟨h9, h⟩ := h
                                                        subst h9
                                                        replace h := Prod.mk.inj h
                                                        obtain ⟨h9, h⟩ := h
                                                        subst h9
                                                        replace h := Prod.mk.inj h
                                                        obtain ⟨h9, h⟩ := h
                                                        subst h9
                                                        replace h := Prod.mk.inj h
                                                        obtain ⟨h9, h⟩ := h
                                                        subst h9
                                                        replace h := Prod.mk.inj h
                                                        obtain ⟨h9, h⟩ := h
                                                        subst h9
                                                        subst h
                                                        refine j_widen (cl' := mc) (sl' := ms) (by omega) (by omega) ?_
                                                        exact j_zret (w := [(h0, .inr (9, moF am known_h0 thrown_h0 wrong_h0 lastEnd_h0 r512 r513 r499 least_h0 found_h0)), ((am 5), .inr (8, [.ref a_all_m5, .int size_m5])), (a_all_m5, .inl (cI, n_a_all_m5, .inl b_a_all_m5)), ((am 20), .inr (8, [.ref q503, .int r500])), ((am 2), .inl (cI, n_m2, .inl b_m2)), ((am 21), .inr (8, [.ref a_all_m21, .int size_m21])), ((am 7), .inr (8, [.ref a_all_m7, .int size_m7])), (a_all_m7, .inl (cI, n_a_all_m7, .inl b_a_all_m7)), ((am 6), .inr (8, [.ref a_all_m6, .int size_m6])), (a_all_m6, .inl (cI, n_a_all_m6, .inl b_a_all_m6)), ((am 4), .inr (8, [.ref a_all_m4, .int size_m4])), (a_all_m4, .inl (cI, n_a_all_m4, .inl b_a_all_m4)), ((am 22), .inr (8, [.ref a_all_m22, .int size_m22])), (q503, .inl (cI, r501, .inl r502)), (a_all_m21, .inl (cI, n_a_all_m21, .inl b_a_all_m21)), (a_all_m22, .inl (cI, n_a_all_m22, .inl b_a_all_m22))]) hr (zb_n zb0) d_Mo_readStatement_561 [13, 14, 15, 10, 11, 0, 2, 3, 4, 5, 6, 7, 8, 12, 1, 9] rfl (by decide) ⟨q503, a_all_m21, a_all_m22, rfl, zb0, rfl⟩
                                                      · replace h := it_f c516 h
                                                        refine j_iconst (v := 1) d_Mo_readStatement_556 (by decide) ?_
                                                        refine j_goto (tgt := 561) d_Mo_readStatement_557 (by decide) ?_
                                                        replace h := lf_s h
                                                        obtain ⟨h, e1, e2⟩ := h
                                                        replace h := Prod.mk.inj h
                                                        obtain ⟨h9, h⟩ := h
                                                        subst h9
                                                        replace h := Prod.mk.inj h
                                                        obtain ⟨h9, h⟩ := h
                                                        subst h9
                                                        replace h := Prod.mk.inj h
                                                        obtain ⟨h9, h⟩ := h
                                                        subst h9
                                                        replace h := Prod.mk.inj h
                                                        obtain ⟨h9, h⟩ := h
                                                        subst h9
                                                        replace h := Prod.mk.inj h
                                                        obtain ⟨h9, h⟩ := h
                                                        subst h9
                                                        replace h := Prod.mk.inj h
                                                        obtain ⟨h9, h⟩ := h
                                                        subst h9
                                                        replace h := Prod.mk.inj h
                                                        obtain ⟨h9, h⟩ := h
                                                        subst h9
                                                        replace h := Prod.mk.inj h
                                                        obtain ⟨h9, h⟩ := h
                                                        subst h9
                                                        replace h := Prod.mk.inj h
                                                        obtain ⟨h9, h⟩ := h
                                                        subst h9
                                                        replace h := Prod.mk.inj h
                                                        obtain ⟨h9, h⟩ := h
                                                        subst h9
                                                        replace h := Prod.mk.inj h
                                                        obtain ⟨h9, h⟩ := h
                                                        subst h9
                                                        replace h := Prod.mk.inj h
                                                        obtain ⟨h9, h⟩ := h
                                                        subst h9
                                                        replace h := Prod.mk.inj h
                                                        obtain ⟨h9, h⟩ := h
                                                        subst h9
                                                        subst h
                                                        refine j_widen (cl' := mc) (sl' := ms) (by omega) (by omega) ?_
                                                        exact j_zret (w := [(h0, .inr (9, moF am known_h0 thrown_h0 wrong_h0 lastEnd_h0 r512 r513 r499 least_h0 found_h0)), ((am 5), .inr (8, [.ref a_all_m5, .int size_m5])), (a_all_m5, .inl (cI, n_a_all_m5, .inl b_a_all_m5)), ((am 20), .inr (8, [.ref q503, .int r500])), ((am 2), .inl (cI, n_m2, .inl b_m2)), ((am 21), .inr (8, [.ref a_all_m21, .int size_m21])), ((am 7), .inr (8, [.ref a_all_m7, .int size_m7])), (a_all_m7, .inl (cI, n_a_all_m7, .inl b_a_all_m7)), ((am 6), .inr (8, [.ref a_all_m6, .int size_m6])), (a_all_m6, .inl (cI, n_a_all_m6, .inl b_a_all_m6)), ((am 4), .inr (8, [.ref a_all_m4, .int size_m4])), (a_all_m4, .inl (cI, n_a_all_m4, .inl b_a_all_m4)), ((am 22), .inr (8, [.ref a_all_m22, .int size_m22])), (q503, .inl (cI, r501, .inl r502)), (a_all_m21, .inl (cI, n_a_all_m21, .inl b_a_all_m21)), (a_all_m22, .inl (cI, n_a_all_m22, .inl b_a_all_m22))]) hr (zb_n zb1) d_Mo_readStatement_561 [13, 14, 15, 10, 11, 0, 2, 3, 4, 5, 6, 7, 8, 12, 1, 9] rfl (by decide) ⟨q503, a_all_m21, a_all_m22, rfl, zb1, rfl⟩
                                                  · replace h := it_f c495 h
                                                    by_cases c517 : (b_a_all_m5 (Int32.toNatClampNeg at_h0)) = 35
                                                    · replace h := it_t c517 h
                                                      refine j_tabIn (tgt := 540) (off := 534) d_Mo_readStatement_6 35 c517 (by decide) (by decide) (by decide) (by decide) ?_
                                                      refine j_aload_n d_Mo_readStatement_540 rfl 1 rfl ?_
                                                      replace h := bw_s h
                                                      obtain ⟨⟨r518, r519, r520, r521, r522, r523, r524⟩, C527, S528, C529, S530, k531, h, e1, e2⟩ := h
                                                      replace hC : 0 + C527 + C529 ≤ mc := by omega
                                                      replace hS : 0 + S528 + S530 ≤ ms := by omega
                                                      clear e1 e2
                                                      refine j_callV (n := 0) (As := []) (rest := []) (wr := [((am 21), .inr (8, [.ref a_all_m21, .int size_m21])), (a_all_m21, .inl (cI, n_a_all_m21, .inl b_a_all_m21)), ((am 7), .inr (8, [.ref a_all_m7, .int size_m7])), (a_all_m7, .inl (cI, n_a_all_m7, .inl b_a_all_m7)), ((am 6), .inr (8, [.ref a_all_m6, .int size_m6])), (a_all_m6, .inl (cI, n_a_all_m6, .inl b_a_all_m6)), ((am 4), .inr (8, [.ref a_all_m4, .int size_m4])), (a_all_m4, .inl (cI, n_a_all_m4, .inl b_a_all_m4)), ((am 22), .inr (8, [.ref a_all_m22, .int size_m22])), (a_all_m22, .inl (cI, n_a_all_m22, .inl b_a_all_m22))]) (c_Mo_readWorking l D cI cB cJ cS h0 am a_all_m20 a_all_m5 known_h0 thrown_h0 wrong_h0 lastEnd_h0 at_h0 bad_h0 levels_h0 least_h0 found_h0 size_m20 size_m5 n_a_all_m5 b_a_all_m5 n_a_all_m20 b_a_all_m20 n_m2 b_m2  r518 r519 r520 r521 r522 r523 r524 C527 S528 k531) k_Mo_362 (by decide) ⟨Nat.le_of_ble_eq_true rfl, Nat.le_of_ble_eq_true rfl⟩ rfl 0 rfl [13, 0, 14, 15, 1, 2] [3, 4, 5, 6, 7, 8, 9, 10, 11, 12] rfl (by decide +kernel) rfl (by decide +kernel) (by decide +kernel) rfl rfl (Nat.le_of_ble_eq_true rfl) d_Mo_readStatement_541 ⟨show 0 + C527 ≤ mc by omega, show 0 + S528 ≤ ms by omega⟩ (fun v w hq => ?_)
                                                      obtain ⟨q525, rfl, z526, rfl⟩ := hq
                                                      refine j_norm (pc' := 544) (st' := [.int r518]) (ws' := [((am 21), .inr (8, [.ref a_all_m21, .int size_m21])), (a_all_m21, .inl (cI, n_a_all_m21, .inl b_a_all_m21)), ((am 7), .inr (8, [.ref a_all_m7, .int size_m7])), (a_all_m7, .inl (cI, n_a_all_m7, .inl b_a_all_m7)), ((am 6), .inr (8, [.ref a_all_m6, .int size_m6])), (a_all_m6, .inl (cI, n_a_all_m6, .inl b_a_all_m6)), ((am 4), .inr (8, [.ref a_all_m4, .int size_m4])), (a_all_m4, .inl (cI, n_a_all_m4, .inl b_a_all_m4)), ((am 22), .inr (8, [.ref a_all_m22, .int size_m22])), (a_all_m22, .inl (cI, n_a_all_m22, .inl b_a_all_m22)), (h0, .inr (9, moF am known_h0 thrown_h0 wrong_h0 lastEnd_h0 r519 r520 r521 least_h0 found_h0)), ((am 20), .inr (8, [.ref q525, .int r522])), ((am 5), .inr (8, [.ref a_all_m5, .int size_m5])), (a_all_m5, .inl (cI, n_a_all_m5, .inl b_a_all_m5)), ((am 2), .inl (cI, n_m2, .inl b_m2)), (q525, .inl (cI, r523, .inl r524))]) (cl' := 0 + C527) (sl' := 0 + S528) rfl rfl rfl rfl rfl rfl ?_
                                                      refine j_if_eq (tgt := 560) d_Mo_readStatement_544 (by decide) (fun c532 => ?_) (fun c532 => ?_)
                                                      · replace h := it_t c532 h
                                                        refine j_iconst (v := 0) d_Mo_readStatement_560 (by decide) ?_
                                                        replace h := lf_s h
                                                        obtain ⟨h, e1, e2⟩ := h
                                                        replace h := Prod.mk.inj h
                                                        obtain ⟨h9, h⟩ := h
                                                        subst h9
                                                        replace h := Prod.mk.inj h
                                                        obtain ⟨h9, h⟩ := h
                                                        subst h9
                                                        replace h := Prod.mk.inj h
                                                        obtain ⟨h9, h⟩ := h
                                                        subst h9
                                                        replace h := Prod.mk.inj h
                                                        obtain ⟨h9, h⟩ := h
                                                        subst h9
                                                        replace h := Prod.mk.inj h
                                                        obtain ⟨h9, h⟩ := h
                                                        subst h9
                                                        replace h := Prod.mk.inj h
                                                        obtain ⟨h9, h⟩ := h
                                                        subst h9
                                                        replace h := Prod.mk.inj h
                                                        obtain ⟨h9, h⟩ := h
                                                        subst h9
                                                        replace h := Prod.mk.inj h
                                                        obtain ⟨h9, h⟩ := h
                                                        subst h9
                                                        replace h := Prod.mk.inj h
                                                        obtain ⟨h9, h⟩ := h
                                                        subst h9
                                                        replace h := Prod.mk.inj h
                                                        obtain ⟨h9, h⟩ := h
                                                        subst h9
                                                        replace h := Prod.mk.inj h
                                                        obtain ⟨h9, h⟩ := h
                                                        subst h9
                                                        replace h := Prod.mk.inj h
                                                        obtain ⟨h9, h⟩ := h
                                                        subst h9
                                                        replace h := Prod.mk.inj h
                                                        obtain ⟨h9, h⟩ := h
                                                        subst h9
                                                        subst h
                                                        refine j_widen (cl' := mc) (sl' := ms) (by omega) (by omega) ?_
                                                        exact j_zret (w := [(h0, .inr (9, moF am known_h0 thrown_h0 wrong_h0 lastEnd_h0 r519 r520 r521 least_h0 found_h0)), ((am 5), .inr (8, [.ref a_all_m5, .int size_m5])), (a_all_m5, .inl (cI, n_a_all_m5, .inl b_a_all_m5)), ((am 20), .inr (8, [.ref q525, .int r522])), ((am 2), .inl (cI, n_m2, .inl b_m2)), ((am 21), .inr (8, [.ref a_all_m21, .int size_m21])), ((am 7), .inr (8, [.ref a_all_m7, .int size_m7])), (a_all_m7, .inl (cI, n_a_all_m7, .inl b_a_all_m7)), ((am 6), .inr (8, [.ref a_all_m6, .int size_m6])), (a_all_m6, .inl (cI, n_a_all_m6, .inl b_a_all_m6)), ((am 4), .inr (8, [.ref a_all_m4, .int size_m4])), (a_all_m4, .inl (cI, n_a_all_m4, .inl b_a_all_m4)), ((am 22), .inr (8, [.ref a_all_m22, .int size_m22])), (q525, .inl (cI, r523, .inl r524)), (a_all_m21, .inl (cI, n_a_all_m21, .inl b_a_all_m21)), (a_all_m22, .inl (cI, n_a_all_m22, .inl b_a_all_m22))]) hr (zb_n zb0) d_Mo_readStatement_561 [10, 12, 13, 11, 14, 0, 2, 3, 4, 5, 6, 7, 8, 15, 1, 9] rfl (by decide) ⟨q525, a_all_m21, a_all_m22, rfl, zb0, rfl⟩
                                                      · replace h := it_f c532 h
                                                        refine j_aload_n d_Mo_readStatement_547 rfl 1 rfl ?_
                                                        refine j_bipush (v := 55) d_Mo_readStatement_548 (by decide) ?_
                                                        replace h := bd_s h
                                                        obtain ⟨⟨r533, r534, r535⟩, k537, h⟩ := h
                                                        refine j_callV (n := 1) (As := [.int 55]) (rest := []) (wr := [((am 21), .inr (8, [.ref a_all_m21, .int size_m21])), (a_all_m21, .inl (cI, n_a_all_m21, .inl b_a_all_m21)), ((am 7), .inr (8, [.ref a_all_m7, .int size_m7])), (a_all_m7, .inl (cI, n_a_all_m7, .inl b_a_all_m7)), ((am 6), .inr (8, [.ref a_all_m6, .int size_m6])), (a_all_m6, .inl (cI, n_a_all_m6, .inl b_a_all_m6)), ((am 4), .inr (8, [.ref a_all_m4, .int size_m4])), (a_all_m4, .inl (cI, n_a_all_m4, .inl b_a_all_m4)), ((am 22), .inr (8, [.ref a_all_m22, .int size_m22])), (a_all_m22, .inl (cI, n_a_all_m22, .inl b_a_all_m22)), ((am 20), .inr (8, [.ref q525, .int r522])), ((am 2), .inl (cI, n_m2, .inl b_m2)), (q525, .inl (cI, r523, .inl r524))]) (c_Mo_take l D cI cB cJ cS h0 am a_all_m5 55 known_h0 thrown_h0 wrong_h0 lastEnd_h0 r519 r520 r521 least_h0 found_h0 size_m5 n_a_all_m5 b_a_all_m5  r533 r534 r535 k537) k_Mo_285 (by decide) ⟨Nat.le_of_ble_eq_true rfl, Nat.le_of_ble_eq_true rfl⟩ rfl 0 rfl [10, 12, 13] [0, 1, 2, 3, 4, 5, 6, 7, 8, 9, 11, 14, 15] rfl (by decide +kernel) rfl (by decide +kernel) (by decide +kernel) rfl rfl (Nat.le_of_ble_eq_true rfl) d_Mo_readStatement_550 ⟨show 0 + C527 + 0 ≤ mc by omega, show 0 + S528 + 0 ≤ ms by omega⟩ (fun v w hq => ?_)
                                                        obtain ⟨rfl, z536, rfl⟩ := hq
                                                        refine j_norm (pc' := 553) (st' := [.int r533]) (ws' := [((am 21), .inr (8, [.ref a_all_m21, .int size_m21])), (a_all_m21, .inl (cI, n_a_all_m21, .inl b_a_all_m21)), ((am 7), .inr (8, [.ref a_all_m7, .int size_m7])), (a_all_m7, .inl (cI, n_a_all_m7, .inl b_a_all_m7)), ((am 6), .inr (8, [.ref a_all_m6, .int size_m6])), (a_all_m6, .inl (cI, n_a_all_m6, .inl b_a_all_m6)), ((am 4), .inr (8, [.ref a_all_m4, .int size_m4])), (a_all_m4, .inl (cI, n_a_all_m4, .inl b_a_all_m4)), ((am 22), .inr (8, [.ref a_all_m22, .int size_m22])), (a_all_m22, .inl (cI, n_a_all_m22, .inl b_a_all_m22)), ((am 20), .inr (8, [.ref q525, .int r522])), ((am 2), .inl (cI, n_m2, .inl b_m2)), (q525, .inl (cI, r523, .inl r524)), (h0, .inr (9, moF am known_h0 thrown_h0 wrong_h0 lastEnd_h0 r534 r535 r521 least_h0 found_h0)), ((am 5), .inr (8, [.ref a_all_m5, .int size_m5])), (a_all_m5, .inl (cI, n_a_all_m5, .inl b_a_all_m5))]) (cl' := 0 + C527) (sl' := 0 + S528) rfl rfl rfl rfl rfl rfl ?_
                                                        refine j_if_eq (tgt := 560) d_Mo_readStatement_553 (by decide) (fun c538 => ?_) (fun c538 => ?_)
                                                        · replace h := it_t c538 h
                                                          refine j_iconst (v := 0) d_Mo_readStatement_560 (by decide) ?_
                                                          replace h := lf_s h
                                                          obtain ⟨h, e1, e2⟩ := h
                                                          replace h := Prod.mk.inj h
                                                          obtain ⟨h9, h⟩ := h
                                                          subst h9
                                                          replace h := Prod.mk.inj h
                                                          obtain ⟨h9, h⟩ := h
                                                          subst h9
                                                          replace h := Prod.mk.inj h
                                                          obtain ⟨h9, h⟩ := h
                                                          subst h9
                                                          replace h := Prod.mk.inj h
                                                          obtain ⟨h9, h⟩ := h
                                                          subst h9
                                                          replace h := Prod.mk.inj h
                                                          obtain ⟨h9, h⟩ := h
                                                          subst h9
                                                          replace h := Prod.mk.inj h
                                                          obtain ⟨h9, h⟩ := h
                                                          subst h9
                                                          replace h := Prod.mk.inj h
                                                          obtain ⟨h9, h⟩ := h
                                                          subst h9
                                                          replace h := Prod.mk.inj h
                                                          obtain ⟨h9, h⟩ := h
                                                          subst h9
                                                          replace h := Prod.mk.inj h
                                                          obtain ⟨h9, h⟩ := h
                                                          subst h9
                                                          replace h := Prod.mk.inj h
                                                          obtain ⟨h9, h⟩ := h
                                                          subst h9
                                                          replace h := Prod.mk.inj h
                                                          obtain ⟨h9, h⟩ := h
                                                          subst h9
                                                          replace h := Prod.mk.inj h
                                                          obtain ⟨h9, h⟩ := h
                                                          subst h9
                                                          replace h := Prod.mk.inj h
                                                          obtain ⟨h9, h⟩ := h
                                                          subst h9
                                                          subst h
                                                          refine j_widen (cl' := mc) (sl' := ms) (by omega) (by omega) ?_
                                                          exact j_zret (w := [(h0, .inr (9, moF am known_h0 thrown_h0 wrong_h0 lastEnd_h0 r534 r535 r521 least_h0 found_h0)), ((am 5), .inr (8, [.ref a_all_m5, .int size_m5])), (a_all_m5, .inl (cI, n_a_all_m5, .inl b_a_all_m5)), ((am 20), .inr (8, [.ref q525, .int r522])), ((am 2), .inl (cI, n_m2, .inl b_m2)), ((am 21), .inr (8, [.ref a_all_m21, .int size_m21])), ((am 7), .inr (8, [.ref a_all_m7, .int size_m7])), (a_all_m7, .inl (cI, n_a_all_m7, .inl b_a_all_m7)), ((am 6), .inr (8, [.ref a_all_m6, .int size_m6])), (a_all_m6, .inl (cI, n_a_all_m6, .inl b_a_all_m6)), ((am 4), .inr (8, [.ref a_all_m4, .int size_m4])), (a_all_m4, .inl (cI, n_a_all_m4, .inl b_a_all_m4)), ((am 22), .inr (8, [.ref a_all_m22, .int size_m22])), (q525, .inl (cI, r523, .inl r524)), (a_all_m21, .inl (cI, n_a_all_m21, .inl b_a_all_m21)), (a_all_m22, .inl (cI, n_a_all_m22, .inl b_a_all_m22))]) hr (zb_n zb0) d_Mo_readStatement_561 [13, 14, 15, 10, 11, 0, 2, 3, 4, 5, 6, 7, 8, 12, 1, 9] rfl (by decide) ⟨q525, a_all_m21, a_all_m22, rfl, zb0, rfl⟩
                                                        · replace h := it_f c538 h
                                                          refine j_iconst (v := 1) d_Mo_readStatement_556 (by decide) ?_
                                                          refine j_goto (tgt := 561) d_Mo_readStatement_557 (by decide) ?_
                                                          replace h := lf_s h
                                                          obtain ⟨h, e1, e2⟩ := h
                                                          replace h := Prod.mk.inj h
                                                          obtain ⟨h9, h⟩ := h
                                                          subst h9
                                                          replace h := Prod.mk.inj h
                                                          obtain ⟨h9, h⟩ := h
                                                          subst h9
                                                          replace h := Prod.mk.inj h
                                                          obtain ⟨h9, h⟩ := h
                                                          subst h9
                                                          replace h := Prod.mk.inj h
                                                          obtain ⟨h9, h⟩ := h
                                                          subst h9
                                                          replace h := Prod.mk.inj h
                                                          obtain ⟨h9, h⟩ := h
                                                          subst h9
                                                          replace h := Prod.mk.inj h
                                                          obtain ⟨h9, h⟩ := h
                                                          subst h9
                                                          replace h := Prod.mk.inj h
                                                          obtain ⟨h9, h⟩ := h
                                                          subst h9
                                                          replace h := Prod.mk.inj h
                                                          obtain ⟨h9, h⟩ := h
                                                          subst h9
                                                          replace h := Prod.mk.inj h
                                                          obtain ⟨h9, h⟩ := h
                                                          subst h9
                                                          replace h := Prod.mk.inj h
                                                          obtain ⟨h9, h⟩ := h
                                                          subst h9
                                                          replace h := Prod.mk.inj h
                                                          obtain ⟨h9, h⟩ := h
                                                          subst h9
                                                          replace h := Prod.mk.inj h
                                                          obtain ⟨h9, h⟩ := h
                                                          subst h9
                                                          replace h := Prod.mk.inj h
                                                          obtain ⟨h9, h⟩ := h
                                                          subst h9
                                                          subst h
                                                          refine j_widen (cl' := mc) (sl' := ms) (by omega) (by omega) ?_
                                                          exact j_zret (w := [(h0, .inr (9, moF am known_h0 thrown_h0 wrong_h0 lastEnd_h0 r534 r535 r521 least_h0 found_h0)), ((am 5), .inr (8, [.ref a_all_m5, .int size_m5])), (a_all_m5, .inl (cI, n_a_all_m5, .inl b_a_all_m5)), ((am 20), .inr (8, [.ref q525, .int r522])), ((am 2), .inl (cI, n_m2, .inl b_m2)), ((am 21), .inr (8, [.ref a_all_m21, .int size_m21])), ((am 7), .inr (8, [.ref a_all_m7, .int size_m7])), (a_all_m7, .inl (cI, n_a_all_m7, .inl b_a_all_m7)), ((am 6), .inr (8, [.ref a_all_m6, .int size_m6])), (a_all_m6, .inl (cI, n_a_all_m6, .inl b_a_all_m6)), ((am 4), .inr (8, [.ref a_all_m4, .int size_m4])), (a_all_m4, .inl (cI, n_a_all_m4, .inl b_a_all_m4)), ((am 22), .inr (8, [.ref a_all_m22, .int size_m22])), (q525, .inl (cI, r523, .inl r524)), (a_all_m21, .inl (cI, n_a_all_m21, .inl b_a_all_m21)), (a_all_m22, .inl (cI, n_a_all_m22, .inl b_a_all_m22))]) hr (zb_n zb1) d_Mo_readStatement_561 [13, 14, 15, 10, 11, 0, 2, 3, 4, 5, 6, 7, 8, 12, 1, 9] rfl (by decide) ⟨q525, a_all_m21, a_all_m22, rfl, zb1, rfl⟩
                                                    · replace h := it_f c517 h
                                                      by_cases c539 : (b_a_all_m5 (Int32.toNatClampNeg at_h0)) = 36
                                                      · replace h := it_t c539 h
                                                        refine j_tabIn (tgt := 540) (off := 534) d_Mo_readStatement_6 36 c539 (by decide) (by decide) (by decide) (by decide) ?_
                                                        refine j_aload_n d_Mo_readStatement_540 rfl 1 rfl ?_
                                                        replace h := bw_s h
                                                        obtain ⟨⟨r540, r541, r542, r543, r544, r545, r546⟩, C549, S550, C551, S552, k553, h, e1, e2⟩ := h
                                                        replace hC : 0 + C549 + C551 ≤ mc := by omega
                                                        replace hS : 0 + S550 + S552 ≤ ms := by omega
                                                        clear e1 e2
                                                        refine j_callV (n := 0) (As := []) (rest := []) (wr := [((am 21), .inr (8, [.ref a_all_m21, .int size_m21])), (a_all_m21, .inl (cI, n_a_all_m21, .inl b_a_all_m21)), ((am 7), .inr (8, [.ref a_all_m7, .int size_m7])), (a_all_m7, .inl (cI, n_a_all_m7, .inl b_a_all_m7)), ((am 6), .inr (8, [.ref a_all_m6, .int size_m6])), (a_all_m6, .inl (cI, n_a_all_m6, .inl b_a_all_m6)), ((am 4), .inr (8, [.ref a_all_m4, .int size_m4])), (a_all_m4, .inl (cI, n_a_all_m4, .inl b_a_all_m4)), ((am 22), .inr (8, [.ref a_all_m22, .int size_m22])), (a_all_m22, .inl (cI, n_a_all_m22, .inl b_a_all_m22))]) (c_Mo_readWorking l D cI cB cJ cS h0 am a_all_m20 a_all_m5 known_h0 thrown_h0 wrong_h0 lastEnd_h0 at_h0 bad_h0 levels_h0 least_h0 found_h0 size_m20 size_m5 n_a_all_m5 b_a_all_m5 n_a_all_m20 b_a_all_m20 n_m2 b_m2  r540 r541 r542 r543 r544 r545 r546 C549 S550 k553) k_Mo_362 (by decide) ⟨Nat.le_of_ble_eq_true rfl, Nat.le_of_ble_eq_true rfl⟩ rfl 0 rfl [13, 0, 14, 15, 1, 2] [3, 4, 5, 6, 7, 8, 9, 10, 11, 12] rfl (by decide +kernel) rfl (by decide +kernel) (by decide +kernel) rfl rfl (Nat.le_of_ble_eq_true rfl) d_Mo_readStatement_541 ⟨show 0 + C549 ≤ mc by omega, show 0 + S550 ≤ ms by omega⟩ (fun v w hq => ?_)
                                                        obtain ⟨q547, rfl, z548, rfl⟩ := hq
                                                        refine j_norm (pc' := 544) (st' := [.int r540]) (ws' := [((am 21), .inr (8, [.ref a_all_m21, .int size_m21])), (a_all_m21, .inl (cI, n_a_all_m21, .inl b_a_all_m21)), ((am 7), .inr (8, [.ref a_all_m7, .int size_m7])), (a_all_m7, .inl (cI, n_a_all_m7, .inl b_a_all_m7)), ((am 6), .inr (8, [.ref a_all_m6, .int size_m6])), (a_all_m6, .inl (cI, n_a_all_m6, .inl b_a_all_m6)), ((am 4), .inr (8, [.ref a_all_m4, .int size_m4])), (a_all_m4, .inl (cI, n_a_all_m4, .inl b_a_all_m4)), ((am 22), .inr (8, [.ref a_all_m22, .int size_m22])), (a_all_m22, .inl (cI, n_a_all_m22, .inl b_a_all_m22)), (h0, .inr (9, moF am known_h0 thrown_h0 wrong_h0 lastEnd_h0 r541 r542 r543 least_h0 found_h0)), ((am 20), .inr (8, [.ref q547, .int r544])), ((am 5), .inr (8, [.ref a_all_m5, .int size_m5])), (a_all_m5, .inl (cI, n_a_all_m5, .inl b_a_all_m5)), ((am 2), .inl (cI, n_m2, .inl b_m2)), (q547, .inl (cI, r545, .inl r546))]) (cl' := 0 + C549) (sl' := 0 + S550) rfl rfl rfl rfl rfl rfl ?_
                                                        refine j_if_eq (tgt := 560) d_Mo_readStatement_544 (by decide) (fun c554 => ?_) (fun c554 => ?_)
                                                        · replace h := it_t c554 h
                                                          refine j_iconst (v := 0) d_Mo_readStatement_560 (by decide) ?_
                                                          replace h := lf_s h
                                                          obtain ⟨h, e1, e2⟩ := h
                                                          replace h := Prod.mk.inj h
                                                          obtain ⟨h9, h⟩ := h
                                                          subst h9
                                                          replace h := Prod.mk.inj h
                                                          obtain ⟨h9, h⟩ := h
                                                          subst h9
                                                          replace h := Prod.mk.inj h
                                                          obtain ⟨h9, h⟩ := h
                                                          subst h9
                                                          replace h := Prod.mk.inj h
                                                          obtain ⟨h9, h⟩ := h
                                                          subst h9
                                                          replace h := Prod.mk.inj h
                                                          obtain ⟨h9, h⟩ := h
                                                          subst h9
                                                          replace h := Prod.mk.inj h
                                                          obtain ⟨h9, h⟩ := h
                                                          subst h9
                                                          replace h := Prod.mk.inj h
                                                          obtain ⟨h9, h⟩ := h
                                                          subst h9
                                                          replace h := Prod.mk.inj h
                                                          obtain ⟨h9, h⟩ := h
                                                          subst h9
                                                          replace h := Prod.mk.inj h
                                                          obtain ⟨h9, h⟩ := h
                                                          subst h9
                                                          replace h := Prod.mk.inj h
                                                          obtain ⟨h9, h⟩ := h
                                                          subst h9
                                                          replace h := Prod.mk.inj h
                                                          obtain ⟨h9, h⟩ := h
                                                          subst h9
                                                          replace h := Prod.mk.inj h
                                                          obtain ⟨h9, h⟩ := h
                                                          subst h9
                                                          replace h := Prod.mk.inj h
                                                          obtain ⟨h9, h⟩ := h
                                                          subst h9
                                                          subst h
                                                          refine j_widen (cl' := mc) (sl' := ms) (by omega) (by omega) ?_
                                                          exact j_zret (w := [(h0, .inr (9, moF am known_h0 thrown_h0 wrong_h0 lastEnd_h0 r541 r542 r543 least_h0 found_h0)), ((am 5), .inr (8, [.ref a_all_m5, .int size_m5])), (a_all_m5, .inl (cI, n_a_all_m5, .inl b_a_all_m5)), ((am 20), .inr (8, [.ref q547, .int r544])), ((am 2), .inl (cI, n_m2, .inl b_m2)), ((am 21), .inr (8, [.ref a_all_m21, .int size_m21])), ((am 7), .inr (8, [.ref a_all_m7, .int size_m7])), (a_all_m7, .inl (cI, n_a_all_m7, .inl b_a_all_m7)), ((am 6), .inr (8, [.ref a_all_m6, .int size_m6])), (a_all_m6, .inl (cI, n_a_all_m6, .inl b_a_all_m6)), ((am 4), .inr (8, [.ref a_all_m4, .int size_m4])), (a_all_m4, .inl (cI, n_a_all_m4, .inl b_a_all_m4)), ((am 22), .inr (8, [.ref a_all_m22, .int size_m22])), (q547, .inl (cI, r545, .inl r546)), (a_all_m21, .inl (cI, n_a_all_m21, .inl b_a_all_m21)), (a_all_m22, .inl (cI, n_a_all_m22, .inl b_a_all_m22))]) hr (zb_n zb0) d_Mo_readStatement_561 [10, 12, 13, 11, 14, 0, 2, 3, 4, 5, 6, 7, 8, 15, 1, 9] rfl (by decide) ⟨q547, a_all_m21, a_all_m22, rfl, zb0, rfl⟩
                                                        · replace h := it_f c554 h
                                                          refine j_aload_n d_Mo_readStatement_547 rfl 1 rfl ?_
                                                          refine j_bipush (v := 55) d_Mo_readStatement_548 (by decide) ?_
                                                          replace h := bd_s h
                                                          obtain ⟨⟨r555, r556, r557⟩, k559, h⟩ := h
                                                          refine j_callV (n := 1) (As := [.int 55]) (rest := []) (wr := [((am 21), .inr (8, [.ref a_all_m21, .int size_m21])), (a_all_m21, .inl (cI, n_a_all_m21, .inl b_a_all_m21)), ((am 7), .inr (8, [.ref a_all_m7, .int size_m7])), (a_all_m7, .inl (cI, n_a_all_m7, .inl b_a_all_m7)), ((am 6), .inr (8, [.ref a_all_m6, .int size_m6])), (a_all_m6, .inl (cI, n_a_all_m6, .inl b_a_all_m6)), ((am 4), .inr (8, [.ref a_all_m4, .int size_m4])), (a_all_m4, .inl (cI, n_a_all_m4, .inl b_a_all_m4)), ((am 22), .inr (8, [.ref a_all_m22, .int size_m22])), (a_all_m22, .inl (cI, n_a_all_m22, .inl b_a_all_m22)), ((am 20), .inr (8, [.ref q547, .int r544])), ((am 2), .inl (cI, n_m2, .inl b_m2)), (q547, .inl (cI, r545, .inl r546))]) (c_Mo_take l D cI cB cJ cS h0 am a_all_m5 55 known_h0 thrown_h0 wrong_h0 lastEnd_h0 r541 r542 r543 least_h0 found_h0 size_m5 n_a_all_m5 b_a_all_m5  r555 r556 r557 k559) k_Mo_285 (by decide) ⟨Nat.le_of_ble_eq_true rfl, Nat.le_of_ble_eq_true rfl⟩ rfl 0 rfl [10, 12, 13] [0, 1, 2, 3, 4, 5, 6, 7, 8, 9, 11, 14, 15] rfl (by decide +kernel) rfl (by decide +kernel) (by decide +kernel) rfl rfl (Nat.le_of_ble_eq_true rfl) d_Mo_readStatement_550 ⟨show 0 + C549 + 0 ≤ mc by omega, show 0 + S550 + 0 ≤ ms by omega⟩ (fun v w hq => ?_)
                                                          obtain ⟨rfl, z558, rfl⟩ := hq
                                                          refine j_norm (pc' := 553) (st' := [.int r555]) (ws' := [((am 21), .inr (8, [.ref a_all_m21, .int size_m21])), (a_all_m21, .inl (cI, n_a_all_m21, .inl b_a_all_m21)), ((am 7), .inr (8, [.ref a_all_m7, .int size_m7])), (a_all_m7, .inl (cI, n_a_all_m7, .inl b_a_all_m7)), ((am 6), .inr (8, [.ref a_all_m6, .int size_m6])), (a_all_m6, .inl (cI, n_a_all_m6, .inl b_a_all_m6)), ((am 4), .inr (8, [.ref a_all_m4, .int size_m4])), (a_all_m4, .inl (cI, n_a_all_m4, .inl b_a_all_m4)), ((am 22), .inr (8, [.ref a_all_m22, .int size_m22])), (a_all_m22, .inl (cI, n_a_all_m22, .inl b_a_all_m22)), ((am 20), .inr (8, [.ref q547, .int r544])), ((am 2), .inl (cI, n_m2, .inl b_m2)), (q547, .inl (cI, r545, .inl r546)), (h0, .inr (9, moF am known_h0 thrown_h0 wrong_h0 lastEnd_h0 r556 r557 r543 least_h0 found_h0)), ((am 5), .inr (8, [.ref a_all_m5, .int size_m5])), (a_all_m5, .inl (cI, n_a_all_m5, .inl b_a_all_m5))]) (cl' := 0 + C549) (sl' := 0 + S550) rfl rfl rfl rfl rfl rfl ?_
                                                          refine j_if_eq (tgt := 560) d_Mo_readStatement_553 (by decide) (fun c560 => ?_) (fun c560 => ?_)
                                                          · replace h := it_t c560 h
                                                            refine j_iconst (v := 0) d_Mo_readStatement_560 (by decide) ?_
                                                            replace h := lf_s h
                                                            obtain ⟨h, e1, e2⟩ := h
                                                            replace h := Prod.mk.inj h
                                                            obtain ⟨h9, h⟩ := h
                                                            subst h9
                                                            replace h := Prod.mk.inj h
                                                            obtain ⟨h9, h⟩ := h
                                                            subst h9
                                                            replace h := Prod.mk.inj h
                                                            obtain ⟨h9, h⟩ := h
                                                            subst h9
                                                            replace h := Prod.mk.inj h
                                                            obtain ⟨h9, h⟩ := h
                                                            subst h9
                                                            replace h := Prod.mk.inj h
                                                            obtain ⟨h9, h⟩ := h
                                                            subst h9
                                                            replace h := Prod.mk.inj h
                                                            obtain ⟨h9, h⟩ := h
                                                            subst h9
                                                            replace h := Prod.mk.inj h
                                                            obtain ⟨h9, h⟩ := h
                                                            subst h9
                                                            replace h := Prod.mk.inj h
                                                            obtain ⟨h9, h⟩ := h
                                                            subst h9
                                                            replace h := Prod.mk.inj h
                                                            obtain ⟨h9, h⟩ := h
                                                            subst h9
                                                            replace h := Prod.mk.inj h
                                                            obtain ⟨h9, h⟩ := h
                                                            subst h9
                                                            replace h := Prod.mk.inj h
                                                            obtain ⟨h9, h⟩ := h
                                                            subst h9
                                                            replace h := Prod.mk.inj h
                                                            obtain ⟨h9, h⟩ := h
                                                            subst h9
                                                            replace h := Prod.mk.inj h
                                                            obtain ⟨h9, h⟩ := h
                                                            subst h9
                                                            subst h
                                                            refine j_widen (cl' := mc) (sl' := ms) (by omega) (by omega) ?_
                                                            exact j_zret (w := [(h0, .inr (9, moF am known_h0 thrown_h0 wrong_h0 lastEnd_h0 r556 r557 r543 least_h0 found_h0)), ((am 5), .inr (8, [.ref a_all_m5, .int size_m5])), (a_all_m5, .inl (cI, n_a_all_m5, .inl b_a_all_m5)), ((am 20), .inr (8, [.ref q547, .int r544])), ((am 2), .inl (cI, n_m2, .inl b_m2)), ((am 21), .inr (8, [.ref a_all_m21, .int size_m21])), ((am 7), .inr (8, [.ref a_all_m7, .int size_m7])), (a_all_m7, .inl (cI, n_a_all_m7, .inl b_a_all_m7)), ((am 6), .inr (8, [.ref a_all_m6, .int size_m6])), (a_all_m6, .inl (cI, n_a_all_m6, .inl b_a_all_m6)), ((am 4), .inr (8, [.ref a_all_m4, .int size_m4])), (a_all_m4, .inl (cI, n_a_all_m4, .inl b_a_all_m4)), ((am 22), .inr (8, [.ref a_all_m22, .int size_m22])), (q547, .inl (cI, r545, .inl r546)), (a_all_m21, .inl (cI, n_a_all_m21, .inl b_a_all_m21)), (a_all_m22, .inl (cI, n_a_all_m22, .inl b_a_all_m22))]) hr (zb_n zb0) d_Mo_readStatement_561 [13, 14, 15, 10, 11, 0, 2, 3, 4, 5, 6, 7, 8, 12, 1, 9] rfl (by decide) ⟨q547, a_all_m21, a_all_m22, rfl, zb0, rfl⟩
                                                          · replace h := it_f c560 h
                                                            refine j_iconst (v := 1) d_Mo_readStatement_556 (by decide) ?_
                                                            refine j_goto (tgt := 561) d_Mo_readStatement_557 (by decide) ?_
                                                            replace h := lf_s h
                                                            obtain ⟨h, e1, e2⟩ := h
                                                            replace h := Prod.mk.inj h
                                                            obtain ⟨h9, h⟩ := h
                                                            subst h9
                                                            replace h := Prod.mk.inj h
                                                            obtain ⟨h9, h⟩ := h
                                                            subst h9
                                                            replace h := Prod.mk.inj h
                                                            obtain ⟨h9, h⟩ := h
                                                            subst h9
                                                            replace h := Prod.mk.inj h
                                                            obtain ⟨h9, h⟩ := h
                                                            subst h9
                                                            replace h := Prod.mk.inj h
                                                            obtain ⟨h9, h⟩ := h
                                                            subst h9
                                                            replace h := Prod.mk.inj h
                                                            obtain ⟨h9, h⟩ := h
                                                            subst h9
                                                            replace h := Prod.mk.inj h
                                                            obtain ⟨h9, h⟩ := h
                                                            subst h9
                                                            replace h := Prod.mk.inj h
                                                            obtain ⟨h9, h⟩ := h
                                                            subst h9
                                                            replace h := Prod.mk.inj h
                                                            obtain ⟨h9, h⟩ := h
                                                            subst h9
                                                            replace h := Prod.mk.inj h
                                                            obtain ⟨h9, h⟩ := h
                                                            subst h9
                                                            replace h := Prod.mk.inj h
                                                            obtain ⟨h9, h⟩ := h
                                                            subst h9
                                                            replace h := Prod.mk.inj h
                                                            obtain ⟨h9, h⟩ := h
                                                            subst h9
                                                            replace h := Prod.mk.inj h
                                                            obtain ⟨h9, h⟩ := h
                                                            subst h9
                                                            subst h
                                                            refine j_widen (cl' := mc) (sl' := ms) (by omega) (by omega) ?_
                                                            exact j_zret (w := [(h0, .inr (9, moF am known_h0 thrown_h0 wrong_h0 lastEnd_h0 r556 r557 r543 least_h0 found_h0)), ((am 5), .inr (8, [.ref a_all_m5, .int size_m5])), (a_all_m5, .inl (cI, n_a_all_m5, .inl b_a_all_m5)), ((am 20), .inr (8, [.ref q547, .int r544])), ((am 2), .inl (cI, n_m2, .inl b_m2)), ((am 21), .inr (8, [.ref a_all_m21, .int size_m21])), ((am 7), .inr (8, [.ref a_all_m7, .int size_m7])), (a_all_m7, .inl (cI, n_a_all_m7, .inl b_a_all_m7)), ((am 6), .inr (8, [.ref a_all_m6, .int size_m6])), (a_all_m6, .inl (cI, n_a_all_m6, .inl b_a_all_m6)), ((am 4), .inr (8, [.ref a_all_m4, .int size_m4])), (a_all_m4, .inl (cI, n_a_all_m4, .inl b_a_all_m4)), ((am 22), .inr (8, [.ref a_all_m22, .int size_m22])), (q547, .inl (cI, r545, .inl r546)), (a_all_m21, .inl (cI, n_a_all_m21, .inl b_a_all_m21)), (a_all_m22, .inl (cI, n_a_all_m22, .inl b_a_all_m22))]) hr (zb_n zb1) d_Mo_readStatement_561 [13, 14, 15, 10, 11, 0, 2, 3, 4, 5, 6, 7, 8, 12, 1, 9] rfl (by decide) ⟨q547, a_all_m21, a_all_m22, rfl, zb1, rfl⟩
                                                      · replace h := it_f c539 h
                                                        by_cases c561 : (b_a_all_m5 (Int32.toNatClampNeg at_h0)) = 37
                                                        · replace h := it_t c561 h
                                                          refine j_tabIn (tgt := 540) (off := 534) d_Mo_readStatement_6 37 c561 (by decide) (by decide) (by decide) (by decide) ?_
                                                          refine j_aload_n d_Mo_readStatement_540 rfl 1 rfl ?_
                                                          replace h := bw_s h
                                                          obtain ⟨⟨r562, r563, r564, r565, r566, r567, r568⟩, C571, S572, C573, S574, k575, h, e1, e2⟩ := h
                                                          replace hC : 0 + C571 + C573 ≤ mc := by omega
                                                          replace hS : 0 + S572 + S574 ≤ ms := by omega
                                                          clear e1 e2
                                                          refine j_callV (n := 0) (As := []) (rest := []) (wr := [((am 21), .inr (8, [.ref a_all_m21, .int size_m21])), (a_all_m21, .inl (cI, n_a_all_m21, .inl b_a_all_m21)), ((am 7), .inr (8, [.ref a_all_m7, .int size_m7])), (a_all_m7, .inl (cI, n_a_all_m7, .inl b_a_all_m7)), ((am 6), .inr (8, [.ref a_all_m6, .int size_m6])), (a_all_m6, .inl (cI, n_a_all_m6, .inl b_a_all_m6)), ((am 4), .inr (8, [.ref a_all_m4, .int size_m4])), (a_all_m4, .inl (cI, n_a_all_m4, .inl b_a_all_m4)), ((am 22), .inr (8, [.ref a_all_m22, .int size_m22])), (a_all_m22, .inl (cI, n_a_all_m22, .inl b_a_all_m22))]) (c_Mo_readWorking l D cI cB cJ cS h0 am a_all_m20 a_all_m5 known_h0 thrown_h0 wrong_h0 lastEnd_h0 at_h0 bad_h0 levels_h0 least_h0 found_h0 size_m20 size_m5 n_a_all_m5 b_a_all_m5 n_a_all_m20 b_a_all_m20 n_m2 b_m2  r562 r563 r564 r565 r566 r567 r568 C571 S572 k575) k_Mo_362 (by decide) ⟨Nat.le_of_ble_eq_true rfl, Nat.le_of_ble_eq_true rfl⟩ rfl 0 rfl [13, 0, 14, 15, 1, 2] [3, 4, 5, 6, 7, 8, 9, 10, 11, 12] rfl (by decide +kernel) rfl (by decide +kernel) (by decide +kernel) rfl rfl (Nat.le_of_ble_eq_true rfl) d_Mo_readStatement_541 ⟨show 0 + C571 ≤ mc by omega, show 0 + S572 ≤ ms by omega⟩ (fun v w hq => ?_)
                                                          obtain ⟨q569, rfl, z570, rfl⟩ := hq
                                                          refine j_norm (pc' := 544) (st' := [.int r562]) (ws' := [((am 21), .inr (8, [.ref a_all_m21, .int size_m21])), (a_all_m21, .inl (cI, n_a_all_m21, .inl b_a_all_m21)), ((am 7), .inr (8, [.ref a_all_m7, .int size_m7])), (a_all_m7, .inl (cI, n_a_all_m7, .inl b_a_all_m7)), ((am 6), .inr (8, [.ref a_all_m6, .int size_m6])), (a_all_m6, .inl (cI, n_a_all_m6, .inl b_a_all_m6)), ((am 4), .inr (8, [.ref a_all_m4, .int size_m4])), (a_all_m4, .inl (cI, n_a_all_m4, .inl b_a_all_m4)), ((am 22), .inr (8, [.ref a_all_m22, .int size_m22])), (a_all_m22, .inl (cI, n_a_all_m22, .inl b_a_all_m22)), (h0, .inr (9, moF am known_h0 thrown_h0 wrong_h0 lastEnd_h0 r563 r564 r565 least_h0 found_h0)), ((am 20), .inr (8, [.ref q569, .int r566])), ((am 5), .inr (8, [.ref a_all_m5, .int size_m5])), (a_all_m5, .inl (cI, n_a_all_m5, .inl b_a_all_m5)), ((am 2), .inl (cI, n_m2, .inl b_m2)), (q569, .inl (cI, r567, .inl r568))]) (cl' := 0 + C571) (sl' := 0 + S572) rfl rfl rfl rfl rfl rfl ?_
                                                          refine j_if_eq (tgt := 560) d_Mo_readStatement_544 (by decide) (fun c576 => ?_) (fun c576 => ?_)
                                                          · replace h := it_t c576 h
                                                            refine j_iconst (v := 0) d_Mo_readStatement_560 (by decide) ?_
                                                            replace h := lf_s h
                                                            obtain ⟨h, e1, e2⟩ := h
                                                            replace h := Prod.mk.inj h
                                                            obtain ⟨h9, h⟩ := h
                                                            subst h9
                                                            replace h := Prod.mk.inj h
                                                            obtain ⟨h9, h⟩ := h
                                                            subst h9
                                                            replace h := Prod.mk.inj h
                                                            obtain ⟨h9, h⟩ := h
                                                            subst h9
                                                            replace h := Prod.mk.inj h
                                                            obtain ⟨h9, h⟩ := h
                                                            subst h9
                                                            replace h := Prod.mk.inj h
                                                            obtain ⟨h9, h⟩ := h
                                                            subst h9
                                                            replace h := Prod.mk.inj h
                                                            obtain ⟨h9, h⟩ := h
                                                            subst h9
                                                            replace h := Prod.mk.inj h
                                                            obtain ⟨h9, h⟩ := h
                                                            subst h9
                                                            replace h := Prod.mk.inj h
                                                            obtain ⟨h9, h⟩ := h
                                                            subst h9
                                                            replace h := Prod.mk.inj h
                                                            obtain ⟨h9, h⟩ := h
                                                            subst h9
                                                            replace h := Prod.mk.inj h
                                                            obtain ⟨h9, h⟩ := h
                                                            subst h9
                                                            replace h := Prod.mk.inj h
                                                            obtain ⟨h9, h⟩ := h
                                                            subst h9
                                                            replace h := Prod.mk.inj h
                                                            obtain ⟨h9, h⟩ := h
                                                            subst h9
                                                            replace h := Prod.mk.inj h
                                                            obtain ⟨h9, h⟩ := h
                                                            subst h9
                                                            subst h
                                                            refine j_widen (cl' := mc) (sl' := ms) (by omega) (by omega) ?_
                                                            exact j_zret (w := [(h0, .inr (9, moF am known_h0 thrown_h0 wrong_h0 lastEnd_h0 r563 r564 r565 least_h0 found_h0)), ((am 5), .inr (8, [.ref a_all_m5, .int size_m5])), (a_all_m5, .inl (cI, n_a_all_m5, .inl b_a_all_m5)), ((am 20), .inr (8, [.ref q569, .int r566])), ((am 2), .inl (cI, n_m2, .inl b_m2)), ((am 21), .inr (8, [.ref a_all_m21, .int size_m21])), ((am 7), .inr (8, [.ref a_all_m7, .int size_m7])), (a_all_m7, .inl (cI, n_a_all_m7, .inl b_a_all_m7)), ((am 6), .inr (8, [.ref a_all_m6, .int size_m6])), (a_all_m6, .inl (cI, n_a_all_m6, .inl b_a_all_m6)), ((am 4), .inr (8, [.ref a_all_m4, .int size_m4])), (a_all_m4, .inl (cI, n_a_all_m4, .inl b_a_all_m4)), ((am 22), .inr (8, [.ref a_all_m22, .int size_m22])), (q569, .inl (cI, r567, .inl r568)), (a_all_m21, .inl (cI, n_a_all_m21, .inl b_a_all_m21)), (a_all_m22, .inl (cI, n_a_all_m22, .inl b_a_all_m22))]) hr (zb_n zb0) d_Mo_readStatement_561 [10, 12, 13, 11, 14, 0, 2, 3, 4, 5, 6, 7, 8, 15, 1, 9] rfl (by decide) ⟨q569, a_all_m21, a_all_m22, rfl, zb0, rfl⟩
                                                          · replace h := it_f c576 h
                                                            refine j_aload_n d_Mo_readStatement_547 rfl 1 rfl ?_
                                                            refine j_bipush (v := 55) d_Mo_readStatement_548 (by decide) ?_
                                                            replace h := bd_s h
                                                            obtain ⟨⟨r577, r578, r579⟩, k581, h⟩ := h
                                                            refine j_callV (n := 1) (As := [.int 55]) (rest := []) (wr := [((am 21), .inr (8, [.ref a_all_m21, .int size_m21])), (a_all_m21, .inl (cI, n_a_all_m21, .inl b_a_all_m21)), ((am 7), .inr (8, [.ref a_all_m7, .int size_m7])), (a_all_m7, .inl (cI, n_a_all_m7, .inl b_a_all_m7)), ((am 6), .inr (8, [.ref a_all_m6, .int size_m6])), (a_all_m6, .inl (cI, n_a_all_m6, .inl b_a_all_m6)), ((am 4), .inr (8, [.ref a_all_m4, .int size_m4])), (a_all_m4, .inl (cI, n_a_all_m4, .inl b_a_all_m4)), ((am 22), .inr (8, [.ref a_all_m22, .int size_m22])), (a_all_m22, .inl (cI, n_a_all_m22, .inl b_a_all_m22)), ((am 20), .inr (8, [.ref q569, .int r566])), ((am 2), .inl (cI, n_m2, .inl b_m2)), (q569, .inl (cI, r567, .inl r568))]) (c_Mo_take l D cI cB cJ cS h0 am a_all_m5 55 known_h0 thrown_h0 wrong_h0 lastEnd_h0 r563 r564 r565 least_h0 found_h0 size_m5 n_a_all_m5 b_a_all_m5  r577 r578 r579 k581) k_Mo_285 (by decide) ⟨Nat.le_of_ble_eq_true rfl, Nat.le_of_ble_eq_true rfl⟩ rfl 0 rfl [10, 12, 13] [0, 1, 2, 3, 4, 5, 6, 7, 8, 9, 11, 14, 15] rfl (by decide +kernel) rfl (by decide +kernel) (by decide +kernel) rfl rfl (Nat.le_of_ble_eq_true rfl) d_Mo_readStatement_550 ⟨show 0 + C571 + 0 ≤ mc by omega, show 0 + S572 + 0 ≤ ms by omega⟩ (fun v w hq => ?_)
                                                            obtain ⟨rfl, z580, rfl⟩ := hq
                                                            refine j_norm (pc' := 553) (st' := [.int r577]) (ws' := [((am 21), .inr (8, [.ref a_all_m21, .int size_m21])), (a_all_m21, .inl (cI, n_a_all_m21, .inl b_a_all_m21)), ((am 7), .inr (8, [.ref a_all_m7, .int size_m7])), (a_all_m7, .inl (cI, n_a_all_m7, .inl b_a_all_m7)), ((am 6), .inr (8, [.ref a_all_m6, .int size_m6])), (a_all_m6, .inl (cI, n_a_all_m6, .inl b_a_all_m6)), ((am 4), .inr (8, [.ref a_all_m4, .int size_m4])), (a_all_m4, .inl (cI, n_a_all_m4, .inl b_a_all_m4)), ((am 22), .inr (8, [.ref a_all_m22, .int size_m22])), (a_all_m22, .inl (cI, n_a_all_m22, .inl b_a_all_m22)), ((am 20), .inr (8, [.ref q569, .int r566])), ((am 2), .inl (cI, n_m2, .inl b_m2)), (q569, .inl (cI, r567, .inl r568)), (h0, .inr (9, moF am known_h0 thrown_h0 wrong_h0 lastEnd_h0 r578 r579 r565 least_h0 found_h0)), ((am 5), .inr (8, [.ref a_all_m5, .int size_m5])), (a_all_m5, .inl (cI, n_a_all_m5, .inl b_a_all_m5))]) (cl' := 0 + C571) (sl' := 0 + S572) rfl rfl rfl rfl rfl rfl ?_
                                                            refine j_if_eq (tgt := 560) d_Mo_readStatement_553 (by decide) (fun c582 => ?_) (fun c582 => ?_)
                                                            · replace h := it_t c582 h
                                                              refine j_iconst (v := 0) d_Mo_readStatement_560 (by decide) ?_
                                                              replace h := lf_s h
                                                              obtain ⟨h, e1, e2⟩ := h
                                                              replace h := Prod.mk.inj h
                                                              obtain ⟨h9, h⟩ := h
                                                              subst h9
                                                              replace h := Prod.mk.inj h
                                                              obtain ⟨h9, h⟩ := h
                                                              subst h9
                                                              replace h := Prod.mk.inj h
                                                              obtain ⟨h9, h⟩ := h
                                                              subst h9
                                                              replace h := Prod.mk.inj h
                                                              obtain ⟨h9, h⟩ := h
                                                              subst h9
                                                              replace h := Prod.mk.inj h
                                                              obtain ⟨h9, h⟩ := h
                                                              subst h9
                                                              replace h := Prod.mk.inj h
                                                              obtain ⟨h9, h⟩ := h
                                                              subst h9
                                                              replace h := Prod.mk.inj h
                                                              obtain ⟨h9, h⟩ := h
                                                              subst h9
                                                              replace h := Prod.mk.inj h
                                                              obtain ⟨h9, h⟩ := h
                                                              subst h9
                                                              replace h := Prod.mk.inj h
                                                              obtain ⟨h9, h⟩ := h
                                                              subst h9
                                                              replace h := Prod.mk.inj h
                                                              obtain ⟨h9, h⟩ := h
                                                              subst h9
                                                              replace h := Prod.mk.inj h
                                                              obtain ⟨h9, h⟩ := h
                                                              subst h9
                                                              replace h := Prod.mk.inj h
                                                              obtain ⟨h9, h⟩ := h
                                                              subst h9
                                                              replace h := Prod.mk.inj h
                                                              obtain ⟨h9, h⟩ := h
                                                              subst h9
                                                              subst h
                                                              refine j_widen (cl' := mc) (sl' := ms) (by omega) (by omega) ?_
                                                              exact j_zret (w := [(h0, .inr (9, moF am known_h0 thrown_h0 wrong_h0 lastEnd_h0 r578 r579 r565 least_h0 found_h0)), ((am 5), .inr (8, [.ref a_all_m5, .int size_m5])), (a_all_m5, .inl (cI, n_a_all_m5, .inl b_a_all_m5)), ((am 20), .inr (8, [.ref q569, .int r566])), ((am 2), .inl (cI, n_m2, .inl b_m2)), ((am 21), .inr (8, [.ref a_all_m21, .int size_m21])), ((am 7), .inr (8, [.ref a_all_m7, .int size_m7])), (a_all_m7, .inl (cI, n_a_all_m7, .inl b_a_all_m7)), ((am 6), .inr (8, [.ref a_all_m6, .int size_m6])), (a_all_m6, .inl (cI, n_a_all_m6, .inl b_a_all_m6)), ((am 4), .inr (8, [.ref a_all_m4, .int size_m4])), (a_all_m4, .inl (cI, n_a_all_m4, .inl b_a_all_m4)), ((am 22), .inr (8, [.ref a_all_m22, .int size_m22])), (q569, .inl (cI, r567, .inl r568)), (a_all_m21, .inl (cI, n_a_all_m21, .inl b_a_all_m21)), (a_all_m22, .inl (cI, n_a_all_m22, .inl b_a_all_m22))]) hr (zb_n zb0) d_Mo_readStatement_561 [13, 14, 15, 10, 11, 0, 2, 3, 4, 5, 6, 7, 8, 12, 1, 9] rfl (by decide) ⟨q569, a_all_m21, a_all_m22, rfl, zb0, rfl⟩
                                                            · replace h := it_f c582 h
                                                              refine j_iconst (v := 1) d_Mo_readStatement_556 (by decide) ?_
                                                              refine j_goto (tgt := 561) d_Mo_readStatement_557 (by decide) ?_
                                                              replace h := lf_s h
                                                              obtain ⟨h, e1, e2⟩ := h
                                                              replace h := Prod.mk.inj h
                                                              obtain ⟨h9, h⟩ := h
                                                              subst h9
                                                              replace h := Prod.mk.inj h
                                                              obtain ⟨h9, h⟩ := h
                                                              subst h9
                                                              replace h := Prod.mk.inj h
                                                              obtain ⟨h9, h⟩ := h
                                                              subst h9
                                                              replace h := Prod.mk.inj h
                                                              obtain ⟨h9, h⟩ := h
                                                              subst h9
                                                              replace h := Prod.mk.inj h
                                                              obtain ⟨h9, h⟩ := h
                                                              subst h9
                                                              replace h := Prod.mk.inj h
                                                              obtain ⟨h9, h⟩ := h
                                                              subst h9
                                                              replace h := Prod.mk.inj h
                                                              obtain ⟨h9, h⟩ := h
                                                              subst h9
                                                              replace h := Prod.mk.inj h
                                                              obtain ⟨h9, h⟩ := h
                                                              subst h9
                                                              replace h := Prod.mk.inj h
                                                              obtain ⟨h9, h⟩ := h
                                                              subst h9
                                                              replace h := Prod.mk.inj h
                                                              obtain ⟨h9, h⟩ := h
                                                              subst h9
                                                              replace h := Prod.mk.inj h
                                                              obtain ⟨h9, h⟩ := h
                                                              subst h9
                                                              replace h := Prod.mk.inj h
                                                              obtain ⟨h9, h⟩ := h
                                                              subst h9
                                                              replace h := Prod.mk.inj h
                                                              obtain ⟨h9, h⟩ := h
                                                              subst h9
                                                              subst h
                                                              refine j_widen (cl' := mc) (sl' := ms) (by omega) (by omega) ?_
                                                              exact j_zret (w := [(h0, .inr (9, moF am known_h0 thrown_h0 wrong_h0 lastEnd_h0 r578 r579 r565 least_h0 found_h0)), ((am 5), .inr (8, [.ref a_all_m5, .int size_m5])), (a_all_m5, .inl (cI, n_a_all_m5, .inl b_a_all_m5)), ((am 20), .inr (8, [.ref q569, .int r566])), ((am 2), .inl (cI, n_m2, .inl b_m2)), ((am 21), .inr (8, [.ref a_all_m21, .int size_m21])), ((am 7), .inr (8, [.ref a_all_m7, .int size_m7])), (a_all_m7, .inl (cI, n_a_all_m7, .inl b_a_all_m7)), ((am 6), .inr (8, [.ref a_all_m6, .int size_m6])), (a_all_m6, .inl (cI, n_a_all_m6, .inl b_a_all_m6)), ((am 4), .inr (8, [.ref a_all_m4, .int size_m4])), (a_all_m4, .inl (cI, n_a_all_m4, .inl b_a_all_m4)), ((am 22), .inr (8, [.ref a_all_m22, .int size_m22])), (q569, .inl (cI, r567, .inl r568)), (a_all_m21, .inl (cI, n_a_all_m21, .inl b_a_all_m21)), (a_all_m22, .inl (cI, n_a_all_m22, .inl b_a_all_m22))]) hr (zb_n zb1) d_Mo_readStatement_561 [13, 14, 15, 10, 11, 0, 2, 3, 4, 5, 6, 7, 8, 12, 1, 9] rfl (by decide) ⟨q569, a_all_m21, a_all_m22, rfl, zb1, rfl⟩
                                                        · replace h := it_f c561 h
                                                          by_cases c583 : (b_a_all_m5 (Int32.toNatClampNeg at_h0)) = 38
                                                          · replace h := it_t c583 h
                                                            refine j_tabIn (tgt := 540) (off := 534) d_Mo_readStatement_6 38 c583 (by decide) (by decide) (by decide) (by decide) ?_
                                                            refine j_aload_n d_Mo_readStatement_540 rfl 1 rfl ?_
                                                            replace h := bw_s h
                                                            obtain ⟨⟨r584, r585, r586, r587, r588, r589, r590⟩, C593, S594, C595, S596, k597, h, e1, e2⟩ := h
                                                            replace hC : 0 + C593 + C595 ≤ mc := by omega
                                                            replace hS : 0 + S594 + S596 ≤ ms := by omega
                                                            clear e1 e2
                                                            refine j_callV (n := 0) (As := []) (rest := []) (wr := [((am 21), .inr (8, [.ref a_all_m21, .int size_m21])), (a_all_m21, .inl (cI, n_a_all_m21, .inl b_a_all_m21)), ((am 7), .inr (8, [.ref a_all_m7, .int size_m7])), (a_all_m7, .inl (cI, n_a_all_m7, .inl b_a_all_m7)), ((am 6), .inr (8, [.ref a_all_m6, .int size_m6])), (a_all_m6, .inl (cI, n_a_all_m6, .inl b_a_all_m6)), ((am 4), .inr (8, [.ref a_all_m4, .int size_m4])), (a_all_m4, .inl (cI, n_a_all_m4, .inl b_a_all_m4)), ((am 22), .inr (8, [.ref a_all_m22, .int size_m22])), (a_all_m22, .inl (cI, n_a_all_m22, .inl b_a_all_m22))]) (c_Mo_readWorking l D cI cB cJ cS h0 am a_all_m20 a_all_m5 known_h0 thrown_h0 wrong_h0 lastEnd_h0 at_h0 bad_h0 levels_h0 least_h0 found_h0 size_m20 size_m5 n_a_all_m5 b_a_all_m5 n_a_all_m20 b_a_all_m20 n_m2 b_m2  r584 r585 r586 r587 r588 r589 r590 C593 S594 k597) k_Mo_362 (by decide) ⟨Nat.le_of_ble_eq_true rfl, Nat.le_of_ble_eq_true rfl⟩ rfl 0 rfl [13, 0, 14, 15, 1, 2] [3, 4, 5, 6, 7, 8, 9, 10, 11, 12] rfl (by decide +kernel) rfl (by decide +kernel) (by decide +kernel) rfl rfl (Nat.le_of_ble_eq_true rfl) d_Mo_readStatement_541 ⟨show 0 + C593 ≤ mc by omega, show 0 + S594 ≤ ms by omega⟩ (fun v w hq => ?_)
                                                            obtain ⟨q591, rfl, z592, rfl⟩ := hq
                                                            refine j_norm (pc' := 544) (st' := [.int r584]) (ws' := [((am 21), .inr (8, [.ref a_all_m21, .int size_m21])), (a_all_m21, .inl (cI, n_a_all_m21, .inl b_a_all_m21)), ((am 7), .inr (8, [.ref a_all_m7, .int size_m7])), (a_all_m7, .inl (cI, n_a_all_m7, .inl b_a_all_m7)), ((am 6), .inr (8, [.ref a_all_m6, .int size_m6])), (a_all_m6, .inl (cI, n_a_all_m6, .inl b_a_all_m6)), ((am 4), .inr (8, [.ref a_all_m4, .int size_m4])), (a_all_m4, .inl (cI, n_a_all_m4, .inl b_a_all_m4)), ((am 22), .inr (8, [.ref a_all_m22, .int size_m22])), (a_all_m22, .inl (cI, n_a_all_m22, .inl b_a_all_m22)), (h0, .inr (9, moF am known_h0 thrown_h0 wrong_h0 lastEnd_h0 r585 r586 r587 least_h0 found_h0)), ((am 20), .inr (8, [.ref q591, .int r588])), ((am 5), .inr (8, [.ref a_all_m5, .int size_m5])), (a_all_m5, .inl (cI, n_a_all_m5, .inl b_a_all_m5)), ((am 2), .inl (cI, n_m2, .inl b_m2)), (q591, .inl (cI, r589, .inl r590))]) (cl' := 0 + C593) (sl' := 0 + S594) rfl rfl rfl rfl rfl rfl ?_
                                                            refine j_if_eq (tgt := 560) d_Mo_readStatement_544 (by decide) (fun c598 => ?_) (fun c598 => ?_)
                                                            · replace h := it_t c598 h
                                                              refine j_iconst (v := 0) d_Mo_readStatement_560 (by decide) ?_
                                                              replace h := lf_s h
                                                              obtain ⟨h, e1, e2⟩ := h
                                                              replace h := Prod.mk.inj h
                                                              obtain ⟨h9, h⟩ := h
                                                              subst h9
                                                              replace h := Prod.mk.inj h
                                                              obtain ⟨h9, h⟩ := h
                                                              subst h9
                                                              replace h := Prod.mk.inj h
                                                              obtain ⟨h9, h⟩ := h
                                                              subst h9
                                                              replace h := Prod.mk.inj h
                                                              obtain ⟨h9, h⟩ := h
                                                              subst h9
                                                              replace h := Prod.mk.inj h
                                                              obtain ⟨h9, h⟩ := h
                                                              subst h9
                                                              replace h := Prod.mk.inj h
                                                              obtain ⟨h9, h⟩ := h
                                                              subst h9
                                                              replace h := Prod.mk.inj h
                                                              obtain ⟨h9, h⟩ := h
                                                              subst h9
                                                              replace h := Prod.mk.inj h
                                                              obtain ⟨h9, h⟩ := h
                                                              subst h9
                                                              replace h := Prod.mk.inj h
                                                              obtain ⟨h9, h⟩ := h
                                                              subst h9
                                                              replace h := Prod.mk.inj h
                                                              obtain ⟨h9, h⟩ := h
                                                              subst h9
                                                              replace h := Prod.mk.inj h
                                                              obtain ⟨h9, h⟩ := h
                                                              subst h9
                                                              replace h := Prod.mk.inj h
                                                              obtain ⟨h9, h⟩ := h
                                                              subst h9
                                                              replace h := Prod.mk.inj h
                                                              obtain ⟨h9, h⟩ := h
                                                              subst h9
                                                              subst h
                                                              refine j_widen (cl' := mc) (sl' := ms) (by omega) (by omega) ?_
                                                              exact j_zret (w := [(h0, .inr (9, moF am known_h0 thrown_h0 wrong_h0 lastEnd_h0 r585 r586 r587 least_h0 found_h0)), ((am 5), .inr (8, [.ref a_all_m5, .int size_m5])), (a_all_m5, .inl (cI, n_a_all_m5, .inl b_a_all_m5)), ((am 20), .inr (8, [.ref q591, .int r588])), ((am 2), .inl (cI, n_m2, .inl b_m2)), ((am 21), .inr (8, [.ref a_all_m21, .int size_m21])), ((am 7), .inr (8, [.ref a_all_m7, .int size_m7])), (a_all_m7, .inl (cI, n_a_all_m7, .inl b_a_all_m7)), ((am 6), .inr (8, [.ref a_all_m6, .int size_m6])), (a_all_m6, .inl (cI, n_a_all_m6, .inl b_a_all_m6)), ((am 4), .inr (8, [.ref a_all_m4, .int size_m4])), (a_all_m4, .inl (cI, n_a_all_m4, .inl b_a_all_m4)), ((am 22), .inr (8, [.ref a_all_m22, .int size_m22])), (q591, .inl (cI, r589, .inl r590)), (a_all_m21, .inl (cI, n_a_all_m21, .inl b_a_all_m21)), (a_all_m22, .inl (cI, n_a_all_m22, .inl b_a_all_m22))]) hr (zb_n zb0) d_Mo_readStatement_561 [10, 12, 13, 11, 14, 0, 2, 3, 4, 5, 6, 7, 8, 15, 1, 9] rfl (by decide) ⟨q591, a_all_m21, a_all_m22, rfl, zb0, rfl⟩
                                                            · replace h := it_f c598 h
                                                              refine j_aload_n d_Mo_readStatement_547 rfl 1 rfl ?_
                                                              refine j_bipush (v := 55) d_Mo_readStatement_548 (by decide) ?_
                                                              replace h := bd_s h
                                                              obtain ⟨⟨r599, r600, r601⟩, k603, h⟩ := h
                                                              refine j_callV (n := 1) (As := [.int 55]) (rest := []) (wr := [((am 21), .inr (8, [.ref a_all_m21, .int size_m21])), (a_all_m21, .inl (cI, n_a_all_m21, .inl b_a_all_m21)), ((am 7), .inr (8, [.ref a_all_m7, .int size_m7])), (a_all_m7, .inl (cI, n_a_all_m7, .inl b_a_all_m7)), ((am 6), .inr (8, [.ref a_all_m6, .int size_m6])), (a_all_m6, .inl (cI, n_a_all_m6, .inl b_a_all_m6)), ((am 4), .inr (8, [.ref a_all_m4, .int size_m4])), (a_all_m4, .inl (cI, n_a_all_m4, .inl b_a_all_m4)), ((am 22), .inr (8, [.ref a_all_m22, .int size_m22])), (a_all_m22, .inl (cI, n_a_all_m22, .inl b_a_all_m22)), ((am 20), .inr (8, [.ref q591, .int r588])), ((am 2), .inl (cI, n_m2, .inl b_m2)), (q591, .inl (cI, r589, .inl r590))]) (c_Mo_take l D cI cB cJ cS h0 am a_all_m5 55 known_h0 thrown_h0 wrong_h0 lastEnd_h0 r585 r586 r587 least_h0 found_h0 size_m5 n_a_all_m5 b_a_all_m5  r599 r600 r601 k603) k_Mo_285 (by decide) ⟨Nat.le_of_ble_eq_true rfl, Nat.le_of_ble_eq_true rfl⟩ rfl 0 rfl [10, 12, 13] [0, 1, 2, 3, 4, 5, 6, 7, 8, 9, 11, 14, 15] rfl (by decide +kernel) rfl (by decide +kernel) (by decide +kernel) rfl rfl (Nat.le_of_ble_eq_true rfl) d_Mo_readStatement_550 ⟨show 0 + C593 + 0 ≤ mc by omega, show 0 + S594 + 0 ≤ ms by omega⟩ (fun v w hq => ?_)
                                                              obtain ⟨rfl, z602, rfl⟩ := hq
                                                              refine j_norm (pc' := 553) (st' := [.int r599]) (ws' := [((am 21), .inr (8, [.ref a_all_m21, .int size_m21])), (a_all_m21, .inl (cI, n_a_all_m21, .inl b_a_all_m21)), ((am 7), .inr (8, [.ref a_all_m7, .int size_m7])), (a_all_m7, .inl (cI, n_a_all_m7, .inl b_a_all_m7)), ((am 6), .inr (8, [.ref a_all_m6, .int size_m6])), (a_all_m6, .inl (cI, n_a_all_m6, .inl b_a_all_m6)), ((am 4), .inr (8, [.ref a_all_m4, .int size_m4])), (a_all_m4, .inl (cI, n_a_all_m4, .inl b_a_all_m4)), ((am 22), .inr (8, [.ref a_all_m22, .int size_m22])), (a_all_m22, .inl (cI, n_a_all_m22, .inl b_a_all_m22)), ((am 20), .inr (8, [.ref q591, .int r588])), ((am 2), .inl (cI, n_m2, .inl b_m2)), (q591, .inl (cI, r589, .inl r590)), (h0, .inr (9, moF am known_h0 thrown_h0 wrong_h0 lastEnd_h0 r600 r601 r587 least_h0 found_h0)), ((am 5), .inr (8, [.ref a_all_m5, .int size_m5])), (a_all_m5, .inl (cI, n_a_all_m5, .inl b_a_all_m5))]) (cl' := 0 + C593) (sl' := 0 + S594) rfl rfl rfl rfl rfl rfl ?_
                                                              refine j_if_eq (tgt := 560) d_Mo_readStatement_553 (by decide) (fun c604 => ?_) (fun c604 => ?_)
                                                              · replace h := it_t c604 h
                                                                refine j_iconst (v := 0) d_Mo_readStatement_560 (by decide) ?_
                                                                replace h := lf_s h
                                                                obtain ⟨h, e1, e2⟩ := h
                                                                replace h := Prod.mk.inj h
                                                                obtain ⟨h9, h⟩ := h
                                                                subst h9
                                                                replace h := Prod.mk.inj h
                                                                obtain ⟨h9, h⟩ := h
                                                                subst h9
                                                                replace h := Prod.mk.inj h
                                                                obtain ⟨h9, h⟩ := h
                                                                subst h9
                                                                replace h := Prod.mk.inj h
                                                                obtain ⟨h9, h⟩ := h
                                                                subst h9
                                                                replace h := Prod.mk.inj h
                                                                obtain ⟨h9, h⟩ := h
                                                                subst h9
                                                                replace h := Prod.mk.inj h
                                                                obtain ⟨h9, h⟩ := h
                                                                subst h9
                                                                replace h := Prod.mk.inj h
                                                                obtain ⟨h9, h⟩ := h
                                                                subst h9
                                                                replace h := Prod.mk.inj h
                                                                obtain ⟨h9, h⟩ := h
                                                                subst h9
                                                                replace h := Prod.mk.inj h
                                                                obtain ⟨h9, h⟩ := h
                                                                subst h9
                                                                replace h := Prod.mk.inj h
                                                                obtain ⟨h9, h⟩ := h
                                                                subst h9
                                                                replace h := Prod.mk.inj h
                                                                obtain ⟨h9, h⟩ := h
                                                                subst h9
                                                                replace h := Prod.mk.inj h
                                                                obtain ⟨h9, h⟩ := h
                                                                subst h9
                                                                replace h := Prod.mk.inj h
                                                                obtain ⟨h9, h⟩ := h
                                                                subst h9
                                                                subst h
                                                                refine j_widen (cl' := mc) (sl' := ms) (by omega) (by omega) ?_
                                                                exact j_zret (w := [(h0, .inr (9, moF am known_h0 thrown_h0 wrong_h0 lastEnd_h0 r600 r601 r587 least_h0 found_h0)), ((am 5), .inr (8, [.ref a_all_m5, .int size_m5])), (a_all_m5, .inl (cI, n_a_all_m5, .inl b_a_all_m5)), ((am 20), .inr (8, [.ref q591, .int r588])), ((am 2), .inl (cI, n_m2, .inl b_m2)), ((am 21), .inr (8, [.ref a_all_m21, .int size_m21])), ((am 7), .inr (8, [.ref a_all_m7, .int size_m7])), (a_all_m7, .inl (cI, n_a_all_m7, .inl b_a_all_m7)), ((am 6), .inr (8, [.ref a_all_m6, .int size_m6])), (a_all_m6, .inl (cI, n_a_all_m6, .inl b_a_all_m6)), ((am 4), .inr (8, [.ref a_all_m4, .int size_m4])), (a_all_m4, .inl (cI, n_a_all_m4, .inl b_a_all_m4)), ((am 22), .inr (8, [.ref a_all_m22, .int size_m22])), (q591, .inl (cI, r589, .inl r590)), (a_all_m21, .inl (cI, n_a_all_m21, .inl b_a_all_m21)), (a_all_m22, .inl (cI, n_a_all_m22, .inl b_a_all_m22))]) hr (zb_n zb0) d_Mo_readStatement_561 [13, 14, 15, 10, 11, 0, 2, 3, 4, 5, 6, 7, 8, 12, 1, 9] rfl (by decide) ⟨q591, a_all_m21, a_all_m22, rfl, zb0, rfl⟩
                                                              · replace h := it_f c604 h
                                                                refine j_iconst (v := 1) d_Mo_readStatement_556 (by decide) ?_
                                                                refine j_goto (tgt := 561) d_Mo_readStatement_557 (by decide) ?_
                                                                replace h := lf_s h
                                                                obtain ⟨h, e1, e2⟩ := h
                                                                replace h := Prod.mk.inj h
                                                                obtain ⟨h9, h⟩ := h
                                                                subst h9
                                                                replace h := Prod.mk.inj h
                                                                obtain ⟨h9, h⟩ := h
                                                                subst h9
                                                                replace h := Prod.mk.inj h
                                                                obtain ⟨h9, h⟩ := h
                                                                subst h9
                                                                replace h := Prod.mk.inj h
                                                                obtain ⟨h9, h⟩ := h
                                                                subst h9
                                                                replace h := Prod.mk.inj h
                                                                obtain ⟨h9, h⟩ := h
                                                                subst h9
                                                                replace h := Prod.mk.inj h
                                                                obtain ⟨h9, h⟩ := h
                                                                subst h9
                                                                replace h := Prod.mk.inj h
                                                                obtain ⟨h9, h⟩ := h
                                                                subst h9
                                                                replace h := Prod.mk.inj h
                                                                obtain ⟨h9, h⟩ := h
                                                                subst h9
                                                                replace h := Prod.mk.inj h
                                                                obtain ⟨h9, h⟩ := h
                                                                subst h9
                                                                replace h := Prod.mk.inj h
                                                                obtain ⟨h9, h⟩ := h
                                                                subst h9
                                                                replace h := Prod.mk.inj h
                                                                obtain ⟨h9, h⟩ := h
                                                                subst h9
                                                                replace h := Prod.mk.inj h
                                                                obtain ⟨h9, h⟩ := h
                                                                subst h9
                                                                replace h := Prod.mk.inj h
                                                                obtain ⟨h9, h⟩ := h
                                                                subst h9
                                                                subst h
                                                                refine j_widen (cl' := mc) (sl' := ms) (by omega) (by omega) ?_
                                                                exact j_zret (w := [(h0, .inr (9, moF am known_h0 thrown_h0 wrong_h0 lastEnd_h0 r600 r601 r587 least_h0 found_h0)), ((am 5), .inr (8, [.ref a_all_m5, .int size_m5])), (a_all_m5, .inl (cI, n_a_all_m5, .inl b_a_all_m5)), ((am 20), .inr (8, [.ref q591, .int r588])), ((am 2), .inl (cI, n_m2, .inl b_m2)), ((am 21), .inr (8, [.ref a_all_m21, .int size_m21])), ((am 7), .inr (8, [.ref a_all_m7, .int size_m7])), (a_all_m7, .inl (cI, n_a_all_m7, .inl b_a_all_m7)), ((am 6), .inr (8, [.ref a_all_m6, .int size_m6])), (a_all_m6, .inl (cI, n_a_all_m6, .inl b_a_all_m6)), ((am 4), .inr (8, [.ref a_all_m4, .int size_m4])), (a_all_m4, .inl (cI, n_a_all_m4, .inl b_a_all_m4)), ((am 22), .inr (8, [.ref a_all_m22, .int size_m22])), (q591, .inl (cI, r589, .inl r590)), (a_all_m21, .inl (cI, n_a_all_m21, .inl b_a_all_m21)), (a_all_m22, .inl (cI, n_a_all_m22, .inl b_a_all_m22))]) hr (zb_n zb1) d_Mo_readStatement_561 [13, 14, 15, 10, 11, 0, 2, 3, 4, 5, 6, 7, 8, 12, 1, 9] rfl (by decide) ⟨q591, a_all_m21, a_all_m22, rfl, zb1, rfl⟩
                                                          · replace h := it_f c583 h
                                                            by_cases c605 : (b_a_all_m5 (Int32.toNatClampNeg at_h0)) = 39
                                                            · replace h := it_t c605 h
                                                              refine j_tabIn (tgt := 540) (off := 534) d_Mo_readStatement_6 39 c605 (by decide) (by decide) (by decide) (by decide) ?_
                                                              refine j_aload_n d_Mo_readStatement_540 rfl 1 rfl ?_
                                                              replace h := bw_s h
                                                              obtain ⟨⟨r606, r607, r608, r609, r610, r611, r612⟩, C615, S616, C617, S618, k619, h, e1, e2⟩ := h
                                                              replace hC : 0 + C615 + C617 ≤ mc := by omega
                                                              replace hS : 0 + S616 + S618 ≤ ms := by omega
                                                              clear e1 e2
                                                              refine j_callV (n := 0) (As := []) (rest := []) (wr := [((am 21), .inr (8, [.ref a_all_m21, .int size_m21])), (a_all_m21, .inl (cI, n_a_all_m21, .inl b_a_all_m21)), ((am 7), .inr (8, [.ref a_all_m7, .int size_m7])), (a_all_m7, .inl (cI, n_a_all_m7, .inl b_a_all_m7)), ((am 6), .inr (8, [.ref a_all_m6, .int size_m6])), (a_all_m6, .inl (cI, n_a_all_m6, .inl b_a_all_m6)), ((am 4), .inr (8, [.ref a_all_m4, .int size_m4])), (a_all_m4, .inl (cI, n_a_all_m4, .inl b_a_all_m4)), ((am 22), .inr (8, [.ref a_all_m22, .int size_m22])), (a_all_m22, .inl (cI, n_a_all_m22, .inl b_a_all_m22))]) (c_Mo_readWorking l D cI cB cJ cS h0 am a_all_m20 a_all_m5 known_h0 thrown_h0 wrong_h0 lastEnd_h0 at_h0 bad_h0 levels_h0 least_h0 found_h0 size_m20 size_m5 n_a_all_m5 b_a_all_m5 n_a_all_m20 b_a_all_m20 n_m2 b_m2  r606 r607 r608 r609 r610 r611 r612 C615 S616 k619) k_Mo_362 (by decide) ⟨Nat.le_of_ble_eq_true rfl, Nat.le_of_ble_eq_true rfl⟩ rfl 0 rfl [13, 0, 14, 15, 1, 2] [3, 4, 5, 6, 7, 8, 9, 10, 11, 12] rfl (by decide +kernel) rfl (by decide +kernel) (by decide +kernel) rfl rfl (Nat.le_of_ble_eq_true rfl) d_Mo_readStatement_541 ⟨show 0 + C615 ≤ mc by omega, show 0 + S616 ≤ ms by omega⟩ (fun v w hq => ?_)
                                                              obtain ⟨q613, rfl, z614, rfl⟩ := hq
                                                              refine j_norm (pc' := 544) (st' := [.int r606]) (ws' := [((am 21), .inr (8, [.ref a_all_m21, .int size_m21])), (a_all_m21, .inl (cI, n_a_all_m21, .inl b_a_all_m21)), ((am 7), .inr (8, [.ref a_all_m7, .int size_m7])), (a_all_m7, .inl (cI, n_a_all_m7, .inl b_a_all_m7)), ((am 6), .inr (8, [.ref a_all_m6, .int size_m6])), (a_all_m6, .inl (cI, n_a_all_m6, .inl b_a_all_m6)), ((am 4), .inr (8, [.ref a_all_m4, .int size_m4])), (a_all_m4, .inl (cI, n_a_all_m4, .inl b_a_all_m4)), ((am 22), .inr (8, [.ref a_all_m22, .int size_m22])), (a_all_m22, .inl (cI, n_a_all_m22, .inl b_a_all_m22)), (h0, .inr (9, moF am known_h0 thrown_h0 wrong_h0 lastEnd_h0 r607 r608 r609 least_h0 found_h0)), ((am 20), .inr (8, [.ref q613, .int r610])), ((am 5), .inr (8, [.ref a_all_m5, .int size_m5])), (a_all_m5, .inl (cI, n_a_all_m5, .inl b_a_all_m5)), ((am 2), .inl (cI, n_m2, .inl b_m2)), (q613, .inl (cI, r611, .inl r612))]) (cl' := 0 + C615) (sl' := 0 + S616) rfl rfl rfl rfl rfl rfl ?_
                                                              refine j_if_eq (tgt := 560) d_Mo_readStatement_544 (by decide) (fun c620 => ?_) (fun c620 => ?_)
                                                              · replace h := it_t c620 h
                                                                refine j_iconst (v := 0) d_Mo_readStatement_560 (by decide) ?_
                                                                replace h := lf_s h
                                                                obtain ⟨h, e1, e2⟩ := h
                                                                replace h := Prod.mk.inj h
                                                                obtain ⟨h9, h⟩ := h
                                                                subst h9
                                                                replace h := Prod.mk.inj h
                                                                obtain ⟨h9, h⟩ := h
                                                                subst h9
                                                                replace h := Prod.mk.inj h
                                                                obtain ⟨h9, h⟩ := h
                                                                subst h9
                                                                replace h := Prod.mk.inj h
                                                                obtain ⟨h9, h⟩ := h
                                                                subst h9
                                                                replace h := Prod.mk.inj h
                                                                obtain ⟨h9, h⟩ := h
                                                                subst h9
                                                                replace h := Prod.mk.inj h
                                                                obtain ⟨h9, h⟩ := h
                                                                subst h9
                                                                replace h := Prod.mk.inj h
                                                                obtain ⟨h9, h⟩ := h
                                                                subst h9
                                                                replace h := Prod.mk.inj h
                                                                obtain ⟨h9, h⟩ := h
                                                                subst h9
                                                                replace h := Prod.mk.inj h
                                                                obtain ⟨h9, h⟩ := h
                                                                subst h9
                                                                replace h := Prod.mk.inj h
                                                                obtain ⟨h9, h⟩ := h
                                                                subst h9
                                                                replace h := Prod.mk.inj h
                                                                obtain ⟨h9, h⟩ := h
                                                                subst h9
                                                                replace h := Prod.mk.inj h
                                                                obtain ⟨h9, h⟩ := h
                                                                subst h9
                                                                replace h := Prod.mk.inj h
                                                                obtain ⟨h9, h⟩ := h
                                                                subst h9
                                                                subst h
                                                                refine j_widen (cl' := mc) (sl' := ms) (by omega) (by omega) ?_
                                                                exact j_zret (w := [(h0, .inr (9, moF am known_h0 thrown_h0 wrong_h0 lastEnd_h0 r607 r608 r609 least_h0 found_h0)), ((am 5), .inr (8, [.ref a_all_m5, .int size_m5])), (a_all_m5, .inl (cI, n_a_all_m5, .inl b_a_all_m5)), ((am 20), .inr (8, [.ref q613, .int r610])), ((am 2), .inl (cI, n_m2, .inl b_m2)), ((am 21), .inr (8, [.ref a_all_m21, .int size_m21])), ((am 7), .inr (8, [.ref a_all_m7, .int size_m7])), (a_all_m7, .inl (cI, n_a_all_m7, .inl b_a_all_m7)), ((am 6), .inr (8, [.ref a_all_m6, .int size_m6])), (a_all_m6, .inl (cI, n_a_all_m6, .inl b_a_all_m6)), ((am 4), .inr (8, [.ref a_all_m4, .int size_m4])), (a_all_m4, .inl (cI, n_a_all_m4, .inl b_a_all_m4)), ((am 22), .inr (8, [.ref a_all_m22, .int size_m22])), (q613, .inl (cI, r611, .inl r612)), (a_all_m21, .inl (cI, n_a_all_m21, .inl b_a_all_m21)), (a_all_m22, .inl (cI, n_a_all_m22, .inl b_a_all_m22))]) hr (zb_n zb0) d_Mo_readStatement_561 [10, 12, 13, 11, 14, 0, 2, 3, 4, 5, 6, 7, 8, 15, 1, 9] rfl (by decide) ⟨q613, a_all_m21, a_all_m22, rfl, zb0, rfl⟩
                                                              · replace h := it_f c620 h
                                                                refine j_aload_n d_Mo_readStatement_547 rfl 1 rfl ?_
                                                                refine j_bipush (v := 55) d_Mo_readStatement_548 (by decide) ?_
                                                                replace h := bd_s h
                                                                obtain ⟨⟨r621, r622, r623⟩, k625, h⟩ := h
                                                                refine j_callV (n := 1) (As := [.int 55]) (rest := []) (wr := [((am 21), .inr (8, [.ref a_all_m21, .int size_m21])), (a_all_m21, .inl (cI, n_a_all_m21, .inl b_a_all_m21)), ((am 7), .inr (8, [.ref a_all_m7, .int size_m7])), (a_all_m7, .inl (cI, n_a_all_m7, .inl b_a_all_m7)), ((am 6), .inr (8, [.ref a_all_m6, .int size_m6])), (a_all_m6, .inl (cI, n_a_all_m6, .inl b_a_all_m6)), ((am 4), .inr (8, [.ref a_all_m4, .int size_m4])), (a_all_m4, .inl (cI, n_a_all_m4, .inl b_a_all_m4)), ((am 22), .inr (8, [.ref a_all_m22, .int size_m22])), (a_all_m22, .inl (cI, n_a_all_m22, .inl b_a_all_m22)), ((am 20), .inr (8, [.ref q613, .int r610])), ((am 2), .inl (cI, n_m2, .inl b_m2)), (q613, .inl (cI, r611, .inl r612))]) (c_Mo_take l D cI cB cJ cS h0 am a_all_m5 55 known_h0 thrown_h0 wrong_h0 lastEnd_h0 r607 r608 r609 least_h0 found_h0 size_m5 n_a_all_m5 b_a_all_m5  r621 r622 r623 k625) k_Mo_285 (by decide) ⟨Nat.le_of_ble_eq_true rfl, Nat.le_of_ble_eq_true rfl⟩ rfl 0 rfl [10, 12, 13] [0, 1, 2, 3, 4, 5, 6, 7, 8, 9, 11, 14, 15] rfl (by decide +kernel) rfl (by decide +kernel) (by decide +kernel) rfl rfl (Nat.le_of_ble_eq_true rfl) d_Mo_readStatement_550 ⟨show 0 + C615 + 0 ≤ mc by omega, show 0 + S616 + 0 ≤ ms by omega⟩ (fun v w hq => ?_)
                                                                obtain ⟨rfl, z624, rfl⟩ := hq
                                                                refine j_norm (pc' := 553) (st' := [.int r621]) (ws' := [((am 21), .inr (8, [.ref a_all_m21, .int size_m21])), (a_all_m21, .inl (cI, n_a_all_m21, .inl b_a_all_m21)), ((am 7), .inr (8, [.ref a_all_m7, .int size_m7])), (a_all_m7, .inl (cI, n_a_all_m7, .inl b_a_all_m7)), ((am 6), .inr (8, [.ref a_all_m6, .int size_m6])), (a_all_m6, .inl (cI, n_a_all_m6, .inl b_a_all_m6)), ((am 4), .inr (8, [.ref a_all_m4, .int size_m4])), (a_all_m4, .inl (cI, n_a_all_m4, .inl b_a_all_m4)), ((am 22), .inr (8, [.ref a_all_m22, .int size_m22])), (a_all_m22, .inl (cI, n_a_all_m22, .inl b_a_all_m22)), ((am 20), .inr (8, [.ref q613, .int r610])), ((am 2), .inl (cI, n_m2, .inl b_m2)), (q613, .inl (cI, r611, .inl r612)), (h0, .inr (9, moF am known_h0 thrown_h0 wrong_h0 lastEnd_h0 r622 r623 r609 least_h0 found_h0)), ((am 5), .inr (8, [.ref a_all_m5, .int size_m5])), (a_all_m5, .inl (cI, n_a_all_m5, .inl b_a_all_m5))]) (cl' := 0 + C615) (sl' := 0 + S616) rfl rfl rfl rfl rfl rfl ?_
                                                                refine j_if_eq (tgt := 560) d_Mo_readStatement_553 (by decide) (fun c626 => ?_) (fun c626 => ?_)
                                                                · replace h := it_t c626 h
                                                                  refine j_iconst (v := 0) d_Mo_readStatement_560 (by decide) ?_
                                                                  replace h := lf_s h
                                                                  obtain ⟨h, e1, e2⟩ := h
                                                                  replace h := Prod.mk.inj h
                                                                  obtain ⟨h9, h⟩ := h
                                                                  subst h9
                                                                  replace h := Prod.mk.inj h
                                                                  obtain ⟨h9, h⟩ := h
                                                                  subst h9
                                                                  replace h := Prod.mk.inj h
                                                                  obtain ⟨h9, h⟩ := h
                                                                  subst h9
                                                                  replace h := Prod.mk.inj h
                                                                  obtain ⟨h9, h⟩ := h
                                                                  subst h9
                                                                  replace h := Prod.mk.inj h
                                                                  obtain ⟨h9, h⟩ := h
                                                                  subst h9
                                                                  replace h := Prod.mk.inj h
                                                                  obtain ⟨h9, h⟩ := h
                                                                  subst h9
                                                                  replace h := Prod.mk.inj h
                                                                  obtain ⟨h9, h⟩ := h
                                                                  subst h9
                                                                  replace h := Prod.mk.inj h
                                                                  obtain ⟨h9, h⟩ := h
                                                                  subst h9
                                                                  replace h := Prod.mk.inj h
                                                                  obtain ⟨h9, h⟩ := h
                                                                  subst h9
                                                                  replace h := Prod.mk.inj h
                                                                  obtain ⟨h9, h⟩ := h
                                                                  subst h9
                                                                  replace h := Prod.mk.inj h
                                                                  obtain ⟨h9, h⟩ := h
                                                                  subst h9
                                                                  replace h := Prod.mk.inj h
                                                                  obtain ⟨h9, h⟩ := h
                                                                  subst h9
                                                                  replace h := Prod.mk.inj h
                                                                  obtain ⟨h9, h⟩ := h
                                                                  subst h9
                                                                  subst h
                                                                  refine j_widen (cl' := mc) (sl' := ms) (by omega) (by omega) ?_
                                                                  exact j_zret (w := [(h0, .inr (9, moF am known_h0 thrown_h0 wrong_h0 lastEnd_h0 r622 r623 r609 least_h0 found_h0)), ((am 5), .inr (8, [.ref a_all_m5, .int size_m5])), (a_all_m5, .inl (cI, n_a_all_m5, .inl b_a_all_m5)), ((am 20), .inr (8, [.ref q613, .int r610])), ((am 2), .inl (cI, n_m2, .inl b_m2)), ((am 21), .inr (8, [.ref a_all_m21, .int size_m21])), ((am 7), .inr (8, [.ref a_all_m7, .int size_m7])), (a_all_m7, .inl (cI, n_a_all_m7, .inl b_a_all_m7)), ((am 6), .inr (8, [.ref a_all_m6, .int size_m6])), (a_all_m6, .inl (cI, n_a_all_m6, .inl b_a_all_m6)), ((am 4), .inr (8, [.ref a_all_m4, .int size_m4])), (a_all_m4, .inl (cI, n_a_all_m4, .inl b_a_all_m4)), ((am 22), .inr (8, [.ref a_all_m22, .int size_m22])), (q613, .inl (cI, r611, .inl r612)), (a_all_m21, .inl (cI, n_a_all_m21, .inl b_a_all_m21)), (a_all_m22, .inl (cI, n_a_all_m22, .inl b_a_all_m22))]) hr (zb_n zb0) d_Mo_readStatement_561 [13, 14, 15, 10, 11, 0, 2, 3, 4, 5, 6, 7, 8, 12, 1, 9] rfl (by decide) ⟨q613, a_all_m21, a_all_m22, rfl, zb0, rfl⟩
                                                                · replace h := it_f c626 h
                                                                  refine j_iconst (v := 1) d_Mo_readStatement_556 (by decide) ?_
                                                                  refine j_goto (tgt := 561) d_Mo_readStatement_557 (by decide) ?_
                                                                  replace h := lf_s h
                                                                  obtain ⟨h, e1, e2⟩ := h
                                                                  replace h := Prod.mk.inj h
                                                                  obtain ⟨h9, h⟩ := h
                                                                  subst h9
                                                                  replace h := Prod.mk.inj h
                                                                  obtain ⟨h9, h⟩ := h
                                                                  subst h9
                                                                  replace h := Prod.mk.inj h
                                                                  obtain ⟨h9, h⟩ := h
                                                                  subst h9
                                                                  replace h := Prod.mk.inj h
                                                                  obtain ⟨h9, h⟩ := h
                                                                  subst h9
                                                                  replace h := Prod.mk.inj h
                                                                  obtain ⟨h9, h⟩ := h
                                                                  subst h9
                                                                  replace h := Prod.mk.inj h
                                                                  obtain ⟨h9, h⟩ := h
                                                                  subst h9
                                                                  replace h := Prod.mk.inj h
                                                                  obtain ⟨h9, h⟩ := h
                                                                  subst h9
                                                                  replace h := Prod.mk.inj h
                                                                  obtain ⟨h9, h⟩ := h
                                                                  subst h9
                                                                  replace h := Prod.mk.inj h
                                                                  obtain ⟨h9, h⟩ := h
                                                                  subst h9
                                                                  replace h := Prod.mk.inj h
                                                                  obtain ⟨h9, h⟩ := h
                                                                  subst h9
                                                                  replace h := Prod.mk.inj h
                                                                  obtain ⟨h9, h⟩ := h
                                                                  subst h9
                                                                  replace h := Prod.mk.inj h
                                                                  obtain ⟨h9, h⟩ := h
                                                                  subst h9
                                                                  replace h := Prod.mk.inj h
                                                                  obtain ⟨h9, h⟩ := h
                                                                  subst h9
                                                                  subst h
                                                                  refine j_widen (cl' := mc) (sl' := ms) (by omega) (by omega) ?_
                                                                  exact j_zret (w := [(h0, .inr (9, moF am known_h0 thrown_h0 wrong_h0 lastEnd_h0 r622 r623 r609 least_h0 found_h0)), ((am 5), .inr (8, [.ref a_all_m5, .int size_m5])), (a_all_m5, .inl (cI, n_a_all_m5, .inl b_a_all_m5)), ((am 20), .inr (8, [.ref q613, .int r610])), ((am 2), .inl (cI, n_m2, .inl b_m2)), ((am 21), .inr (8, [.ref a_all_m21, .int size_m21])), ((am 7), .inr (8, [.ref a_all_m7, .int size_m7])), (a_all_m7, .inl (cI, n_a_all_m7, .inl b_a_all_m7)), ((am 6), .inr (8, [.ref a_all_m6, .int size_m6])), (a_all_m6, .inl (cI, n_a_all_m6, .inl b_a_all_m6)), ((am 4), .inr (8, [.ref a_all_m4, .int size_m4])), (a_all_m4, .inl (cI, n_a_all_m4, .inl b_a_all_m4)), ((am 22), .inr (8, [.ref a_all_m22, .int size_m22])), (q613, .inl (cI, r611, .inl r612)), (a_all_m21, .inl (cI, n_a_all_m21, .inl b_a_all_m21)), (a_all_m22, .inl (cI, n_a_all_m22, .inl b_a_all_m22))]) hr (zb_n zb1) d_Mo_readStatement_561 [13, 14, 15, 10, 11, 0, 2, 3, 4, 5, 6, 7, 8, 12, 1, 9] rfl (by decide) ⟨q613, a_all_m21, a_all_m22, rfl, zb1, rfl⟩
                                                            · replace h := it_f c605 h
                                                              by_cases c627 : (b_a_all_m5 (Int32.toNatClampNeg at_h0)) = 40
                                                              · replace h := it_t c627 h
                                                                refine j_tabIn (tgt := 540) (off := 534) d_Mo_readStatement_6 40 c627 (by decide) (by decide) (by decide) (by decide) ?_
                                                                refine j_aload_n d_Mo_readStatement_540 rfl 1 rfl ?_
                                                                replace h := bw_s h
                                                                obtain ⟨⟨r628, r629, r630, r631, r632, r633, r634⟩, C637, S638, C639, S640, k641, h, e1, e2⟩ := h
                                                                replace hC : 0 + C637 + C639 ≤ mc := by omega
                                                                replace hS : 0 + S638 + S640 ≤ ms := by omega
                                                                clear e1 e2
                                                                refine j_callV (n := 0) (As := []) (rest := []) (wr := [((am 21), .inr (8, [.ref a_all_m21, .int size_m21])), (a_all_m21, .inl (cI, n_a_all_m21, .inl b_a_all_m21)), ((am 7), .inr (8, [.ref a_all_m7, .int size_m7])), (a_all_m7, .inl (cI, n_a_all_m7, .inl b_a_all_m7)), ((am 6), .inr (8, [.ref a_all_m6, .int size_m6])), (a_all_m6, .inl (cI, n_a_all_m6, .inl b_a_all_m6)), ((am 4), .inr (8, [.ref a_all_m4, .int size_m4])), (a_all_m4, .inl (cI, n_a_all_m4, .inl b_a_all_m4)), ((am 22), .inr (8, [.ref a_all_m22, .int size_m22])), (a_all_m22, .inl (cI, n_a_all_m22, .inl b_a_all_m22))]) (c_Mo_readWorking l D cI cB cJ cS h0 am a_all_m20 a_all_m5 known_h0 thrown_h0 wrong_h0 lastEnd_h0 at_h0 bad_h0 levels_h0 least_h0 found_h0 size_m20 size_m5 n_a_all_m5 b_a_all_m5 n_a_all_m20 b_a_all_m20 n_m2 b_m2  r628 r629 r630 r631 r632 r633 r634 C637 S638 k641) k_Mo_362 (by decide) ⟨Nat.le_of_ble_eq_true rfl, Nat.le_of_ble_eq_true rfl⟩ rfl 0 rfl [13, 0, 14, 15, 1, 2] [3, 4, 5, 6, 7, 8, 9, 10, 11, 12] rfl (by decide +kernel) rfl (by decide +kernel) (by decide +kernel) rfl rfl (Nat.le_of_ble_eq_true rfl) d_Mo_readStatement_541 ⟨show 0 + C637 ≤ mc by omega, show 0 + S638 ≤ ms by omega⟩ (fun v w hq => ?_)
                                                                obtain ⟨q635, rfl, z636, rfl⟩ := hq
                                                                refine j_norm (pc' := 544) (st' := [.int r628]) (ws' := [((am 21), .inr (8, [.ref a_all_m21, .int size_m21])), (a_all_m21, .inl (cI, n_a_all_m21, .inl b_a_all_m21)), ((am 7), .inr (8, [.ref a_all_m7, .int size_m7])), (a_all_m7, .inl (cI, n_a_all_m7, .inl b_a_all_m7)), ((am 6), .inr (8, [.ref a_all_m6, .int size_m6])), (a_all_m6, .inl (cI, n_a_all_m6, .inl b_a_all_m6)), ((am 4), .inr (8, [.ref a_all_m4, .int size_m4])), (a_all_m4, .inl (cI, n_a_all_m4, .inl b_a_all_m4)), ((am 22), .inr (8, [.ref a_all_m22, .int size_m22])), (a_all_m22, .inl (cI, n_a_all_m22, .inl b_a_all_m22)), (h0, .inr (9, moF am known_h0 thrown_h0 wrong_h0 lastEnd_h0 r629 r630 r631 least_h0 found_h0)), ((am 20), .inr (8, [.ref q635, .int r632])), ((am 5), .inr (8, [.ref a_all_m5, .int size_m5])), (a_all_m5, .inl (cI, n_a_all_m5, .inl b_a_all_m5)), ((am 2), .inl (cI, n_m2, .inl b_m2)), (q635, .inl (cI, r633, .inl r634))]) (cl' := 0 + C637) (sl' := 0 + S638) rfl rfl rfl rfl rfl rfl ?_
                                                                refine j_if_eq (tgt := 560) d_Mo_readStatement_544 (by decide) (fun c642 => ?_) (fun c642 => ?_)
                                                                · replace h := it_t c642 h
                                                                  refine j_iconst (v := 0) d_Mo_readStatement_560 (by decide) ?_
                                                                  replace h := lf_s h
                                                                  obtain ⟨h, e1, e2⟩ := h
                                                                  replace h := Prod.mk.inj h
                                                                  obtain ⟨h9, h⟩ := h
                                                                  subst h9
                                                                  replace h := Prod.mk.inj h
                                                                  obtain ⟨h9, h⟩ := h
                                                                  subst h9
                                                                  replace h := Prod.mk.inj h
                                                                  obtain ⟨h9, h⟩ := h
                                                                  subst h9
                                                                  replace h := Prod.mk.inj h
                                                                  obtain ⟨h9, h⟩ := h
                                                                  subst h9
                                                                  replace h := Prod.mk.inj h
                                                                  obtain ⟨h9, h⟩ := h
                                                                  subst h9
                                                                  replace h := Prod.mk.inj h
                                                                  obtain ⟨h9, h⟩ := h
                                                                  subst h9
                                                                  replace h := Prod.mk.inj h
                                                                  obtain ⟨h9, h⟩ := h
                                                                  subst h9
                                                                  replace h := Prod.mk.inj h
                                                                  obtain ⟨h9, h⟩ := h
                                                                  subst h9
                                                                  replace h := Prod.mk.inj h
                                                                  obtain ⟨h9, h⟩ := h
                                                                  subst h9
                                                                  replace h := Prod.mk.inj h
                                                                  obtain ⟨h9, h⟩ := h
                                                                  subst h9
                                                                  replace h := Prod.mk.inj h
                                                                  obtain ⟨h9, h⟩ := h
                                                                  subst h9
                                                                  replace h := Prod.mk.inj h
                                                                  obtain ⟨h9, h⟩ := h
                                                                  subst h9
                                                                  replace h := Prod.mk.inj h
                                                                  obtain ⟨h9, h⟩ := h
                                                                  subst h9
                                                                  subst h
                                                                  refine j_widen (cl' := mc) (sl' := ms) (by omega) (by omega) ?_
                                                                  exact j_zret (w := [(h0, .inr (9, moF am known_h0 thrown_h0 wrong_h0 lastEnd_h0 r629 r630 r631 least_h0 found_h0)), ((am 5), .inr (8, [.ref a_all_m5, .int size_m5])), (a_all_m5, .inl (cI, n_a_all_m5, .inl b_a_all_m5)), ((am 20), .inr (8, [.ref q635, .int r632])), ((am 2), .inl (cI, n_m2, .inl b_m2)), ((am 21), .inr (8, [.ref a_all_m21, .int size_m21])), ((am 7), .inr (8, [.ref a_all_m7, .int size_m7])), (a_all_m7, .inl (cI, n_a_all_m7, .inl b_a_all_m7)), ((am 6), .inr (8, [.ref a_all_m6, .int size_m6])), (a_all_m6, .inl (cI, n_a_all_m6, .inl b_a_all_m6)), ((am 4), .inr (8, [.ref a_all_m4, .int size_m4])), (a_all_m4, .inl (cI, n_a_all_m4, .inl b_a_all_m4)), ((am 22), .inr (8, [.ref a_all_m22, .int size_m22])), (q635, .inl (cI, r633, .inl r634)), (a_all_m21, .inl (cI, n_a_all_m21, .inl b_a_all_m21)), (a_all_m22, .inl (cI, n_a_all_m22, .inl b_a_all_m22))]) hr (zb_n zb0) d_Mo_readStatement_561 [10, 12, 13, 11, 14, 0, 2, 3, 4, 5, 6, 7, 8, 15, 1, 9] rfl (by decide) ⟨q635, a_all_m21, a_all_m22, rfl, zb0, rfl⟩
                                                                · replace h := it_f c642 h
                                                                  refine j_aload_n d_Mo_readStatement_547 rfl 1 rfl ?_
                                                                  refine j_bipush (v := 55) d_Mo_readStatement_548 (by decide) ?_
                                                                  replace h := bd_s h
                                                                  obtain ⟨⟨r643, r644, r645⟩, k647, h⟩ := h
                                                                  refine j_callV (n := 1) (As := [.int 55]) (rest := []) (wr := [((am 21), .inr (8, [.ref a_all_m21, .int size_m21])), (a_all_m21, .inl (cI, n_a_all_m21, .inl b_a_all_m21)), ((am 7), .inr (8, [.ref a_all_m7, .int size_m7])), (a_all_m7, .inl (cI, n_a_all_m7, .inl b_a_all_m7)), ((am 6), .inr (8, [.ref a_all_m6, .int size_m6])), (a_all_m6, .inl (cI, n_a_all_m6, .inl b_a_all_m6)), ((am 4), .inr (8, [.ref a_all_m4, .int size_m4])), (a_all_m4, .inl (cI, n_a_all_m4, .inl b_a_all_m4)), ((am 22), .inr (8, [.ref a_all_m22, .int size_m22])), (a_all_m22, .inl (cI, n_a_all_m22, .inl b_a_all_m22)), ((am 20), .inr (8, [.ref q635, .int r632])), ((am 2), .inl (cI, n_m2, .inl b_m2)), (q635, .inl (cI, r633, .inl r634))]) (c_Mo_take l D cI cB cJ cS h0 am a_all_m5 55 known_h0 thrown_h0 wrong_h0 lastEnd_h0 r629 r630 r631 least_h0 found_h0 size_m5 n_a_all_m5 b_a_all_m5  r643 r644 r645 k647) k_Mo_285 (by decide) ⟨Nat.le_of_ble_eq_true rfl, Nat.le_of_ble_eq_true rfl⟩ rfl 0 rfl [10, 12, 13] [0, 1, 2, 3, 4, 5, 6, 7, 8, 9, 11, 14, 15] rfl (by decide +kernel) rfl (by decide +kernel) (by decide +kernel) rfl rfl (Nat.le_of_ble_eq_true rfl) d_Mo_readStatement_550 ⟨show 0 + C637 + 0 ≤ mc by omega, show 0 + S638 + 0 ≤ ms by omega⟩ (fun v w hq => ?_)
                                                                  obtain ⟨rfl, z646, rfl⟩ := hq
                                                                  refine j_norm (pc' := 553) (st' := [.int r643]) (ws' := [((am 21), .inr (8, [.ref a_all_m21, .int size_m21])), (a_all_m21, .inl (cI, n_a_all_m21, .inl b_a_all_m21)), ((am 7), .inr (8, [.ref a_all_m7, .int size_m7])), (a_all_m7, .inl (cI, n_a_all_m7, .inl b_a_all_m7)), ((am 6), .inr (8, [.ref a_all_m6, .int size_m6])), (a_all_m6, .inl (cI, n_a_all_m6, .inl b_a_all_m6)), ((am 4), .inr (8, [.ref a_all_m4, .int size_m4])), (a_all_m4, .inl (cI, n_a_all_m4, .inl b_a_all_m4)), ((am 22), .inr (8, [.ref a_all_m22, .int size_m22])), (a_all_m22, .inl (cI, n_a_all_m22, .inl b_a_all_m22)), ((am 20), .inr (8, [.ref q635, .int r632])), ((am 2), .inl (cI, n_m2, .inl b_m2)), (q635, .inl (cI, r633, .inl r634)), (h0, .inr (9, moF am known_h0 thrown_h0 wrong_h0 lastEnd_h0 r644 r645 r631 least_h0 found_h0)), ((am 5), .inr (8, [.ref a_all_m5, .int size_m5])), (a_all_m5, .inl (cI, n_a_all_m5, .inl b_a_all_m5))]) (cl' := 0 + C637) (sl' := 0 + S638) rfl rfl rfl rfl rfl rfl ?_
                                                                  refine j_if_eq (tgt := 560) d_Mo_readStatement_553 (by decide) (fun c648 => ?_) (fun c648 => ?_)
                                                                  · replace h := it_t c648 h
                                                                    refine j_iconst (v := 0) d_Mo_readStatement_560 (by decide) ?_
                                                                    replace h := lf_s h
                                                                    obtain ⟨h, e1, e2⟩ := h
                                                                    replace h := Prod.mk.inj h
                                                                    obtain ⟨h9, h⟩ := h
                                                                    subst h9
                                                                    replace h := Prod.mk.inj h
                                                                    obtain ⟨h9, h⟩ := h
                                                                    subst h9
                                                                    replace h := Prod.mk.inj h
                                                                    obtain ⟨h9, h⟩ := h
                                                                    subst h9
                                                                    replace h := Prod.mk.inj h
                                                                    obtain ⟨h9, h⟩ := h
                                                                    subst h9
                                                                    replace h := Prod.mk.inj h
                                                                    obtain ⟨h9, h⟩ := h
                                                                    subst h9
                                                                    replace h := Prod.mk.inj h
                                                                    obtain ⟨h9, h⟩ := h
                                                                    subst h9
                                                                    replace h := Prod.mk.inj h
                                                                    obtain ⟨h9, h⟩ := h
                                                                    subst h9
                                                                    replace h := Prod.mk.inj h
                                                                    obtain ⟨h9, h⟩ := h
                                                                    subst h9
                                                                    replace h := Prod.mk.inj h
                                                                    obtain ⟨h9, h⟩ := h
                                                                    subst h9
                                                                    replace h := Prod.mk.inj h
                                                                    obtain ⟨h9, h⟩ := h
                                                                    subst h9
                                                                    replace h := Prod.mk.inj h
                                                                    obtain ⟨h9, h⟩ := h
                                                                    subst h9
                                                                    replace h := Prod.mk.inj h
                                                                    obtain ⟨h9, h⟩ := h
                                                                    subst h9
                                                                    replace h := Prod.mk.inj h
                                                                    obtain ⟨h9, h⟩ := h
                                                                    subst h9
                                                                    subst h
                                                                    refine j_widen (cl' := mc) (sl' := ms) (by omega) (by omega) ?_
                                                                    exact j_zret (w := [(h0, .inr (9, moF am known_h0 thrown_h0 wrong_h0 lastEnd_h0 r644 r645 r631 least_h0 found_h0)), ((am 5), .inr (8, [.ref a_all_m5, .int size_m5])), (a_all_m5, .inl (cI, n_a_all_m5, .inl b_a_all_m5)), ((am 20), .inr (8, [.ref q635, .int r632])), ((am 2), .inl (cI, n_m2, .inl b_m2)), ((am 21), .inr (8, [.ref a_all_m21, .int size_m21])), ((am 7), .inr (8, [.ref a_all_m7, .int size_m7])), (a_all_m7, .inl (cI, n_a_all_m7, .inl b_a_all_m7)), ((am 6), .inr (8, [.ref a_all_m6, .int size_m6])), (a_all_m6, .inl (cI, n_a_all_m6, .inl b_a_all_m6)), ((am 4), .inr (8, [.ref a_all_m4, .int size_m4])), (a_all_m4, .inl (cI, n_a_all_m4, .inl b_a_all_m4)), ((am 22), .inr (8, [.ref a_all_m22, .int size_m22])), (q635, .inl (cI, r633, .inl r634)), (a_all_m21, .inl (cI, n_a_all_m21, .inl b_a_all_m21)), (a_all_m22, .inl (cI, n_a_all_m22, .inl b_a_all_m22))]) hr (zb_n zb0) d_Mo_readStatement_561 [13, 14, 15, 10, 11, 0, 2, 3, 4, 5, 6, 7, 8, 12, 1, 9] rfl (by decide) ⟨q635, a_all_m21, a_all_m22, rfl, zb0, rfl⟩
                                                                  · replace h := it_f c648 h
                                                                    refine j_iconst (v := 1) d_Mo_readStatement_556 (by decide) ?_
                                                                    refine j_goto (tgt := 561) d_Mo_readStatement_557 (by decide) ?_
                                                                    replace h := lf_s h
                                                                    obtain ⟨h, e1, e2⟩ := h
                                                                    replace h := Prod.mk.inj h
                                                                    obtain ⟨h9, h⟩ := h
                                                                    subst h9
                                                                    replace h := Prod.mk.inj h
                                                                    obtain ⟨h9, h⟩ := h
                                                                    subst h9
                                                                    replace h := Prod.mk.inj h
                                                                    obtain ⟨h9, h⟩ := h
                                                                    subst h9
                                                                    replace h := Prod.mk.inj h
                                                                    obtain ⟨h9, h⟩ := h
                                                                    subst h9
                                                                    replace h := Prod.mk.inj h
                                                                    obtain ⟨h9, h⟩ := h
                                                                    subst h9
                                                                    replace h := Prod.mk.inj h
                                                                    obtain ⟨h9, h⟩ := h
                                                                    subst h9
                                                                    replace h := Prod.mk.inj h
                                                                    obtain ⟨h9, h⟩ := h
                                                                    subst h9
                                                                    replace h := Prod.mk.inj h
                                                                    obtain ⟨h9, h⟩ := h
                                                                    subst h9
                                                                    replace h := Prod.mk.inj h
                                                                    obtain ⟨h9, h⟩ := h
                                                                    subst h9
                                                                    replace h := Prod.mk.inj h
                                                                    obtain ⟨h9, h⟩ := h
                                                                    subst h9
                                                                    replace h := Prod.mk.inj h
                                                                    obtain ⟨h9, h⟩ := h
                                                                    subst h9
                                                                    replace h := Prod.mk.inj h
                                                                    obtain ⟨h9, h⟩ := h
                                                                    subst h9
                                                                    replace h := Prod.mk.inj h
                                                                    obtain ⟨h9, h⟩ := h
                                                                    subst h9
                                                                    subst h
                                                                    refine j_widen (cl' := mc) (sl' := ms) (by omega) (by omega) ?_
                                                                    exact j_zret (w := [(h0, .inr (9, moF am known_h0 thrown_h0 wrong_h0 lastEnd_h0 r644 r645 r631 least_h0 found_h0)), ((am 5), .inr (8, [.ref a_all_m5, .int size_m5])), (a_all_m5, .inl (cI, n_a_all_m5, .inl b_a_all_m5)), ((am 20), .inr (8, [.ref q635, .int r632])), ((am 2), .inl (cI, n_m2, .inl b_m2)), ((am 21), .inr (8, [.ref a_all_m21, .int size_m21])), ((am 7), .inr (8, [.ref a_all_m7, .int size_m7])), (a_all_m7, .inl (cI, n_a_all_m7, .inl b_a_all_m7)), ((am 6), .inr (8, [.ref a_all_m6, .int size_m6])), (a_all_m6, .inl (cI, n_a_all_m6, .inl b_a_all_m6)), ((am 4), .inr (8, [.ref a_all_m4, .int size_m4])), (a_all_m4, .inl (cI, n_a_all_m4, .inl b_a_all_m4)), ((am 22), .inr (8, [.ref a_all_m22, .int size_m22])), (q635, .inl (cI, r633, .inl r634)), (a_all_m21, .inl (cI, n_a_all_m21, .inl b_a_all_m21)), (a_all_m22, .inl (cI, n_a_all_m22, .inl b_a_all_m22))]) hr (zb_n zb1) d_Mo_readStatement_561 [13, 14, 15, 10, 11, 0, 2, 3, 4, 5, 6, 7, 8, 12, 1, 9] rfl (by decide) ⟨q635, a_all_m21, a_all_m22, rfl, zb1, rfl⟩
                                                              · replace h := it_f c627 h
                                                                by_cases c649 : (b_a_all_m5 (Int32.toNatClampNeg at_h0)) = 41
                                                                · replace h := it_t c649 h
                                                                  refine j_tabIn (tgt := 540) (off := 534) d_Mo_readStatement_6 41 c649 (by decide) (by decide) (by decide) (by decide) ?_
                                                                  refine j_aload_n d_Mo_readStatement_540 rfl 1 rfl ?_
                                                                  replace h := bw_s h
                                                                  obtain ⟨⟨r650, r651, r652, r653, r654, r655, r656⟩, C659, S660, C661, S662, k663, h, e1, e2⟩ := h
                                                                  replace hC : 0 + C659 + C661 ≤ mc := by omega
                                                                  replace hS : 0 + S660 + S662 ≤ ms := by omega
                                                                  clear e1 e2
                                                                  refine j_callV (n := 0) (As := []) (rest := []) (wr := [((am 21), .inr (8, [.ref a_all_m21, .int size_m21])), (a_all_m21, .inl (cI, n_a_all_m21, .inl b_a_all_m21)), ((am 7), .inr (8, [.ref a_all_m7, .int size_m7])), (a_all_m7, .inl (cI, n_a_all_m7, .inl b_a_all_m7)), ((am 6), .inr (8, [.ref a_all_m6, .int size_m6])), (a_all_m6, .inl (cI, n_a_all_m6, .inl b_a_all_m6)), ((am 4), .inr (8, [.ref a_all_m4, .int size_m4])), (a_all_m4, .inl (cI, n_a_all_m4, .inl b_a_all_m4)), ((am 22), .inr (8, [.ref a_all_m22, .int size_m22])), (a_all_m22, .inl (cI, n_a_all_m22, .inl b_a_all_m22))]) (c_Mo_readWorking l D cI cB cJ cS h0 am a_all_m20 a_all_m5 known_h0 thrown_h0 wrong_h0 lastEnd_h0 at_h0 bad_h0 levels_h0 least_h0 found_h0 size_m20 size_m5 n_a_all_m5 b_a_all_m5 n_a_all_m20 b_a_all_m20 n_m2 b_m2  r650 r651 r652 r653 r654 r655 r656 C659 S660 k663) k_Mo_362 (by decide) ⟨Nat.le_of_ble_eq_true rfl, Nat.le_of_ble_eq_true rfl⟩ rfl 0 rfl [13, 0, 14, 15, 1, 2] [3, 4, 5, 6, 7, 8, 9, 10, 11, 12] rfl (by decide +kernel) rfl (by decide +kernel) (by decide +kernel) rfl rfl (Nat.le_of_ble_eq_true rfl) d_Mo_readStatement_541 ⟨show 0 + C659 ≤ mc by omega, show 0 + S660 ≤ ms by omega⟩ (fun v w hq => ?_)
                                                                  obtain ⟨q657, rfl, z658, rfl⟩ := hq
                                                                  refine j_norm (pc' := 544) (st' := [.int r650]) (ws' := [((am 21), .inr (8, [.ref a_all_m21, .int size_m21])), (a_all_m21, .inl (cI, n_a_all_m21, .inl b_a_all_m21)), ((am 7), .inr (8, [.ref a_all_m7, .int size_m7])), (a_all_m7, .inl (cI, n_a_all_m7, .inl b_a_all_m7)), ((am 6), .inr (8, [.ref a_all_m6, .int size_m6])), (a_all_m6, .inl (cI, n_a_all_m6, .inl b_a_all_m6)), ((am 4), .inr (8, [.ref a_all_m4, .int size_m4])), (a_all_m4, .inl (cI, n_a_all_m4, .inl b_a_all_m4)), ((am 22), .inr (8, [.ref a_all_m22, .int size_m22])), (a_all_m22, .inl (cI, n_a_all_m22, .inl b_a_all_m22)), (h0, .inr (9, moF am known_h0 thrown_h0 wrong_h0 lastEnd_h0 r651 r652 r653 least_h0 found_h0)), ((am 20), .inr (8, [.ref q657, .int r654])), ((am 5), .inr (8, [.ref a_all_m5, .int size_m5])), (a_all_m5, .inl (cI, n_a_all_m5, .inl b_a_all_m5)), ((am 2), .inl (cI, n_m2, .inl b_m2)), (q657, .inl (cI, r655, .inl r656))]) (cl' := 0 + C659) (sl' := 0 + S660) rfl rfl rfl rfl rfl rfl ?_
                                                                  refine j_if_eq (tgt := 560) d_Mo_readStatement_544 (by decide) (fun c664 => ?_) (fun c664 => ?_)
                                                                  · replace h := it_t c664 h
                                                                    refine j_iconst (v := 0) d_Mo_readStatement_560 (by decide) ?_
                                                                    replace h := lf_s h
                                                                    obtain ⟨h, e1, e2⟩ := h
                                                                    replace h := Prod.mk.inj h
                                                                    obtain ⟨h9, h⟩ := h
                                                                    subst h9
                                                                    replace h := Prod.mk.inj h
                                                                    obtain ⟨h9, h⟩ := h
                                                                    subst h9
                                                                    replace h := Prod.mk.inj h
                                                                    obtain ⟨h9, h⟩ := h
                                                                    subst h9
                                                                    replace h := Prod.mk.inj h
                                                                    obtain ⟨h9, h⟩ := h
                                                                    subst h9
                                                                    replace h := Prod.mk.inj h
                                                                    obtain ⟨h9, h⟩ := h
                                                                    subst h9
                                                                    replace h := Prod.mk.inj h
                                                                    obtain ⟨h9, h⟩ := h
                                                                    subst h9
                                                                    replace h := Prod.mk.inj h
                                                                    obtain ⟨h9, h⟩ := h
                                                                    subst h9
                                                                    replace h := Prod.mk.inj h
                                                                    obtain ⟨h9, h⟩ := h
                                                                    subst h9
                                                                    replace h := Prod.mk.inj h
                                                                    obtain ⟨h9, h⟩ := h
                                                                    subst h9
                                                                    replace h := Prod.mk.inj h
                                                                    obtain ⟨h9, h⟩ := h
                                                                    subst h9
                                                                    replace h := Prod.mk.inj h
                                                                    obtain ⟨h9, h⟩ := h
                                                                    subst h9
                                                                    replace h := Prod.mk.inj h
                                                                    obtain ⟨h9, h⟩ := h
                                                                    subst h9
                                                                    replace h := Prod.mk.inj h
                                                                    obtain ⟨h9, h⟩ := h
                                                                    subst h9
                                                                    subst h
                                                                    refine j_widen (cl' := mc) (sl' := ms) (by omega) (by omega) ?_
                                                                    exact j_zret (w := [(h0, .inr (9, moF am known_h0 thrown_h0 wrong_h0 lastEnd_h0 r651 r652 r653 least_h0 found_h0)), ((am 5), .inr (8, [.ref a_all_m5, .int size_m5])), (a_all_m5, .inl (cI, n_a_all_m5, .inl b_a_all_m5)), ((am 20), .inr (8, [.ref q657, .int r654])), ((am 2), .inl (cI, n_m2, .inl b_m2)), ((am 21), .inr (8, [.ref a_all_m21, .int size_m21])), ((am 7), .inr (8, [.ref a_all_m7, .int size_m7])), (a_all_m7, .inl (cI, n_a_all_m7, .inl b_a_all_m7)), ((am 6), .inr (8, [.ref a_all_m6, .int size_m6])), (a_all_m6, .inl (cI, n_a_all_m6, .inl b_a_all_m6)), ((am 4), .inr (8, [.ref a_all_m4, .int size_m4])), (a_all_m4, .inl (cI, n_a_all_m4, .inl b_a_all_m4)), ((am 22), .inr (8, [.ref a_all_m22, .int size_m22])), (q657, .inl (cI, r655, .inl r656)), (a_all_m21, .inl (cI, n_a_all_m21, .inl b_a_all_m21)), (a_all_m22, .inl (cI, n_a_all_m22, .inl b_a_all_m22))]) hr (zb_n zb0) d_Mo_readStatement_561 [10, 12, 13, 11, 14, 0, 2, 3, 4, 5, 6, 7, 8, 15, 1, 9] rfl (by decide) ⟨q657, a_all_m21, a_all_m22, rfl, zb0, rfl⟩
                                                                  · replace h := it_f c664 h
                                                                    refine j_aload_n d_Mo_readStatement_547 rfl 1 rfl ?_
                                                                    refine j_bipush (v := 55) d_Mo_readStatement_548 (by decide) ?_
                                                                    replace h := bd_s h
                                                                    obtain ⟨⟨r665, r666, r667⟩, k669, h⟩ := h
                                                                    refine j_callV (n := 1) (As := [.int 55]) (rest := []) (wr := [((am 21), .inr (8, [.ref a_all_m21, .int size_m21])), (a_all_m21, .inl (cI, n_a_all_m21, .inl b_a_all_m21)), ((am 7), .inr (8, [.ref a_all_m7, .int size_m7])), (a_all_m7, .inl (cI, n_a_all_m7, .inl b_a_all_m7)), ((am 6), .inr (8, [.ref a_all_m6, .int size_m6])), (a_all_m6, .inl (cI, n_a_all_m6, .inl b_a_all_m6)), ((am 4), .inr (8, [.ref a_all_m4, .int size_m4])), (a_all_m4, .inl (cI, n_a_all_m4, .inl b_a_all_m4)), ((am 22), .inr (8, [.ref a_all_m22, .int size_m22])), (a_all_m22, .inl (cI, n_a_all_m22, .inl b_a_all_m22)), ((am 20), .inr (8, [.ref q657, .int r654])), ((am 2), .inl (cI, n_m2, .inl b_m2)), (q657, .inl (cI, r655, .inl r656))]) (c_Mo_take l D cI cB cJ cS h0 am a_all_m5 55 known_h0 thrown_h0 wrong_h0 lastEnd_h0 r651 r652 r653 least_h0 found_h0 size_m5 n_a_all_m5 b_a_all_m5  r665 r666 r667 k669) k_Mo_285 (by decide) ⟨Nat.le_of_ble_eq_true rfl, Nat.le_of_ble_eq_true rfl⟩ rfl 0 rfl [10, 12, 13] [0, 1, 2, 3, 4, 5, 6, 7, 8, 9, 11, 14, 15] rfl (by decide +kernel) rfl (by decide +kernel) (by decide +kernel) rfl rfl (Nat.le_of_ble_eq_true rfl) d_Mo_readStatement_550 ⟨show 0 + C659 + 0 ≤ mc by omega, show 0 + S660 + 0 ≤ ms by omega⟩ (fun v w hq => ?_)
                                                                    obtain ⟨rfl, z668, rfl⟩ := hq
                                                                    refine j_norm (pc' := 553) (st' := [.int r665]) (ws' := [((am 21), .inr (8, [.ref a_all_m21, .int size_m21])), (a_all_m21, .inl (cI, n_a_all_m21, .inl b_a_all_m21)), ((am 7), .inr (8, [.ref a_all_m7, .int size_m7])), (a_all_m7, .inl (cI, n_a_all_m7, .inl b_a_all_m7)), ((am 6), .inr (8, [.ref a_all_m6, .int size_m6])), (a_all_m6, .inl (cI, n_a_all_m6, .inl b_a_all_m6)), ((am 4), .inr (8, [.ref a_all_m4, .int size_m4])), (a_all_m4, .inl (cI, n_a_all_m4, .inl b_a_all_m4)), ((am 22), .inr (8, [.ref a_all_m22, .int size_m22])), (a_all_m22, .inl (cI, n_a_all_m22, .inl b_a_all_m22)), ((am 20), .inr (8, [.ref q657, .int r654])), ((am 2), .inl (cI, n_m2, .inl b_m2)), (q657, .inl (cI, r655, .inl r656)), (h0, .inr (9, moF am known_h0 thrown_h0 wrong_h0 lastEnd_h0 r666 r667 r653 least_h0 found_h0)), ((am 5), .inr (8, [.ref a_all_m5, .int size_m5])), (a_all_m5, .inl (cI, n_a_all_m5, .inl b_a_all_m5))]) (cl' := 0 + C659) (sl' := 0 + S660) rfl rfl rfl rfl rfl rfl ?_
                                                                    refine j_if_eq (tgt := 560) d_Mo_readStatement_553 (by decide) (fun c670 => ?_) (fun c670 => ?_)
                                                                    · replace h := it_t c670 h
                                                                      refine j_iconst (v := 0) d_Mo_readStatement_560 (by decide) ?_
                                                                      replace h := lf_s h
                                                                      obtain ⟨h, e1, e2⟩ := h
                                                                      replace h := Prod.mk.inj h
                                                                      obtain ⟨h9, h⟩ := h
                                                                      subst h9
                                                                      replace h := Prod.mk.inj h
                                                                      obtain ⟨h9, h⟩ := h
                                                                      subst h9
                                                                      replace h := Prod.mk.inj h
                                                                      obtain ⟨h9, h⟩ := h
                                                                      subst h9
                                                                      replace h := Prod.mk.inj h
                                                                      obtain ⟨h9, h⟩ := h
                                                                      subst h9
                                                                      replace h := Prod.mk.inj h
                                                                      obtain ⟨h9, h⟩ := h
                                                                      subst h9
                                                                      replace h := Prod.mk.inj h
                                                                      obtain ⟨h9, h⟩ := h
                                                                      subst h9
                                                                      replace h := Prod.mk.inj h
                                                                      obtain ⟨h9, h⟩ := h
                                                                      subst h9
                                                                      replace h := Prod.mk.inj h
                                                                      obtain ⟨h9, h⟩ := h
                                                                      subst h9
                                                                      replace h := Prod.mk.inj h
                                                                      obtain ⟨h9, h⟩ := h
                                                                      subst h9
                                                                      replace h := Prod.mk.inj h
                                                                      obtain ⟨h9, h⟩ := h
                                                                      subst h9
                                                                      replace h := Prod.mk.inj h
                                                                      obtain ⟨h9, h⟩ := h
                                                                      subst h9
                                                                      replace h := Prod.mk.inj h
                                                                      obtain ⟨h9, h⟩ := h
                                                                      subst h9
                                                                      replace h := Prod.mk.inj h
                                                                      obtain ⟨h9, h⟩ := h
                                                                      subst h9
                                                                      subst h
                                                                      refine j_widen (cl' := mc) (sl' := ms) (by omega) (by omega) ?_
                                                                      exact j_zret (w := [(h0, .inr (9, moF am known_h0 thrown_h0 wrong_h0 lastEnd_h0 r666 r667 r653 least_h0 found_h0)), ((am 5), .inr (8, [.ref a_all_m5, .int size_m5])), (a_all_m5, .inl (cI, n_a_all_m5, .inl b_a_all_m5)), ((am 20), .inr (8, [.ref q657, .int r654])), ((am 2), .inl (cI, n_m2, .inl b_m2)), ((am 21), .inr (8, [.ref a_all_m21, .int size_m21])), ((am 7), .inr (8, [.ref a_all_m7, .int size_m7])), (a_all_m7, .inl (cI, n_a_all_m7, .inl b_a_all_m7)), ((am 6), .inr (8, [.ref a_all_m6, .int size_m6])), (a_all_m6, .inl (cI, n_a_all_m6, .inl b_a_all_m6)), ((am 4), .inr (8, [.ref a_all_m4, .int size_m4])), (a_all_m4, .inl (cI, n_a_all_m4, .inl b_a_all_m4)), ((am 22), .inr (8, [.ref a_all_m22, .int size_m22])), (q657, .inl (cI, r655, .inl r656)), (a_all_m21, .inl (cI, n_a_all_m21, .inl b_a_all_m21)), (a_all_m22, .inl (cI, n_a_all_m22, .inl b_a_all_m22))]) hr (zb_n zb0) d_Mo_readStatement_561 [13, 14, 15, 10, 11, 0, 2, 3, 4, 5, 6, 7, 8, 12, 1, 9] rfl (by decide) ⟨q657, a_all_m21, a_all_m22, rfl, zb0, rfl⟩
                                                                    · replace h := it_f c670 h
                                                                      refine j_iconst (v := 1) d_Mo_readStatement_556 (by decide) ?_
                                                                      refine j_goto (tgt := 561) d_Mo_readStatement_557 (by decide) ?_
                                                                      replace h := lf_s h
                                                                      obtain ⟨h, e1, e2⟩ := h
                                                                      replace h := Prod.mk.inj h
                                                                      obtain ⟨h9, h⟩ := h
                                                                      subst h9
                                                                      replace h := Prod.mk.inj h
                                                                      obtain ⟨h9, h⟩ := h
                                                                      subst h9
                                                                      replace h := Prod.mk.inj h
                                                                      obtain ⟨h9, h⟩ := h
                                                                      subst h9
                                                                      replace h := Prod.mk.inj h
                                                                      obtain ⟨h9, h⟩ := h
                                                                      subst h9
                                                                      replace h := Prod.mk.inj h
                                                                      obtain ⟨h9, h⟩ := h
                                                                      subst h9
                                                                      replace h := Prod.mk.inj h
                                                                      obtain ⟨h9, h⟩ := h
                                                                      subst h9
                                                                      replace h := Prod.mk.inj h
                                                                      obtain ⟨h9, h⟩ := h
                                                                      subst h9
                                                                      replace h := Prod.mk.inj h
                                                                      obtain ⟨h9, h⟩ := h
                                                                      subst h9
                                                                      replace h := Prod.mk.inj h
                                                                      obtain ⟨h9, h⟩ := h
                                                                      subst h9
                                                                      replace h := Prod.mk.inj h
                                                                      obtain ⟨h9, h⟩ := h
                                                                      subst h9
                                                                      replace h := Prod.mk.inj h
                                                                      obtain ⟨h9, h⟩ := h
                                                                      subst h9
                                                                      replace h := Prod.mk.inj h
                                                                      obtain ⟨h9, h⟩ := h
                                                                      subst h9
                                                                      replace h := Prod.mk.inj h
                                                                      obtain ⟨h9, h⟩ := h
                                                                      subst h9
                                                                      subst h
                                                                      refine j_widen (cl' := mc) (sl' := ms) (by omega) (by omega) ?_
                                                                      exact j_zret (w := [(h0, .inr (9, moF am known_h0 thrown_h0 wrong_h0 lastEnd_h0 r666 r667 r653 least_h0 found_h0)), ((am 5), .inr (8, [.ref a_all_m5, .int size_m5])), (a_all_m5, .inl (cI, n_a_all_m5, .inl b_a_all_m5)), ((am 20), .inr (8, [.ref q657, .int r654])), ((am 2), .inl (cI, n_m2, .inl b_m2)), ((am 21), .inr (8, [.ref a_all_m21, .int size_m21])), ((am 7), .inr (8, [.ref a_all_m7, .int size_m7])), (a_all_m7, .inl (cI, n_a_all_m7, .inl b_a_all_m7)), ((am 6), .inr (8, [.ref a_all_m6, .int size_m6])), (a_all_m6, .inl (cI, n_a_all_m6, .inl b_a_all_m6)), ((am 4), .inr (8, [.ref a_all_m4, .int size_m4])), (a_all_m4, .inl (cI, n_a_all_m4, .inl b_a_all_m4)), ((am 22), .inr (8, [.ref a_all_m22, .int size_m22])), (q657, .inl (cI, r655, .inl r656)), (a_all_m21, .inl (cI, n_a_all_m21, .inl b_a_all_m21)), (a_all_m22, .inl (cI, n_a_all_m22, .inl b_a_all_m22))]) hr (zb_n zb1) d_Mo_readStatement_561 [13, 14, 15, 10, 11, 0, 2, 3, 4, 5, 6, 7, 8, 12, 1, 9] rfl (by decide) ⟨q657, a_all_m21, a_all_m22, rfl, zb1, rfl⟩
                                                                · replace h := it_f c649 h
                                                                  by_cases c671 : (b_a_all_m5 (Int32.toNatClampNeg at_h0)) = 42
                                                                  · replace h := it_t c671 h
                                                                    refine j_tabIn (tgt := 540) (off := 534) d_Mo_readStatement_6 42 c671 (by decide) (by decide) (by decide) (by decide) ?_
                                                                    refine j_aload_n d_Mo_readStatement_540 rfl 1 rfl ?_
                                                                    replace h := bw_s h
                                                                    obtain ⟨⟨r672, r673, r674, r675, r676, r677, r678⟩, C681, S682, C683, S684, k685, h, e1, e2⟩ := h
                                                                    replace hC : 0 + C681 + C683 ≤ mc := by omega
                                                                    replace hS : 0 + S682 + S684 ≤ ms := by omega
                                                                    clear e1 e2
                                                                    refine j_callV (n := 0) (As := []) (rest := []) (wr := [((am 21), .inr (8, [.ref a_all_m21, .int size_m21])), (a_all_m21, .inl (cI, n_a_all_m21, .inl b_a_all_m21)), ((am 7), .inr (8, [.ref a_all_m7, .int size_m7])), (a_all_m7, .inl (cI, n_a_all_m7, .inl b_a_all_m7)), ((am 6), .inr (8, [.ref a_all_m6, .int size_m6])), (a_all_m6, .inl (cI, n_a_all_m6, .inl b_a_all_m6)), ((am 4), .inr (8, [.ref a_all_m4, .int size_m4])), (a_all_m4, .inl (cI, n_a_all_m4, .inl b_a_all_m4)), ((am 22), .inr (8, [.ref a_all_m22, .int size_m22])), (a_all_m22, .inl (cI, n_a_all_m22, .inl b_a_all_m22))]) (c_Mo_readWorking l D cI cB cJ cS h0 am a_all_m20 a_all_m5 known_h0 thrown_h0 wrong_h0 lastEnd_h0 at_h0 bad_h0 levels_h0 least_h0 found_h0 size_m20 size_m5 n_a_all_m5 b_a_all_m5 n_a_all_m20 b_a_all_m20 n_m2 b_m2  r672 r673 r674 r675 r676 r677 r678 C681 S682 k685) k_Mo_362 (by decide) ⟨Nat.le_of_ble_eq_true rfl, Nat.le_of_ble_eq_true rfl⟩ rfl 0 rfl [13, 0, 14, 15, 1, 2] [3, 4, 5, 6, 7, 8, 9, 10, 11, 12] rfl (by decide +kernel) rfl (by decide +kernel) (by decide +kernel) rfl rfl (Nat.le_of_ble_eq_true rfl) d_Mo_readStatement_541 ⟨show 0 + C681 ≤ mc by omega, show 0 + S682 ≤ ms by omega⟩ (fun v w hq => ?_)
                                                                    obtain ⟨q679, rfl, z680, rfl⟩ := hq
                                                                    refine j_norm (pc' := 544) (st' := [.int r672]) (ws' := [((am 21), .inr (8, [.ref a_all_m21, .int size_m21])), (a_all_m21, .inl (cI, n_a_all_m21, .inl b_a_all_m21)), ((am 7), .inr (8, [.ref a_all_m7, .int size_m7])), (a_all_m7, .inl (cI, n_a_all_m7, .inl b_a_all_m7)), ((am 6), .inr (8, [.ref a_all_m6, .int size_m6])), (a_all_m6, .inl (cI, n_a_all_m6, .inl b_a_all_m6)), ((am 4), .inr (8, [.ref a_all_m4, .int size_m4])), (a_all_m4, .inl (cI, n_a_all_m4, .inl b_a_all_m4)), ((am 22), .inr (8, [.ref a_all_m22, .int size_m22])), (a_all_m22, .inl (cI, n_a_all_m22, .inl b_a_all_m22)), (h0, .inr (9, moF am known_h0 thrown_h0 wrong_h0 lastEnd_h0 r673 r674 r675 least_h0 found_h0)), ((am 20), .inr (8, [.ref q679, .int r676])), ((am 5), .inr (8, [.ref a_all_m5, .int size_m5])), (a_all_m5, .inl (cI, n_a_all_m5, .inl b_a_all_m5)), ((am 2), .inl (cI, n_m2, .inl b_m2)), (q679, .inl (cI, r677, .inl r678))]) (cl' := 0 + C681) (sl' := 0 + S682) rfl rfl rfl rfl rfl rfl ?_
                                                                    refine j_if_eq (tgt := 560) d_Mo_readStatement_544 (by decide) (fun c686 => ?_) (fun c686 => ?_)
                                                                    · replace h := it_t c686 h
                                                                      refine j_iconst (v := 0) d_Mo_readStatement_560 (by decide) ?_
                                                                      replace h := lf_s h
                                                                      obtain ⟨h, e1, e2⟩ := h
                                                                      replace h := Prod.mk.inj h
                                                                      obtain ⟨h9, h⟩ := h
                                                                      subst h9
                                                                      replace h := Prod.mk.inj h
                                                                      obtain ⟨h9, h⟩ := h
                                                                      subst h9
                                                                      replace h := Prod.mk.inj h
                                                                      obtain ⟨h9, h⟩ := h
                                                                      subst h9
                                                                      replace h := Prod.mk.inj h
                                                                      obtain ⟨h9, h⟩ := h
                                                                      subst h9
                                                                      replace h := Prod.mk.inj h
                                                                      obtain ⟨h9, h⟩ := h
                                                                      subst h9
                                                                      replace h := Prod.mk.inj h
                                                                      obtain ⟨h9, h⟩ := h
                                                                      subst h9
                                                                      replace h := Prod.mk.inj h
                                                                      obtain ⟨h9, h⟩ := h
                                                                      subst h9
                                                                      replace h := Prod.mk.inj h
                                                                      obtain ⟨h9, h⟩ := h
                                                                      subst h9
                                                                      replace h := Prod.mk.inj h
                                                                      obtain ⟨h9, h⟩ := h
                                                                      subst h9
                                                                      replace h := Prod.mk.inj h
                                                                      obtain ⟨h9, h⟩ := h
                                                                      subst h9
                                                                      replace h := Prod.mk.inj h
                                                                      obtain ⟨h9, h⟩ := h
                                                                      subst h9
                                                                      replace h := Prod.mk.inj h
                                                                      obtain ⟨h9, h⟩ := h
                                                                      subst h9
                                                                      replace h := Prod.mk.inj h
                                                                      obtain ⟨h9, h⟩ := h
                                                                      subst h9
                                                                      subst h
                                                                      refine j_widen (cl' := mc) (sl' := ms) (by omega) (by omega) ?_
                                                                      exact j_zret (w := [(h0, .inr (9, moF am known_h0 thrown_h0 wrong_h0 lastEnd_h0 r673 r674 r675 least_h0 found_h0)), ((am 5), .inr (8, [.ref a_all_m5, .int size_m5])), (a_all_m5, .inl (cI, n_a_all_m5, .inl b_a_all_m5)), ((am 20), .inr (8, [.ref q679, .int r676])), ((am 2), .inl (cI, n_m2, .inl b_m2)), ((am 21), .inr (8, [.ref a_all_m21, .int size_m21])), ((am 7), .inr (8, [.ref a_all_m7, .int size_m7])), (a_all_m7, .inl (cI, n_a_all_m7, .inl b_a_all_m7)), ((am 6), .inr (8, [.ref a_all_m6, .int size_m6])), (a_all_m6, .inl (cI, n_a_all_m6, .inl b_a_all_m6)), ((am 4), .inr (8, [.ref a_all_m4, .int size_m4])), (a_all_m4, .inl (cI, n_a_all_m4, .inl b_a_all_m4)), ((am 22), .inr (8, [.ref a_all_m22, .int size_m22])), (q679, .inl (cI, r677, .inl r678)), (a_all_m21, .inl (cI, n_a_all_m21, .inl b_a_all_m21)), (a_all_m22, .inl (cI, n_a_all_m22, .inl b_a_all_m22))]) hr (zb_n zb0) d_Mo_readStatement_561 [10, 12, 13, 11, 14, 0, 2, 3, 4, 5, 6, 7, 8, 15, 1, 9] rfl (by decide) ⟨q679, a_all_m21, a_all_m22, rfl, zb0, rfl⟩
                                                                    · replace h := it_f c686 h
                                                                      refine j_aload_n d_Mo_readStatement_547 rfl 1 rfl ?_
                                                                      refine j_bipush (v := 55) d_Mo_readStatement_548 (by decide) ?_
                                                                      replace h := bd_s h
                                                                      obtain ⟨⟨r687, r688, r689⟩, k691, h⟩ := h
                                                                      refine j_callV (n := 1) (As := [.int 55]) (rest := []) (wr := [((am 21), .inr (8, [.ref a_all_m21, .int size_m21])), (a_all_m21, .inl (cI, n_a_all_m21, .inl b_a_all_m21)), ((am 7), .inr (8, [.ref a_all_m7, .int size_m7])), (a_all_m7, .inl (cI, n_a_all_m7, .inl b_a_all_m7)), ((am 6), .inr (8, [.ref a_all_m6, .int size_m6])), (a_all_m6, .inl (cI, n_a_all_m6, .inl b_a_all_m6)), ((am 4), .inr (8, [.ref a_all_m4, .int size_m4])), (a_all_m4, .inl (cI, n_a_all_m4, .inl b_a_all_m4)), ((am 22), .inr (8, [.ref a_all_m22, .int size_m22])), (a_all_m22, .inl (cI, n_a_all_m22, .inl b_a_all_m22)), ((am 20), .inr (8, [.ref q679, .int r676])), ((am 2), .inl (cI, n_m2, .inl b_m2)), (q679, .inl (cI, r677, .inl r678))]) (c_Mo_take l D cI cB cJ cS h0 am a_all_m5 55 known_h0 thrown_h0 wrong_h0 lastEnd_h0 r673 r674 r675 least_h0 found_h0 size_m5 n_a_all_m5 b_a_all_m5  r687 r688 r689 k691) k_Mo_285 (by decide) ⟨Nat.le_of_ble_eq_true rfl, Nat.le_of_ble_eq_true rfl⟩ rfl 0 rfl [10, 12, 13] [0, 1, 2, 3, 4, 5, 6, 7, 8, 9, 11, 14, 15] rfl (by decide +kernel) rfl (by decide +kernel) (by decide +kernel) rfl rfl (Nat.le_of_ble_eq_true rfl) d_Mo_readStatement_550 ⟨show 0 + C681 + 0 ≤ mc by omega, show 0 + S682 + 0 ≤ ms by omega⟩ (fun v w hq => ?_)
                                                                      obtain ⟨rfl, z690, rfl⟩ := hq
                                                                      refine j_norm (pc' := 553) (st' := [.int r687]) (ws' := [((am 21), .inr (8, [.ref a_all_m21, .int size_m21])), (a_all_m21, .inl (cI, n_a_all_m21, .inl b_a_all_m21)), ((am 7), .inr (8, [.ref a_all_m7, .int size_m7])), (a_all_m7, .inl (cI, n_a_all_m7, .inl b_a_all_m7)), ((am 6), .inr (8, [.ref a_all_m6, .int size_m6])), (a_all_m6, .inl (cI, n_a_all_m6, .inl b_a_all_m6)), ((am 4), .inr (8, [.ref a_all_m4, .int size_m4])), (a_all_m4, .inl (cI, n_a_all_m4, .inl b_a_all_m4)), ((am 22), .inr (8, [.ref a_all_m22, .int size_m22])), (a_all_m22, .inl (cI, n_a_all_m22, .inl b_a_all_m22)), ((am 20), .inr (8, [.ref q679, .int r676])), ((am 2), .inl (cI, n_m2, .inl b_m2)), (q679, .inl (cI, r677, .inl r678)), (h0, .inr (9, moF am known_h0 thrown_h0 wrong_h0 lastEnd_h0 r688 r689 r675 least_h0 found_h0)), ((am 5), .inr (8, [.ref a_all_m5, .int size_m5])), (a_all_m5, .inl (cI, n_a_all_m5, .inl b_a_all_m5))]) (cl' := 0 + C681) (sl' := 0 + S682) rfl rfl rfl rfl rfl rfl ?_
                                                                      refine j_if_eq (tgt := 560) d_Mo_readStatement_553 (by decide) (fun c692 => ?_) (fun c692 => ?_)
                                                                      · replace h := it_t c692 h
                                                                        refine j_iconst (v := 0) d_Mo_readStatement_560 (by decide) ?_
                                                                        replace h := lf_s h
                                                                        obtain ⟨h, e1, e2⟩ := h
                                                                        replace h := Prod.mk.inj h
                                                                        obtain ⟨h9, h⟩ := h
                                                                        subst h9
                                                                        replace h := Prod.mk.inj h
                                                                        obtain ⟨h9, h⟩ := h
                                                                        subst h9
                                                                        replace h := Prod.mk.inj h
                                                                        obtain ⟨h9, h⟩ := h
                                                                        subst h9
                                                                        replace h := Prod.mk.inj h
                                                                        obtain ⟨h9, h⟩ := h
                                                                        subst h9
                                                                        replace h := Prod.mk.inj h
                                                                        obtain ⟨h9, h⟩ := h
                                                                        subst h9
                                                                        replace h := Prod.mk.inj h
                                                                        obtain ⟨h9, h⟩ := h
                                                                        subst h9
                                                                        replace h := Prod.mk.inj h
                                                                        obtain ⟨h9, h⟩ := h
                                                                        subst h9
                                                                        replace h := Prod.mk.inj h
                                                                        obtain ⟨h9, h⟩ := h
                                                                        subst h9
                                                                        replace h := Prod.mk.inj h
                                                                        obtain ⟨h9, h⟩ := h
                                                                        subst h9
                                                                        replace h := Prod.mk.inj h
                                                                        obtain ⟨h9, h⟩ := h
                                                                        subst h9
                                                                        replace h := Prod.mk.inj h
                                                                        obtain ⟨h9, h⟩ := h
                                                                        subst h9
                                                                        replace h := Prod.mk.inj h
                                                                        obtain ⟨h9, h⟩ := h
                                                                        subst h9
                                                                        replace h := Prod.mk.inj h
                                                                        obtain ⟨h9, h⟩ := h
                                                                        subst h9
                                                                        subst h
                                                                        refine j_widen (cl' := mc) (sl' := ms) (by omega) (by omega) ?_
                                                                        exact j_zret (w := [(h0, .inr (9, moF am known_h0 thrown_h0 wrong_h0 lastEnd_h0 r688 r689 r675 least_h0 found_h0)), ((am 5), .inr (8, [.ref a_all_m5, .int size_m5])), (a_all_m5, .inl (cI, n_a_all_m5, .inl b_a_all_m5)), ((am 20), .inr (8, [.ref q679, .int r676])), ((am 2), .inl (cI, n_m2, .inl b_m2)), ((am 21), .inr (8, [.ref a_all_m21, .int size_m21])), ((am 7), .inr (8, [.ref a_all_m7, .int size_m7])), (a_all_m7, .inl (cI, n_a_all_m7, .inl b_a_all_m7)), ((am 6), .inr (8, [.ref a_all_m6, .int size_m6])), (a_all_m6, .inl (cI, n_a_all_m6, .inl b_a_all_m6)), ((am 4), .inr (8, [.ref a_all_m4, .int size_m4])), (a_all_m4, .inl (cI, n_a_all_m4, .inl b_a_all_m4)), ((am 22), .inr (8, [.ref a_all_m22, .int size_m22])), (q679, .inl (cI, r677, .inl r678)), (a_all_m21, .inl (cI, n_a_all_m21, .inl b_a_all_m21)), (a_all_m22, .inl (cI, n_a_all_m22, .inl b_a_all_m22))]) hr (zb_n zb0) d_Mo_readStatement_561 [13, 14, 15, 10, 11, 0, 2, 3, 4, 5, 6, 7, 8, 12, 1, 9] rfl (by decide) ⟨q679, a_all_m21, a_all_m22, rfl, zb0, rfl⟩
                                                                      · replace h := it_f c692 h
                                                                        refine j_iconst (v := 1) d_Mo_readStatement_556 (by decide) ?_
                                                                        refine j_goto (tgt := 561) d_Mo_readStatement_557 (by decide) ?_
                                                                        replace h := lf_s h
                                                                        obtain ⟨h, e1, e2⟩ := h
                                                                        replace h := Prod.mk.inj h
                                                                        obtain ⟨h9, h⟩ := h
                                                                        subst h9
                                                                        replace h := Prod.mk.inj h
                                                                        obtain ⟨h9, h⟩ := h
                                                                        subst h9
                                                                        replace h := Prod.mk.inj h
                                                                        obtain ⟨h9, h⟩ := h
                                                                        subst h9
                                                                        replace h := Prod.mk.inj h
                                                                        obtain ⟨h9, h⟩ := h
                                                                        subst h9
                                                                        replace h := Prod.mk.inj h
                                                                        obtain ⟨h9, h⟩ := h
                                                                        subst h9
                                                                        replace h := Prod.mk.inj h
                                                                        obtain ⟨h9, h⟩ := h
                                                                        subst h9
                                                                        replace h := Prod.mk.inj h
                                                                        obtain ⟨h9, h⟩ := h
                                                                        subst h9
                                                                        replace h := Prod.mk.inj h
                                                                        obtain ⟨h9, h⟩ := h
                                                                        subst h9
                                                                        replace h := Prod.mk.inj h
                                                                        obtain ⟨h9, h⟩ := h
                                                                        subst h9
                                                                        replace h := Prod.mk.inj h
                                                                        obtain ⟨h9, h⟩ := h
                                                                        subst h9
                                                                        replace h := Prod.mk.inj h
                                                                        obtain ⟨h9, h⟩ := h
                                                                        subst h9
                                                                        replace h := Prod.mk.inj h
                                                                        obtain ⟨h9, h⟩ := h
                                                                        subst h9
                                                                        replace h := Prod.mk.inj h
                                                                        obtain ⟨h9, h⟩ := h
                                                                        subst h9
                                                                        subst h
                                                                        refine j_widen (cl' := mc) (sl' := ms) (by omega) (by omega) ?_
                                                                        exact j_zret (w := [(h0, .inr (9, moF am known_h0 thrown_h0 wrong_h0 lastEnd_h0 r688 r689 r675 least_h0 found_h0)), ((am 5), .inr (8, [.ref a_all_m5, .int size_m5])), (a_all_m5, .inl (cI, n_a_all_m5, .inl b_a_all_m5)), ((am 20), .inr (8, [.ref q679, .int r676])), ((am 2), .inl (cI, n_m2, .inl b_m2)), ((am 21), .inr (8, [.ref a_all_m21, .int size_m21])), ((am 7), .inr (8, [.ref a_all_m7, .int size_m7])), (a_all_m7, .inl (cI, n_a_all_m7, .inl b_a_all_m7)), ((am 6), .inr (8, [.ref a_all_m6, .int size_m6])), (a_all_m6, .inl (cI, n_a_all_m6, .inl b_a_all_m6)), ((am 4), .inr (8, [.ref a_all_m4, .int size_m4])), (a_all_m4, .inl (cI, n_a_all_m4, .inl b_a_all_m4)), ((am 22), .inr (8, [.ref a_all_m22, .int size_m22])), (q679, .inl (cI, r677, .inl r678)), (a_all_m21, .inl (cI, n_a_all_m21, .inl b_a_all_m21)), (a_all_m22, .inl (cI, n_a_all_m22, .inl b_a_all_m22))]) hr (zb_n zb1) d_Mo_readStatement_561 [13, 14, 15, 10, 11, 0, 2, 3, 4, 5, 6, 7, 8, 12, 1, 9] rfl (by decide) ⟨q679, a_all_m21, a_all_m22, rfl, zb1, rfl⟩
                                                                  · replace h := it_f c671 h
                                                                    by_cases c693 : (b_a_all_m5 (Int32.toNatClampNeg at_h0)) = 43
                                                                    · replace h := it_t c693 h
                                                                      refine j_tabIn (tgt := 540) (off := 534) d_Mo_readStatement_6 43 c693 (by decide) (by decide) (by decide) (by decide) ?_
                                                                      refine j_aload_n d_Mo_readStatement_540 rfl 1 rfl ?_
                                                                      replace h := bw_s h
                                                                      obtain ⟨⟨r694, r695, r696, r697, r698, r699, r700⟩, C703, S704, C705, S706, k707, h, e1, e2⟩ := h
                                                                      replace hC : 0 + C703 + C705 ≤ mc := by omega
                                                                      replace hS : 0 + S704 + S706 ≤ ms := by omega
                                                                      clear e1 e2
                                                                      refine j_callV (n := 0) (As := []) (rest := []) (wr := [((am 21), .inr (8, [.ref a_all_m21, .int size_m21])), (a_all_m21, .inl (cI, n_a_all_m21, .inl b_a_all_m21)), ((am 7), .inr (8, [.ref a_all_m7, .int size_m7])), (a_all_m7, .inl (cI, n_a_all_m7, .inl b_a_all_m7)), ((am 6), .inr (8, [.ref a_all_m6, .int size_m6])), (a_all_m6, .inl (cI, n_a_all_m6, .inl b_a_all_m6)), ((am 4), .inr (8, [.ref a_all_m4, .int size_m4])), (a_all_m4, .inl (cI, n_a_all_m4, .inl b_a_all_m4)), ((am 22), .inr (8, [.ref a_all_m22, .int size_m22])), (a_all_m22, .inl (cI, n_a_all_m22, .inl b_a_all_m22))]) (c_Mo_readWorking l D cI cB cJ cS h0 am a_all_m20 a_all_m5 known_h0 thrown_h0 wrong_h0 lastEnd_h0 at_h0 bad_h0 levels_h0 least_h0 found_h0 size_m20 size_m5 n_a_all_m5 b_a_all_m5 n_a_all_m20 b_a_all_m20 n_m2 b_m2  r694 r695 r696 r697 r698 r699 r700 C703 S704 k707) k_Mo_362 (by decide) ⟨Nat.le_of_ble_eq_true rfl, Nat.le_of_ble_eq_true rfl⟩ rfl 0 rfl [13, 0, 14, 15, 1, 2] [3, 4, 5, 6, 7, 8, 9, 10, 11, 12] rfl (by decide +kernel) rfl (by decide +kernel) (by decide +kernel) rfl rfl (Nat.le_of_ble_eq_true rfl) d_Mo_readStatement_541 ⟨show 0 + C703 ≤ mc by omega, show 0 + S704 ≤ ms by omega⟩ (fun v w hq => ?_)
                                                                      obtain ⟨q701, rfl, z702, rfl⟩ := hq
                                                                      refine j_norm (pc' := 544) (st' := [.int r694]) (ws' := [((am 21), .inr (8, [.ref a_all_m21, .int size_m21])), (a_all_m21, .inl (cI, n_a_all_m21, .inl b_a_all_m21)), ((am 7), .inr (8, [.ref a_all_m7, .int size_m7])), (a_all_m7, .inl (cI, n_a_all_m7, .inl b_a_all_m7)), ((am 6), .inr (8, [.ref a_all_m6, .int size_m6])), (a_all_m6, .inl (cI, n_a_all_m6, .inl b_a_all_m6)), ((am 4), .inr (8, [.ref a_all_m4, .int size_m4])), (a_all_m4, .inl (cI, n_a_all_m4, .inl b_a_all_m4)), ((am 22), .inr (8, [.ref a_all_m22, .int size_m22])), (a_all_m22, .inl (cI, n_a_all_m22, .inl b_a_all_m22)), (h0, .inr (9, moF am known_h0 thrown_h0 wrong_h0 lastEnd_h0 r695 r696 r697 least_h0 found_h0)), ((am 20), .inr (8, [.ref q701, .int r698])), ((am 5), .inr (8, [.ref a_all_m5, .int size_m5])), (a_all_m5, .inl (cI, n_a_all_m5, .inl b_a_all_m5)), ((am 2), .inl (cI, n_m2, .inl b_m2)), (q701, .inl (cI, r699, .inl r700))]) (cl' := 0 + C703) (sl' := 0 + S704) rfl rfl rfl rfl rfl rfl ?_
                                                                      refine j_if_eq (tgt := 560) d_Mo_readStatement_544 (by decide) (fun c708 => ?_) (fun c708 => ?_)
                                                                      · replace h := it_t c708 h
                                                                        refine j_iconst (v := 0) d_Mo_readStatement_560 (by decide) ?_
                                                                        replace h := lf_s h
                                                                        obtain ⟨h, e1, e2⟩ := h
                                                                        replace h := Prod.mk.inj h
                                                                        obtain ⟨h9, h⟩ := h
                                                                        subst h9
                                                                        replace h := Prod.mk.inj h
                                                                        obtain ⟨h9, h⟩ := h
                                                                        subst h9
                                                                        replace h := Prod.mk.inj h
                                                                        obtain ⟨h9, h⟩ := h
                                                                        subst h9
                                                                        replace h := Prod.mk.inj h
                                                                        obtain ⟨h9, h⟩ := h
                                                                        subst h9
                                                                        replace h := Prod.mk.inj h
                                                                        obtain ⟨h9, h⟩ := h
                                                                        subst h9
                                                                        replace h := Prod.mk.inj h
                                                                        obtain ⟨h9, h⟩ := h
                                                                        subst h9
                                                                        replace h := Prod.mk.inj h
                                                                        obtain ⟨h9, h⟩ := h
                                                                        subst h9
                                                                        replace h := Prod.mk.inj h
                                                                        obtain ⟨h9, h⟩ := h
                                                                        subst h9
                                                                        replace h := Prod.mk.inj h
                                                                        obtain ⟨h9, h⟩ := h
                                                                        subst h9
                                                                        replace h := Prod.mk.inj h
                                                                        obtain ⟨h9, h⟩ := h
                                                                        subst h9
                                                                        replace h := Prod.mk.inj h
                                                                        obtain ⟨h9, h⟩ := h
                                                                        subst h9
                                                                        replace h := Prod.mk.inj h
                                                                        obtain ⟨h9, h⟩ := h
                                                                        subst h9
                                                                        replace h := Prod.mk.inj h
                                                                        obtain ⟨h9, h⟩ := h
                                                                        subst h9
                                                                        subst h
                                                                        refine j_widen (cl' := mc) (sl' := ms) (by omega) (by omega) ?_
                                                                        exact j_zret (w := [(h0, .inr (9, moF am known_h0 thrown_h0 wrong_h0 lastEnd_h0 r695 r696 r697 least_h0 found_h0)), ((am 5), .inr (8, [.ref a_all_m5, .int size_m5])), (a_all_m5, .inl (cI, n_a_all_m5, .inl b_a_all_m5)), ((am 20), .inr (8, [.ref q701, .int r698])), ((am 2), .inl (cI, n_m2, .inl b_m2)), ((am 21), .inr (8, [.ref a_all_m21, .int size_m21])), ((am 7), .inr (8, [.ref a_all_m7, .int size_m7])), (a_all_m7, .inl (cI, n_a_all_m7, .inl b_a_all_m7)), ((am 6), .inr (8, [.ref a_all_m6, .int size_m6])), (a_all_m6, .inl (cI, n_a_all_m6, .inl b_a_all_m6)), ((am 4), .inr (8, [.ref a_all_m4, .int size_m4])), (a_all_m4, .inl (cI, n_a_all_m4, .inl b_a_all_m4)), ((am 22), .inr (8, [.ref a_all_m22, .int size_m22])), (q701, .inl (cI, r699, .inl r700)), (a_all_m21, .inl (cI, n_a_all_m21, .inl b_a_all_m21)), (a_all_m22, .inl (cI, n_a_all_m22, .inl b_a_all_m22))]) hr (zb_n zb0) d_Mo_readStatement_561 [10, 12, 13, 11, 14, 0, 2, 3, 4, 5, 6, 7, 8, 15, 1, 9] rfl (by decide) ⟨q701, a_all_m21, a_all_m22, rfl, zb0, rfl⟩
                                                                      · replace h := it_f c708 h
                                                                        refine j_aload_n d_Mo_readStatement_547 rfl 1 rfl ?_
                                                                        refine j_bipush (v := 55) d_Mo_readStatement_548 (by decide) ?_
                                                                        replace h := bd_s h
                                                                        obtain ⟨⟨r709, r710, r711⟩, k713, h⟩ := h
                                                                        refine j_callV (n := 1) (As := [.int 55]) (rest := []) (wr := [((am 21), .inr (8, [.ref a_all_m21, .int size_m21])), (a_all_m21, .inl (cI, n_a_all_m21, .inl b_a_all_m21)), ((am 7), .inr (8, [.ref a_all_m7, .int size_m7])), (a_all_m7, .inl (cI, n_a_all_m7, .inl b_a_all_m7)), ((am 6), .inr (8, [.ref a_all_m6, .int size_m6])), (a_all_m6, .inl (cI, n_a_all_m6, .inl b_a_all_m6)), ((am 4), .inr (8, [.ref a_all_m4, .int size_m4])), (a_all_m4, .inl (cI, n_a_all_m4, .inl b_a_all_m4)), ((am 22), .inr (8, [.ref a_all_m22, .int size_m22])), (a_all_m22, .inl (cI, n_a_all_m22, .inl b_a_all_m22)), ((am 20), .inr (8, [.ref q701, .int r698])), ((am 2), .inl (cI, n_m2, .inl b_m2)), (q701, .inl (cI, r699, .inl r700))]) (c_Mo_take l D cI cB cJ cS h0 am a_all_m5 55 known_h0 thrown_h0 wrong_h0 lastEnd_h0 r695 r696 r697 least_h0 found_h0 size_m5 n_a_all_m5 b_a_all_m5  r709 r710 r711 k713) k_Mo_285 (by decide) ⟨Nat.le_of_ble_eq_true rfl, Nat.le_of_ble_eq_true rfl⟩ rfl 0 rfl [10, 12, 13] [0, 1, 2, 3, 4, 5, 6, 7, 8, 9, 11, 14, 15] rfl (by decide +kernel) rfl (by decide +kernel) (by decide +kernel) rfl rfl (Nat.le_of_ble_eq_true rfl) d_Mo_readStatement_550 ⟨show 0 + C703 + 0 ≤ mc by omega, show 0 + S704 + 0 ≤ ms by omega⟩ (fun v w hq => ?_)
                                                                        obtain ⟨rfl, z712, rfl⟩ := hq
                                                                        refine j_norm (pc' := 553) (st' := [.int r709]) (ws' := [((am 21), .inr (8, [.ref a_all_m21, .int size_m21])), (a_all_m21, .inl (cI, n_a_all_m21, .inl b_a_all_m21)), ((am 7), .inr (8, [.ref a_all_m7, .int size_m7])), (a_all_m7, .inl (cI, n_a_all_m7, .inl b_a_all_m7)), ((am 6), .inr (8, [.ref a_all_m6, .int size_m6])), (a_all_m6, .inl (cI, n_a_all_m6, .inl b_a_all_m6)), ((am 4), .inr (8, [.ref a_all_m4, .int size_m4])), (a_all_m4, .inl (cI, n_a_all_m4, .inl b_a_all_m4)), ((am 22), .inr (8, [.ref a_all_m22, .int size_m22])), (a_all_m22, .inl (cI, n_a_all_m22, .inl b_a_all_m22)), ((am 20), .inr (8, [.ref q701, .int r698])), ((am 2), .inl (cI, n_m2, .inl b_m2)), (q701, .inl (cI, r699, .inl r700)), (h0, .inr (9, moF am known_h0 thrown_h0 wrong_h0 lastEnd_h0 r710 r711 r697 least_h0 found_h0)), ((am 5), .inr (8, [.ref a_all_m5, .int size_m5])), (a_all_m5, .inl (cI, n_a_all_m5, .inl b_a_all_m5))]) (cl' := 0 + C703) (sl' := 0 + S704) rfl rfl rfl rfl rfl rfl ?_
                                                                        refine j_if_eq (tgt := 560) d_Mo_readStatement_553 (by decide) (fun c714 => ?_) (fun c714 => ?_)
                                                                        · replace h := it_t c714 h
                                                                          refine j_iconst (v := 0) d_Mo_readStatement_560 (by decide) ?_
                                                                          replace h := lf_s h
                                                                          obtain ⟨h, e1, e2⟩ := h
                                                                          replace h := Prod.mk.inj h
                                                                          obtain ⟨h9, h⟩ := h
                                                                          subst h9
                                                                          replace h := Prod.mk.inj h
                                                                          obtain ⟨h9, h⟩ := h
                                                                          subst h9
                                                                          replace h := Prod.mk.inj h
                                                                          obtain ⟨h9, h⟩ := h
                                                                          subst h9
                                                                          replace h := Prod.mk.inj h
                                                                          obtain ⟨h9, h⟩ := h
                                                                          subst h9
                                                                          replace h := Prod.mk.inj h
                                                                          obtain ⟨h9, h⟩ := h
                                                                          subst h9
                                                                          replace h := Prod.mk.inj h
                                                                          obtain ⟨h9, h⟩ := h
                                                                          subst h9
                                                                          replace h := Prod.mk.inj h
                                                                          obtain ⟨h9, h⟩ := h
                                                                          subst h9
                                                                          replace h := Prod.mk.inj h
                                                                          obtain ⟨h9, h⟩ := h
                                                                          subst h9
                                                                          replace h := Prod.mk.inj h
                                                                          obtain ⟨h9, h⟩ := h
                                                                          subst h9
                                                                          replace h := Prod.mk.inj h
                                                                          obtain ⟨h9, h⟩ := h
                                                                          subst h9
                                                                          replace h := Prod.mk.inj h
                                                                          obtain ⟨h9, h⟩ := h
                                                                          subst h9
                                                                          replace h := Prod.mk.inj h
                                                                          obtain ⟨h9, h⟩ := h
                                                                          subst h9
                                                                          replace h := Prod.mk.inj h
                                                                          obtain ⟨h9, h⟩ := h
                                                                          subst h9
                                                                          subst h
                                                                          refine j_widen (cl' := mc) (sl' := ms) (by omega) (by omega) ?_
                                                                          exact j_zret (w := [(h0, .inr (9, moF am known_h0 thrown_h0 wrong_h0 lastEnd_h0 r710 r711 r697 least_h0 found_h0)), ((am 5), .inr (8, [.ref a_all_m5, .int size_m5])), (a_all_m5, .inl (cI, n_a_all_m5, .inl b_a_all_m5)), ((am 20), .inr (8, [.ref q701, .int r698])), ((am 2), .inl (cI, n_m2, .inl b_m2)), ((am 21), .inr (8, [.ref a_all_m21, .int size_m21])), ((am 7), .inr (8, [.ref a_all_m7, .int size_m7])), (a_all_m7, .inl (cI, n_a_all_m7, .inl b_a_all_m7)), ((am 6), .inr (8, [.ref a_all_m6, .int size_m6])), (a_all_m6, .inl (cI, n_a_all_m6, .inl b_a_all_m6)), ((am 4), .inr (8, [.ref a_all_m4, .int size_m4])), (a_all_m4, .inl (cI, n_a_all_m4, .inl b_a_all_m4)), ((am 22), .inr (8, [.ref a_all_m22, .int size_m22])), (q701, .inl (cI, r699, .inl r700)), (a_all_m21, .inl (cI, n_a_all_m21, .inl b_a_all_m21)), (a_all_m22, .inl (cI, n_a_all_m22, .inl b_a_all_m22))]) hr (zb_n zb0) d_Mo_readStatement_561 [13, 14, 15, 10, 11, 0, 2, 3, 4, 5, 6, 7, 8, 12, 1, 9] rfl (by decide) ⟨q701, a_all_m21, a_all_m22, rfl, zb0, rfl⟩
                                                                        · replace h := it_f c714 h
                                                                          refine j_iconst (v := 1) d_Mo_readStatement_556 (by decide) ?_
                                                                          refine j_goto (tgt := 561) d_Mo_readStatement_557 (by decide) ?_
                                                                          replace h := lf_s h
                                                                          obtain ⟨h, e1, e2⟩ := h
                                                                          replace h := Prod.mk.inj h
                                                                          obtain ⟨h9, h⟩ := h
                                                                          subst h9
                                                                          replace h := Prod.mk.inj h
                                                                          obtain ⟨h9, h⟩ := h
                                                                          subst h9
                                                                          replace h := Prod.mk.inj h
                                                                          obtain ⟨h9, h⟩ := h
                                                                          subst h9
                                                                          replace h := Prod.mk.inj h
                                                                          obtain ⟨h9, h⟩ := h
                                                                          subst h9
                                                                          replace h := Prod.mk.inj h
                                                                          obtain ⟨h9, h⟩ := h
                                                                          subst h9
                                                                          replace h := Prod.mk.inj h
                                                                          obtain ⟨h9, h⟩ := h
                                                                          subst h9
                                                                          replace h := Prod.mk.inj h
                                                                          obtain ⟨h9, h⟩ := h
                                                                          subst h9
                                                                          replace h := Prod.mk.inj h
                                                                          obtain ⟨h9, h⟩ := h
                                                                          subst h9
                                                                          replace h := Prod.mk.inj h
                                                                          obtain ⟨h9, h⟩ := h
                                                                          subst h9
                                                                          replace h := Prod.mk.inj h
                                                                          obtain ⟨h9, h⟩ := h
                                                                          subst h9
                                                                          replace h := Prod.mk.inj h
                                                                          obtain ⟨h9, h⟩ := h
                                                                          subst h9
                                                                          replace h := Prod.mk.inj h
                                                                          obtain ⟨h9, h⟩ := h
                                                                          subst h9
                                                                          replace h := Prod.mk.inj h
                                                                          obtain ⟨h9, h⟩ := h
                                                                          subst h9
                                                                          subst h
                                                                          refine j_widen (cl' := mc) (sl' := ms) (by omega) (by omega) ?_
                                                                          exact j_zret (w := [(h0, .inr (9, moF am known_h0 thrown_h0 wrong_h0 lastEnd_h0 r710 r711 r697 least_h0 found_h0)), ((am 5), .inr (8, [.ref a_all_m5, .int size_m5])), (a_all_m5, .inl (cI, n_a_all_m5, .inl b_a_all_m5)), ((am 20), .inr (8, [.ref q701, .int r698])), ((am 2), .inl (cI, n_m2, .inl b_m2)), ((am 21), .inr (8, [.ref a_all_m21, .int size_m21])), ((am 7), .inr (8, [.ref a_all_m7, .int size_m7])), (a_all_m7, .inl (cI, n_a_all_m7, .inl b_a_all_m7)), ((am 6), .inr (8, [.ref a_all_m6, .int size_m6])), (a_all_m6, .inl (cI, n_a_all_m6, .inl b_a_all_m6)), ((am 4), .inr (8, [.ref a_all_m4, .int size_m4])), (a_all_m4, .inl (cI, n_a_all_m4, .inl b_a_all_m4)), ((am 22), .inr (8, [.ref a_all_m22, .int size_m22])), (q701, .inl (cI, r699, .inl r700)), (a_all_m21, .inl (cI, n_a_all_m21, .inl b_a_all_m21)), (a_all_m22, .inl (cI, n_a_all_m22, .inl b_a_all_m22))]) hr (zb_n zb1) d_Mo_readStatement_561 [13, 14, 15, 10, 11, 0, 2, 3, 4, 5, 6, 7, 8, 12, 1, 9] rfl (by decide) ⟨q701, a_all_m21, a_all_m22, rfl, zb1, rfl⟩
                                                                    · replace h := it_f c693 h
                                                                      by_cases c715 : (b_a_all_m5 (Int32.toNatClampNeg at_h0)) = 44
                                                                      · replace h := it_t c715 h
                                                                        refine j_tabIn (tgt := 540) (off := 534) d_Mo_readStatement_6 44 c715 (by decide) (by decide) (by decide) (by decide) ?_
                                                                        refine j_aload_n d_Mo_readStatement_540 rfl 1 rfl ?_
                                                                        replace h := bw_s h
                                                                        obtain ⟨⟨r716, r717, r718, r719, r720, r721, r722⟩, C725, S726, C727, S728, k729, h, e1, e2⟩ := h
                                                                        replace hC : 0 + C725 + C727 ≤ mc := by omega
                                                                        replace hS : 0 + S726 + S728 ≤ ms := by omega
                                                                        clear e1 e2
                                                                        refine j_callV (n := 0) (As := []) (rest := []) (wr := [((am 21), .inr (8, [.ref a_all_m21, .int size_m21])), (a_all_m21, .inl (cI, n_a_all_m21, .inl b_a_all_m21)), ((am 7), .inr (8, [.ref a_all_m7, .int size_m7])), (a_all_m7, .inl (cI, n_a_all_m7, .inl b_a_all_m7)), ((am 6), .inr (8, [.ref a_all_m6, .int size_m6])), (a_all_m6, .inl (cI, n_a_all_m6, .inl b_a_all_m6)), ((am 4), .inr (8, [.ref a_all_m4, .int size_m4])), (a_all_m4, .inl (cI, n_a_all_m4, .inl b_a_all_m4)), ((am 22), .inr (8, [.ref a_all_m22, .int size_m22])), (a_all_m22, .inl (cI, n_a_all_m22, .inl b_a_all_m22))]) (c_Mo_readWorking l D cI cB cJ cS h0 am a_all_m20 a_all_m5 known_h0 thrown_h0 wrong_h0 lastEnd_h0 at_h0 bad_h0 levels_h0 least_h0 found_h0 size_m20 size_m5 n_a_all_m5 b_a_all_m5 n_a_all_m20 b_a_all_m20 n_m2 b_m2  r716 r717 r718 r719 r720 r721 r722 C725 S726 k729) k_Mo_362 (by decide) ⟨Nat.le_of_ble_eq_true rfl, Nat.le_of_ble_eq_true rfl⟩ rfl 0 rfl [13, 0, 14, 15, 1, 2] [3, 4, 5, 6, 7, 8, 9, 10, 11, 12] rfl (by decide +kernel) rfl (by decide +kernel) (by decide +kernel) rfl rfl (Nat.le_of_ble_eq_true rfl) d_Mo_readStatement_541 ⟨show 0 + C725 ≤ mc by omega, show 0 + S726 ≤ ms by omega⟩ (fun v w hq => ?_)
                                                                        obtain ⟨q723, rfl, z724, rfl⟩ := hq
                                                                        refine j_norm (pc' := 544) (st' := [.int r716]) (ws' := [((am 21), .inr (8, [.ref a_all_m21, .int size_m21])), (a_all_m21, .inl (cI, n_a_all_m21, .inl b_a_all_m21)), ((am 7), .inr (8, [.ref a_all_m7, .int size_m7])), (a_all_m7, .inl (cI, n_a_all_m7, .inl b_a_all_m7)), ((am 6), .inr (8, [.ref a_all_m6, .int size_m6])), (a_all_m6, .inl (cI, n_a_all_m6, .inl b_a_all_m6)), ((am 4), .inr (8, [.ref a_all_m4, .int size_m4])), (a_all_m4, .inl (cI, n_a_all_m4, .inl b_a_all_m4)), ((am 22), .inr (8, [.ref a_all_m22, .int size_m22])), (a_all_m22, .inl (cI, n_a_all_m22, .inl b_a_all_m22)), (h0, .inr (9, moF am known_h0 thrown_h0 wrong_h0 lastEnd_h0 r717 r718 r719 least_h0 found_h0)), ((am 20), .inr (8, [.ref q723, .int r720])), ((am 5), .inr (8, [.ref a_all_m5, .int size_m5])), (a_all_m5, .inl (cI, n_a_all_m5, .inl b_a_all_m5)), ((am 2), .inl (cI, n_m2, .inl b_m2)), (q723, .inl (cI, r721, .inl r722))]) (cl' := 0 + C725) (sl' := 0 + S726) rfl rfl rfl rfl rfl rfl ?_
                                                                        refine j_if_eq (tgt := 560) d_Mo_readStatement_544 (by decide) (fun c730 => ?_) (fun c730 => ?_)
                                                                        · replace h := it_t c730 h
                                                                          refine j_iconst (v := 0) d_Mo_readStatement_560 (by decide) ?_
                                                                          replace h := lf_s h
                                                                          obtain ⟨h, e1, e2⟩ := h
                                                                          replace h := Prod.mk.inj h
                                                                          obtain ⟨h9, h⟩ := h
                                                                          subst h9
                                                                          replace h := Prod.mk.inj h
                                                                          obtain ⟨h9, h⟩ := h
                                                                          subst h9
                                                                          replace h := Prod.mk.inj h
                                                                          obtain ⟨h9, h⟩ := h
                                                                          subst h9
                                                                          replace h := Prod.mk.inj h
                                                                          obtain ⟨h9, h⟩ := h
                                                                          subst h9
                                                                          replace h := Prod.mk.inj h
                                                                          obtain ⟨h9, h⟩ := h
                                                                          subst h9
                                                                          replace h := Prod.mk.inj h
                                                                          obtain ⟨h9, h⟩ := h
                                                                          subst h9
                                                                          replace h := Prod.mk.inj h
                                                                          obtain ⟨h9, h⟩ := h
                                                                          subst h9
                                                                          replace h := Prod.mk.inj h
                                                                          obtain ⟨h9, h⟩ := h
                                                                          subst h9
                                                                          replace h := Prod.mk.inj h
                                                                          obtain ⟨h9, h⟩ := h
                                                                          subst h9
                                                                          replace h := Prod.mk.inj h
                                                                          obtain ⟨h9, h⟩ := h
                                                                          subst h9
                                                                          replace h := Prod.mk.inj h
                                                                          obtain ⟨h9, h⟩ := h
                                                                          subst h9
                                                                          replace h := Prod.mk.inj h
                                                                          obtain ⟨h9, h⟩ := h
                                                                          subst h9
                                                                          replace h := Prod.mk.inj h
                                                                          obtain ⟨h9, h⟩ := h
                                                                          subst h9
                                                                          subst h
                                                                          refine j_widen (cl' := mc) (sl' := ms) (by omega) (by omega) ?_
                                                                          exact j_zret (w := [(h0, .inr (9, moF am known_h0 thrown_h0 wrong_h0 lastEnd_h0 r717 r718 r719 least_h0 found_h0)), ((am 5), .inr (8, [.ref a_all_m5, .int size_m5])), (a_all_m5, .inl (cI, n_a_all_m5, .inl b_a_all_m5)), ((am 20), .inr (8, [.ref q723, .int r720])), ((am 2), .inl (cI, n_m2, .inl b_m2)), ((am 21), .inr (8, [.ref a_all_m21, .int size_m21])), ((am 7), .inr (8, [.ref a_all_m7, .int size_m7])), (a_all_m7, .inl (cI, n_a_all_m7, .inl b_a_all_m7)), ((am 6), .inr (8, [.ref a_all_m6, .int size_m6])), (a_all_m6, .inl (cI, n_a_all_m6, .inl b_a_all_m6)), ((am 4), .inr (8, [.ref a_all_m4, .int size_m4])), (a_all_m4, .inl (cI, n_a_all_m4, .inl b_a_all_m4)), ((am 22), .inr (8, [.ref a_all_m22, .int size_m22])), (q723, .inl (cI, r721, .inl r722)), (a_all_m21, .inl (cI, n_a_all_m21, .inl b_a_all_m21)), (a_all_m22, .inl (cI, n_a_all_m22, .inl b_a_all_m22))]) hr (zb_n zb0) d_Mo_readStatement_561 [10, 12, 13, 11, 14, 0, 2, 3, 4, 5, 6, 7, 8, 15, 1, 9] rfl (by decide) ⟨q723, a_all_m21, a_all_m22, rfl, zb0, rfl⟩
                                                                        · replace h := it_f c730 h
                                                                          refine j_aload_n d_Mo_readStatement_547 rfl 1 rfl ?_
                                                                          refine j_bipush (v := 55) d_Mo_readStatement_548 (by decide) ?_
                                                                          replace h := bd_s h
                                                                          obtain ⟨⟨r731, r732, r733⟩, k735, h⟩ := h
                                                                          refine j_callV (n := 1) (As := [.int 55]) (rest := []) (wr := [((am 21), .inr (8, [.ref a_all_m21, .int size_m21])), (a_all_m21, .inl (cI, n_a_all_m21, .inl b_a_all_m21)), ((am 7), .inr (8, [.ref a_all_m7, .int size_m7])), (a_all_m7, .inl (cI, n_a_all_m7, .inl b_a_all_m7)), ((am 6), .inr (8, [.ref a_all_m6, .int size_m6])), (a_all_m6, .inl (cI, n_a_all_m6, .inl b_a_all_m6)), ((am 4), .inr (8, [.ref a_all_m4, .int size_m4])), (a_all_m4, .inl (cI, n_a_all_m4, .inl b_a_all_m4)), ((am 22), .inr (8, [.ref a_all_m22, .int size_m22])), (a_all_m22, .inl (cI, n_a_all_m22, .inl b_a_all_m22)), ((am 20), .inr (8, [.ref q723, .int r720])), ((am 2), .inl (cI, n_m2, .inl b_m2)), (q723, .inl (cI, r721, .inl r722))]) (c_Mo_take l D cI cB cJ cS h0 am a_all_m5 55 known_h0 thrown_h0 wrong_h0 lastEnd_h0 r717 r718 r719 least_h0 found_h0 size_m5 n_a_all_m5 b_a_all_m5  r731 r732 r733 k735) k_Mo_285 (by decide) ⟨Nat.le_of_ble_eq_true rfl, Nat.le_of_ble_eq_true rfl⟩ rfl 0 rfl [10, 12, 13] [0, 1, 2, 3, 4, 5, 6, 7, 8, 9, 11, 14, 15] rfl (by decide +kernel) rfl (by decide +kernel) (by decide +kernel) rfl rfl (Nat.le_of_ble_eq_true rfl) d_Mo_readStatement_550 ⟨show 0 + C725 + 0 ≤ mc by omega, show 0 + S726 + 0 ≤ ms by omega⟩ (fun v w hq => ?_)
                                                                          obtain ⟨rfl, z734, rfl⟩ := hq
                                                                          refine j_norm (pc' := 553) (st' := [.int r731]) (ws' := [((am 21), .inr (8, [.ref a_all_m21, .int size_m21])), (a_all_m21, .inl (cI, n_a_all_m21, .inl b_a_all_m21)), ((am 7), .inr (8, [.ref a_all_m7, .int size_m7])), (a_all_m7, .inl (cI, n_a_all_m7, .inl b_a_all_m7)), ((am 6), .inr (8, [.ref a_all_m6, .int size_m6])), (a_all_m6, .inl (cI, n_a_all_m6, .inl b_a_all_m6)), ((am 4), .inr (8, [.ref a_all_m4, .int size_m4])), (a_all_m4, .inl (cI, n_a_all_m4, .inl b_a_all_m4)), ((am 22), .inr (8, [.ref a_all_m22, .int size_m22])), (a_all_m22, .inl (cI, n_a_all_m22, .inl b_a_all_m22)), ((am 20), .inr (8, [.ref q723, .int r720])), ((am 2), .inl (cI, n_m2, .inl b_m2)), (q723, .inl (cI, r721, .inl r722)), (h0, .inr (9, moF am known_h0 thrown_h0 wrong_h0 lastEnd_h0 r732 r733 r719 least_h0 found_h0)), ((am 5), .inr (8, [.ref a_all_m5, .int size_m5])), (a_all_m5, .inl (cI, n_a_all_m5, .inl b_a_all_m5))]) (cl' := 0 + C725) (sl' := 0 + S726) rfl rfl rfl rfl rfl rfl ?_
                                                                          refine j_if_eq (tgt := 560) d_Mo_readStatement_553 (by decide) (fun c736 => ?_) (fun c736 => ?_)
                                                                          · replace h := it_t c736 h
                                                                            refine j_iconst (v := 0) d_Mo_readStatement_560 (by decide) ?_
                                                                            replace h := lf_s h
                                                                            obtain ⟨h, e1, e2⟩ := h
                                                                            replace h := Prod.mk.inj h
                                                                            obtain ⟨h9, h⟩ := h
                                                                            subst h9
                                                                            replace h := Prod.mk.inj h
                                                                            obtain ⟨h9, h⟩ := h
                                                                            subst h9
                                                                            replace h := Prod.mk.inj h
                                                                            obtain ⟨h9, h⟩ := h
                                                                            subst h9
                                                                            replace h := Prod.mk.inj h
                                                                            obtain ⟨h9, h⟩ := h
                                                                            subst h9
                                                                            replace h := Prod.mk.inj h
                                                                            obtain ⟨h9, h⟩ := h
                                                                            subst h9
                                                                            replace h := Prod.mk.inj h
                                                                            obtain ⟨h9, h⟩ := h
                                                                            subst h9
                                                                            replace h := Prod.mk.inj h
                                                                            obtain ⟨h9, h⟩ := h
                                                                            subst h9
                                                                            replace h := Prod.mk.inj h
                                                                            obtain ⟨h9, h⟩ := h
                                                                            subst h9
                                                                            replace h := Prod.mk.inj h
                                                                            obtain ⟨h9, h⟩ := h
                                                                            subst h9
                                                                            replace h := Prod.mk.inj h
                                                                            obtain ⟨h9, h⟩ := h
                                                                            subst h9
                                                                            replace h := Prod.mk.inj h
                                                                            obtain ⟨h9, h⟩ := h
                                                                            subst h9
                                                                            replace h := Prod.mk.inj h
                                                                            obtain ⟨h9, h⟩ := h
                                                                            subst h9
                                                                            replace h := Prod.mk.inj h
                                                                            obtain ⟨h9, h⟩ := h
                                                                            subst h9
                                                                            subst h
                                                                            refine j_widen (cl' := mc) (sl' := ms) (by omega) (by omega) ?_
                                                                            exact j_zret (w := [(h0, .inr (9, moF am known_h0 thrown_h0 wrong_h0 lastEnd_h0 r732 r733 r719 least_h0 found_h0)), ((am 5), .inr (8, [.ref a_all_m5, .int size_m5])), (a_all_m5, .inl (cI, n_a_all_m5, .inl b_a_all_m5)), ((am 20), .inr (8, [.ref q723, .int r720])), ((am 2), .inl (cI, n_m2, .inl b_m2)), ((am 21), .inr (8, [.ref a_all_m21, .int size_m21])), ((am 7), .inr (8, [.ref a_all_m7, .int size_m7])), (a_all_m7, .inl (cI, n_a_all_m7, .inl b_a_all_m7)), ((am 6), .inr (8, [.ref a_all_m6, .int size_m6])), (a_all_m6, .inl (cI, n_a_all_m6, .inl b_a_all_m6)), ((am 4), .inr (8, [.ref a_all_m4, .int size_m4])), (a_all_m4, .inl (cI, n_a_all_m4, .inl b_a_all_m4)), ((am 22), .inr (8, [.ref a_all_m22, .int size_m22])), (q723, .inl (cI, r721, .inl r722)), (a_all_m21, .inl (cI, n_a_all_m21, .inl b_a_all_m21)), (a_all_m22, .inl (cI, n_a_all_m22, .inl b_a_all_m22))]) hr (zb_n zb0) d_Mo_readStatement_561 [13, 14, 15, 10, 11, 0, 2, 3, 4, 5, 6, 7, 8, 12, 1, 9] rfl (by decide) ⟨q723, a_all_m21, a_all_m22, rfl, zb0, rfl⟩
                                                                          · replace h := it_f c736 h
                                                                            refine j_iconst (v := 1) d_Mo_readStatement_556 (by decide) ?_
                                                                            refine j_goto (tgt := 561) d_Mo_readStatement_557 (by decide) ?_
                                                                            replace h := lf_s h
                                                                            obtain ⟨h, e1, e2⟩ := h
                                                                            replace h := Prod.mk.inj h
                                                                            obtain ⟨h9, h⟩ := h
                                                                            subst h9
                                                                            replace h := Prod.mk.inj h
                                                                            obtain ⟨h9, h⟩ := h
                                                                            subst h9
                                                                            replace h := Prod.mk.inj h
                                                                            obtain ⟨h9, h⟩ := h
                                                                            subst h9
                                                                            replace h := Prod.mk.inj h
                                                                            obtain ⟨h9, h⟩ := h
                                                                            subst h9
                                                                            replace h := Prod.mk.inj h
                                                                            obtain ⟨h9, h⟩ := h
                                                                            subst h9
                                                                            replace h := Prod.mk.inj h
                                                                            obtain ⟨h9, h⟩ := h
                                                                            subst h9
                                                                            replace h := Prod.mk.inj h
                                                                            obtain ⟨h9, h⟩ := h
                                                                            subst h9
                                                                            replace h := Prod.mk.inj h
                                                                            obtain ⟨h9, h⟩ := h
                                                                            subst h9
                                                                            replace h := Prod.mk.inj h
                                                                            obtain ⟨h9, h⟩ := h
                                                                            subst h9
                                                                            replace h := Prod.mk.inj h
                                                                            obtain ⟨h9, h⟩ := h
                                                                            subst h9
                                                                            replace h := Prod.mk.inj h
                                                                            obtain ⟨h9, h⟩ := h
                                                                            subst h9
                                                                            replace h := Prod.mk.inj h
                                                                            obtain ⟨h9, h⟩ := h
                                                                            subst h9
                                                                            replace h := Prod.mk.inj h
                                                                            obtain ⟨h9, h⟩ := h
                                                                            subst h9
                                                                            subst h
                                                                            refine j_widen (cl' := mc) (sl' := ms) (by omega) (by omega) ?_
                                                                            exact j_zret (w := [(h0, .inr (9, moF am known_h0 thrown_h0 wrong_h0 lastEnd_h0 r732 r733 r719 least_h0 found_h0)), ((am 5), .inr (8, [.ref a_all_m5, .int size_m5])), (a_all_m5, .inl (cI, n_a_all_m5, .inl b_a_all_m5)), ((am 20), .inr (8, [.ref q723, .int r720])), ((am 2), .inl (cI, n_m2, .inl b_m2)), ((am 21), .inr (8, [.ref a_all_m21, .int size_m21])), ((am 7), .inr (8, [.ref a_all_m7, .int size_m7])), (a_all_m7, .inl (cI, n_a_all_m7, .inl b_a_all_m7)), ((am 6), .inr (8, [.ref a_all_m6, .int size_m6])), (a_all_m6, .inl (cI, n_a_all_m6, .inl b_a_all_m6)), ((am 4), .inr (8, [.ref a_all_m4, .int size_m4])), (a_all_m4, .inl (cI, n_a_all_m4, .inl b_a_all_m4)), ((am 22), .inr (8, [.ref a_all_m22, .int size_m22])), (q723, .inl (cI, r721, .inl r722)), (a_all_m21, .inl (cI, n_a_all_m21, .inl b_a_all_m21)), (a_all_m22, .inl (cI, n_a_all_m22, .inl b_a_all_m22))]) hr (zb_n zb1) d_Mo_readStatement_561 [13, 14, 15, 10, 11, 0, 2, 3, 4, 5, 6, 7, 8, 12, 1, 9] rfl (by decide) ⟨q723, a_all_m21, a_all_m22, rfl, zb1, rfl⟩
                                                                      · replace h := it_f c715 h
                                                                        by_cases c737 : (b_a_all_m5 (Int32.toNatClampNeg at_h0)) = 45
                                                                        · replace h := it_t c737 h
                                                                          refine j_tabIn (tgt := 540) (off := 534) d_Mo_readStatement_6 45 c737 (by decide) (by decide) (by decide) (by decide) ?_
                                                                          refine j_aload_n d_Mo_readStatement_540 rfl 1 rfl ?_
                                                                          replace h := bw_s h
                                                                          obtain ⟨⟨r738, r739, r740, r741, r742, r743, r744⟩, C747, S748, C749, S750, k751, h, e1, e2⟩ := h
                                                                          replace hC : 0 + C747 + C749 ≤ mc := by omega
                                                                          replace hS : 0 + S748 + S750 ≤ ms := by omega
                                                                          clear e1 e2
                                                                          refine j_callV (n := 0) (As := []) (rest := []) (wr := [((am 21), .inr (8, [.ref a_all_m21, .int size_m21])), (a_all_m21, .inl (cI, n_a_all_m21, .inl b_a_all_m21)), ((am 7), .inr (8, [.ref a_all_m7, .int size_m7])), (a_all_m7, .inl (cI, n_a_all_m7, .inl b_a_all_m7)), ((am 6), .inr (8, [.ref a_all_m6, .int size_m6])), (a_all_m6, .inl (cI, n_a_all_m6, .inl b_a_all_m6)), ((am 4), .inr (8, [.ref a_all_m4, .int size_m4])), (a_all_m4, .inl (cI, n_a_all_m4, .inl b_a_all_m4)), ((am 22), .inr (8, [.ref a_all_m22, .int size_m22])), (a_all_m22, .inl (cI, n_a_all_m22, .inl b_a_all_m22))]) (c_Mo_readWorking l D cI cB cJ cS h0 am a_all_m20 a_all_m5 known_h0 thrown_h0 wrong_h0 lastEnd_h0 at_h0 bad_h0 levels_h0 least_h0 found_h0 size_m20 size_m5 n_a_all_m5 b_a_all_m5 n_a_all_m20 b_a_all_m20 n_m2 b_m2  r738 r739 r740 r741 r742 r743 r744 C747 S748 k751) k_Mo_362 (by decide) ⟨Nat.le_of_ble_eq_true rfl, Nat.le_of_ble_eq_true rfl⟩ rfl 0 rfl [13, 0, 14, 15, 1, 2] [3, 4, 5, 6, 7, 8, 9, 10, 11, 12] rfl (by decide +kernel) rfl (by decide +kernel) (by decide +kernel) rfl rfl (Nat.le_of_ble_eq_true rfl) d_Mo_readStatement_541 ⟨show 0 + C747 ≤ mc by omega, show 0 + S748 ≤ ms by omega⟩ (fun v w hq => ?_)
                                                                          obtain ⟨q745, rfl, z746, rfl⟩ := hq
                                                                          refine j_norm (pc' := 544) (st' := [.int r738]) (ws' := [((am 21), .inr (8, [.ref a_all_m21, .int size_m21])), (a_all_m21, .inl (cI, n_a_all_m21, .inl b_a_all_m21)), ((am 7), .inr (8, [.ref a_all_m7, .int size_m7])), (a_all_m7, .inl (cI, n_a_all_m7, .inl b_a_all_m7)), ((am 6), .inr (8, [.ref a_all_m6, .int size_m6])), (a_all_m6, .inl (cI, n_a_all_m6, .inl b_a_all_m6)), ((am 4), .inr (8, [.ref a_all_m4, .int size_m4])), (a_all_m4, .inl (cI, n_a_all_m4, .inl b_a_all_m4)), ((am 22), .inr (8, [.ref a_all_m22, .int size_m22])), (a_all_m22, .inl (cI, n_a_all_m22, .inl b_a_all_m22)), (h0, .inr (9, moF am known_h0 thrown_h0 wrong_h0 lastEnd_h0 r739 r740 r741 least_h0 found_h0)), ((am 20), .inr (8, [.ref q745, .int r742])), ((am 5), .inr (8, [.ref a_all_m5, .int size_m5])), (a_all_m5, .inl (cI, n_a_all_m5, .inl b_a_all_m5)), ((am 2), .inl (cI, n_m2, .inl b_m2)), (q745, .inl (cI, r743, .inl r744))]) (cl' := 0 + C747) (sl' := 0 + S748) rfl rfl rfl rfl rfl rfl ?_
                                                                          refine j_if_eq (tgt := 560) d_Mo_readStatement_544 (by decide) (fun c752 => ?_) (fun c752 => ?_)
                                                                          · replace h := it_t c752 h
                                                                            refine j_iconst (v := 0) d_Mo_readStatement_560 (by decide) ?_
                                                                            replace h := lf_s h
                                                                            obtain ⟨h, e1, e2⟩ := h
                                                                            replace h := Prod.mk.inj h
                                                                            obtain ⟨h9, h⟩ := h
                                                                            subst h9
                                                                            replace h := Prod.mk.inj h
                                                                            obtain ⟨h9, h⟩ := h
                                                                            subst h9
                                                                            replace h := Prod.mk.inj h
                                                                            obtain ⟨h9, h⟩ := h
                                                                            subst h9
                                                                            replace h := Prod.mk.inj h
                                                                            obtain ⟨h9, h⟩ := h
                                                                            subst h9
                                                                            replace h := Prod.mk.inj h
                                                                            obtain ⟨h9, h⟩ := h
                                                                            subst h9
                                                                            replace h := Prod.mk.inj h
                                                                            obtain ⟨h9, h⟩ := h
                                                                            subst h9
                                                                            replace h := Prod.mk.inj h
                                                                            obtain ⟨h9, h⟩ := h
                                                                            subst h9
                                                                            replace h := Prod.mk.inj h
                                                                            obtain ⟨h9, h⟩ := h
                                                                            subst h9
                                                                            replace h := Prod.mk.inj h
                                                                            obtain ⟨h9, h⟩ := h
                                                                            subst h9
                                                                            replace h := Prod.mk.inj h
                                                                            obtain ⟨h9, h⟩ := h
                                                                            subst h9
                                                                            replace h := Prod.mk.inj h
                                                                            obtain ⟨h9, h⟩ := h
                                                                            subst h9
                                                                            replace h := Prod.mk.inj h
                                                                            obtain ⟨h9, h⟩ := h
                                                                            subst h9
                                                                            replace h := Prod.mk.inj h
                                                                            obtain ⟨h9, h⟩ := h
                                                                            subst h9
                                                                            subst h
                                                                            refine j_widen (cl' := mc) (sl' := ms) (by omega) (by omega) ?_
                                                                            exact j_zret (w := [(h0, .inr (9, moF am known_h0 thrown_h0 wrong_h0 lastEnd_h0 r739 r740 r741 least_h0 found_h0)), ((am 5), .inr (8, [.ref a_all_m5, .int size_m5])), (a_all_m5, .inl (cI, n_a_all_m5, .inl b_a_all_m5)), ((am 20), .inr (8, [.ref q745, .int r742])), ((am 2), .inl (cI, n_m2, .inl b_m2)), ((am 21), .inr (8, [.ref a_all_m21, .int size_m21])), ((am 7), .inr (8, [.ref a_all_m7, .int size_m7])), (a_all_m7, .inl (cI, n_a_all_m7, .inl b_a_all_m7)), ((am 6), .inr (8, [.ref a_all_m6, .int size_m6])), (a_all_m6, .inl (cI, n_a_all_m6, .inl b_a_all_m6)), ((am 4), .inr (8, [.ref a_all_m4, .int size_m4])), (a_all_m4, .inl (cI, n_a_all_m4, .inl b_a_all_m4)), ((am 22), .inr (8, [.ref a_all_m22, .int size_m22])), (q745, .inl (cI, r743, .inl r744)), (a_all_m21, .inl (cI, n_a_all_m21, .inl b_a_all_m21)), (a_all_m22, .inl (cI, n_a_all_m22, .inl b_a_all_m22))]) hr (zb_n zb0) d_Mo_readStatement_561 [10, 12, 13, 11, 14, 0, 2, 3, 4, 5, 6, 7, 8, 15, 1, 9] rfl (by decide) ⟨q745, a_all_m21, a_all_m22, rfl, zb0, rfl⟩
                                                                          · replace h := it_f c752 h
                                                                            refine j_aload_n d_Mo_readStatement_547 rfl 1 rfl ?_
                                                                            refine j_bipush (v := 55) d_Mo_readStatement_548 (by decide) ?_
                                                                            replace h := bd_s h
                                                                            obtain ⟨⟨r753, r754, r755⟩, k757, h⟩ := h
                                                                            refine j_callV (n := 1) (As := [.int 55]) (rest := []) (wr := [((am 21), .inr (8, [.ref a_all_m21, .int size_m21])), (a_all_m21, .inl (cI, n_a_all_m21, .inl b_a_all_m21)), ((am 7), .inr (8, [.ref a_all_m7, .int size_m7])), (a_all_m7, .inl (cI, n_a_all_m7, .inl b_a_all_m7)), ((am 6), .inr (8, [.ref a_all_m6, .int size_m6])), (a_all_m6, .inl (cI, n_a_all_m6, .inl b_a_all_m6)), ((am 4), .inr (8, [.ref a_all_m4, .int size_m4])), (a_all_m4, .inl (cI, n_a_all_m4, .inl b_a_all_m4)), ((am 22), .inr (8, [.ref a_all_m22, .int size_m22])), (a_all_m22, .inl (cI, n_a_all_m22, .inl b_a_all_m22)), ((am 20), .inr (8, [.ref q745, .int r742])), ((am 2), .inl (cI, n_m2, .inl b_m2)), (q745, .inl (cI, r743, .inl r744))]) (c_Mo_take l D cI cB cJ cS h0 am a_all_m5 55 known_h0 thrown_h0 wrong_h0 lastEnd_h0 r739 r740 r741 least_h0 found_h0 size_m5 n_a_all_m5 b_a_all_m5  r753 r754 r755 k757) k_Mo_285 (by decide) ⟨Nat.le_of_ble_eq_true rfl, Nat.le_of_ble_eq_true rfl⟩ rfl 0 rfl [10, 12, 13] [0, 1, 2, 3, 4, 5, 6, 7, 8, 9, 11, 14, 15] rfl (by decide +kernel) rfl (by decide +kernel) (by decide +kernel) rfl rfl (Nat.le_of_ble_eq_true rfl) d_Mo_readStatement_550 ⟨show 0 + C747 + 0 ≤ mc by omega, show 0 + S748 + 0 ≤ ms by omega⟩ (fun v w hq => ?_)
                                                                            obtain ⟨rfl, z756, rfl⟩ := hq
                                                                            refine j_norm (pc' := 553) (st' := [.int r753]) (ws' := [((am 21), .inr (8, [.ref a_all_m21, .int size_m21])), (a_all_m21, .inl (cI, n_a_all_m21, .inl b_a_all_m21)), ((am 7), .inr (8, [.ref a_all_m7, .int size_m7])), (a_all_m7, .inl (cI, n_a_all_m7, .inl b_a_all_m7)), ((am 6), .inr (8, [.ref a_all_m6, .int size_m6])), (a_all_m6, .inl (cI, n_a_all_m6, .inl b_a_all_m6)), ((am 4), .inr (8, [.ref a_all_m4, .int size_m4])), (a_all_m4, .inl (cI, n_a_all_m4, .inl b_a_all_m4)), ((am 22), .inr (8, [.ref a_all_m22, .int size_m22])), (a_all_m22, .inl (cI, n_a_all_m22, .inl b_a_all_m22)), ((am 20), .inr (8, [.ref q745, .int r742])), ((am 2), .inl (cI, n_m2, .inl b_m2)), (q745, .inl (cI, r743, .inl r744)), (h0, .inr (9, moF am known_h0 thrown_h0 wrong_h0 lastEnd_h0 r754 r755 r741 least_h0 found_h0)), ((am 5), .inr (8, [.ref a_all_m5, .int size_m5])), (a_all_m5, .inl (cI, n_a_all_m5, .inl b_a_all_m5))]) (cl' := 0 + C747) (sl' := 0 + S748) rfl rfl rfl rfl rfl rfl ?_
                                                                            refine j_if_eq (tgt := 560) d_Mo_readStatement_553 (by decide) (fun c758 => ?_) (fun c758 => ?_)
                                                                            · replace h := it_t c758 h
                                                                              refine j_iconst (v := 0) d_Mo_readStatement_560 (by decide) ?_
                                                                              replace h := lf_s h
                                                                              obtain ⟨h, e1, e2⟩ := h
                                                                              replace h := Prod.mk.inj h
                                                                              obtain ⟨h9, h⟩ := h
                                                                              subst h9
                                                                              replace h := Prod.mk.inj h
                                                                              obtain ⟨h9, h⟩ := h
                                                                              subst h9
                                                                              replace h := Prod.mk.inj h
                                                                              obtain ⟨h9, h⟩ := h
                                                                              subst h9
                                                                              replace h := Prod.mk.inj h
                                                                              obtain ⟨h9, h⟩ := h
                                                                              subst h9
                                                                              replace h := Prod.mk.inj h
                                                                              obtain ⟨h9, h⟩ := h
                                                                              subst h9
                                                                              replace h := Prod.mk.inj h
                                                                              obtain ⟨h9, h⟩ := h
                                                                              subst h9
                                                                              replace h := Prod.mk.inj h
                                                                              obtain ⟨h9, h⟩ := h
                                                                              subst h9
                                                                              replace h := Prod.mk.inj h
                                                                              obtain ⟨h9, h⟩ := h
                                                                              subst h9
                                                                              replace h := Prod.mk.inj h
                                                                              obtain ⟨h9, h⟩ := h
                                                                              subst h9
                                                                              replace h := Prod.mk.inj h
                                                                              obtain ⟨h9, h⟩ := h
                                                                              subst h9
                                                                              replace h := Prod.mk.inj h
                                                                              obtain ⟨h9, h⟩ := h
                                                                              subst h9
                                                                              replace h := Prod.mk.inj h
                                                                              obtain ⟨h9, h⟩ := h
                                                                              subst h9
                                                                              replace h := Prod.mk.inj h
                                                                              obtain ⟨h9, h⟩ := h
                                                                              subst h9
                                                                              subst h
                                                                              refine j_widen (cl' := mc) (sl' := ms) (by omega) (by omega) ?_
                                                                              exact j_zret (w := [(h0, .inr (9, moF am known_h0 thrown_h0 wrong_h0 lastEnd_h0 r754 r755 r741 least_h0 found_h0)), ((am 5), .inr (8, [.ref a_all_m5, .int size_m5])), (a_all_m5, .inl (cI, n_a_all_m5, .inl b_a_all_m5)), ((am 20), .inr (8, [.ref q745, .int r742])), ((am 2), .inl (cI, n_m2, .inl b_m2)), ((am 21), .inr (8, [.ref a_all_m21, .int size_m21])), ((am 7), .inr (8, [.ref a_all_m7, .int size_m7])), (a_all_m7, .inl (cI, n_a_all_m7, .inl b_a_all_m7)), ((am 6), .inr (8, [.ref a_all_m6, .int size_m6])), (a_all_m6, .inl (cI, n_a_all_m6, .inl b_a_all_m6)), ((am 4), .inr (8, [.ref a_all_m4, .int size_m4])), (a_all_m4, .inl (cI, n_a_all_m4, .inl b_a_all_m4)), ((am 22), .inr (8, [.ref a_all_m22, .int size_m22])), (q745, .inl (cI, r743, .inl r744)), (a_all_m21, .inl (cI, n_a_all_m21, .inl b_a_all_m21)), (a_all_m22, .inl (cI, n_a_all_m22, .inl b_a_all_m22))]) hr (zb_n zb0) d_Mo_readStatement_561 [13, 14, 15, 10, 11, 0, 2, 3, 4, 5, 6, 7, 8, 12, 1, 9] rfl (by decide) ⟨q745, a_all_m21, a_all_m22, rfl, zb0, rfl⟩
                                                                            · replace h := it_f c758 h
                                                                              refine j_iconst (v := 1) d_Mo_readStatement_556 (by decide) ?_
                                                                              refine j_goto (tgt := 561) d_Mo_readStatement_557 (by decide) ?_
                                                                              replace h := lf_s h
                                                                              obtain ⟨h, e1, e2⟩ := h
                                                                              replace h := Prod.mk.inj h
                                                                              obtain ⟨h9, h⟩ := h
                                                                              subst h9
                                                                              replace h := Prod.mk.inj h
                                                                              obtain ⟨h9, h⟩ := h
                                                                              subst h9
                                                                              replace h := Prod.mk.inj h
                                                                              obtain ⟨h9, h⟩ := h
                                                                              subst h9
                                                                              replace h := Prod.mk.inj h
                                                                              obtain ⟨h9, h⟩ := h
                                                                              subst h9
                                                                              replace h := Prod.mk.inj h
                                                                              obtain ⟨h9, h⟩ := h
                                                                              subst h9
                                                                              replace h := Prod.mk.inj h
                                                                              obtain ⟨h9, h⟩ := h
                                                                              subst h9
                                                                              replace h := Prod.mk.inj h
                                                                              obtain ⟨h9, h⟩ := h
                                                                              subst h9
                                                                              replace h := Prod.mk.inj h
                                                                              obtain ⟨h9, h⟩ := h
                                                                              subst h9
                                                                              replace h := Prod.mk.inj h
                                                                              obtain ⟨h9, h⟩ := h
                                                                              subst h9
                                                                              replace h := Prod.mk.inj h
                                                                              obtain ⟨h9, h⟩ := h
                                                                              subst h9
                                                                              replace h := Prod.mk.inj h
                                                                              obtain ⟨h9, h⟩ := h
                                                                              subst h9
                                                                              replace h := Prod.mk.inj h
                                                                              obtain ⟨h9, h⟩ := h
                                                                              subst h9
                                                                              replace h := Prod.mk.inj h
                                                                              obtain ⟨h9, h⟩ := h
                                                                              subst h9
                                                                              subst h
                                                                              refine j_widen (cl' := mc) (sl' := ms) (by omega) (by omega) ?_
                                                                              exact j_zret (w := [(h0, .inr (9, moF am known_h0 thrown_h0 wrong_h0 lastEnd_h0 r754 r755 r741 least_h0 found_h0)), ((am 5), .inr (8, [.ref a_all_m5, .int size_m5])), (a_all_m5, .inl (cI, n_a_all_m5, .inl b_a_all_m5)), ((am 20), .inr (8, [.ref q745, .int r742])), ((am 2), .inl (cI, n_m2, .inl b_m2)), ((am 21), .inr (8, [.ref a_all_m21, .int size_m21])), ((am 7), .inr (8, [.ref a_all_m7, .int size_m7])), (a_all_m7, .inl (cI, n_a_all_m7, .inl b_a_all_m7)), ((am 6), .inr (8, [.ref a_all_m6, .int size_m6])), (a_all_m6, .inl (cI, n_a_all_m6, .inl b_a_all_m6)), ((am 4), .inr (8, [.ref a_all_m4, .int size_m4])), (a_all_m4, .inl (cI, n_a_all_m4, .inl b_a_all_m4)), ((am 22), .inr (8, [.ref a_all_m22, .int size_m22])), (q745, .inl (cI, r743, .inl r744)), (a_all_m21, .inl (cI, n_a_all_m21, .inl b_a_all_m21)), (a_all_m22, .inl (cI, n_a_all_m22, .inl b_a_all_m22))]) hr (zb_n zb1) d_Mo_readStatement_561 [13, 14, 15, 10, 11, 0, 2, 3, 4, 5, 6, 7, 8, 12, 1, 9] rfl (by decide) ⟨q745, a_all_m21, a_all_m22, rfl, zb1, rfl⟩
                                                                        · replace h := it_f c737 h
                                                                          by_cases c759 : (b_a_all_m5 (Int32.toNatClampNeg at_h0)) = 46
                                                                          · replace h := it_t c759 h
                                                                            refine j_tabIn (tgt := 540) (off := 534) d_Mo_readStatement_6 46 c759 (by decide) (by decide) (by decide) (by decide) ?_
                                                                            refine j_aload_n d_Mo_readStatement_540 rfl 1 rfl ?_
                                                                            replace h := bw_s h
                                                                            obtain ⟨⟨r760, r761, r762, r763, r764, r765, r766⟩, C769, S770, C771, S772, k773, h, e1, e2⟩ := h
                                                                            replace hC : 0 + C769 + C771 ≤ mc := by omega
                                                                            replace hS : 0 + S770 + S772 ≤ ms := by omega
                                                                            clear e1 e2
                                                                            refine j_callV (n := 0) (As := []) (rest := []) (wr := [((am 21), .inr (8, [.ref a_all_m21, .int size_m21])), (a_all_m21, .inl (cI, n_a_all_m21, .inl b_a_all_m21)), ((am 7), .inr (8, [.ref a_all_m7, .int size_m7])), (a_all_m7, .inl (cI, n_a_all_m7, .inl b_a_all_m7)), ((am 6), .inr (8, [.ref a_all_m6, .int size_m6])), (a_all_m6, .inl (cI, n_a_all_m6, .inl b_a_all_m6)), ((am 4), .inr (8, [.ref a_all_m4, .int size_m4])), (a_all_m4, .inl (cI, n_a_all_m4, .inl b_a_all_m4)), ((am 22), .inr (8, [.ref a_all_m22, .int size_m22])), (a_all_m22, .inl (cI, n_a_all_m22, .inl b_a_all_m22))]) (c_Mo_readWorking l D cI cB cJ cS h0 am a_all_m20 a_all_m5 known_h0 thrown_h0 wrong_h0 lastEnd_h0 at_h0 bad_h0 levels_h0 least_h0 found_h0 size_m20 size_m5 n_a_all_m5 b_a_all_m5 n_a_all_m20 b_a_all_m20 n_m2 b_m2  r760 r761 r762 r763 r764 r765 r766 C769 S770 k773) k_Mo_362 (by decide) ⟨Nat.le_of_ble_eq_true rfl, Nat.le_of_ble_eq_true rfl⟩ rfl 0 rfl [13, 0, 14, 15, 1, 2] [3, 4, 5, 6, 7, 8, 9, 10, 11, 12] rfl (by decide +kernel) rfl (by decide +kernel) (by decide +kernel) rfl rfl (Nat.le_of_ble_eq_true rfl) d_Mo_readStatement_541 ⟨show 0 + C769 ≤ mc by omega, show 0 + S770 ≤ ms by omega⟩ (fun v w hq => ?_)
                                                                            obtain ⟨q767, rfl, z768, rfl⟩ := hq
                                                                            refine j_norm (pc' := 544) (st' := [.int r760]) (ws' := [((am 21), .inr (8, [.ref a_all_m21, .int size_m21])), (a_all_m21, .inl (cI, n_a_all_m21, .inl b_a_all_m21)), ((am 7), .inr (8, [.ref a_all_m7, .int size_m7])), (a_all_m7, .inl (cI, n_a_all_m7, .inl b_a_all_m7)), ((am 6), .inr (8, [.ref a_all_m6, .int size_m6])), (a_all_m6, .inl (cI, n_a_all_m6, .inl b_a_all_m6)), ((am 4), .inr (8, [.ref a_all_m4, .int size_m4])), (a_all_m4, .inl (cI, n_a_all_m4, .inl b_a_all_m4)), ((am 22), .inr (8, [.ref a_all_m22, .int size_m22])), (a_all_m22, .inl (cI, n_a_all_m22, .inl b_a_all_m22)), (h0, .inr (9, moF am known_h0 thrown_h0 wrong_h0 lastEnd_h0 r761 r762 r763 least_h0 found_h0)), ((am 20), .inr (8, [.ref q767, .int r764])), ((am 5), .inr (8, [.ref a_all_m5, .int size_m5])), (a_all_m5, .inl (cI, n_a_all_m5, .inl b_a_all_m5)), ((am 2), .inl (cI, n_m2, .inl b_m2)), (q767, .inl (cI, r765, .inl r766))]) (cl' := 0 + C769) (sl' := 0 + S770) rfl rfl rfl rfl rfl rfl ?_
                                                                            refine j_if_eq (tgt := 560) d_Mo_readStatement_544 (by decide) (fun c774 => ?_) (fun c774 => ?_)
                                                                            · replace h := it_t c774 h
                                                                              refine j_iconst (v := 0) d_Mo_readStatement_560 (by decide) ?_
                                                                              replace h := lf_s h
                                                                              obtain ⟨h, e1, e2⟩ := h
                                                                              replace h := Prod.mk.inj h
                                                                              obtain ⟨h9, h⟩ := h
                                                                              subst h9
                                                                              replace h := Prod.mk.inj h
                                                                              obtain ⟨h9, h⟩ := h
                                                                              subst h9
                                                                              replace h := Prod.mk.inj h
                                                                              obtain ⟨h9, h⟩ := h
                                                                              subst h9
                                                                              replace h := Prod.mk.inj h
                                                                              obtain ⟨h9, h⟩ := h
                                                                              subst h9
                                                                              replace h := Prod.mk.inj h
                                                                              obtain ⟨h9, h⟩ := h
                                                                              subst h9
                                                                              replace h := Prod.mk.inj h
                                                                              obtain ⟨h9, h⟩ := h
                                                                              subst h9
                                                                              replace h := Prod.mk.inj h
                                                                              obtain ⟨h9, h⟩ := h
                                                                              subst h9
                                                                              replace h := Prod.mk.inj h
                                                                              obtain ⟨h9, h⟩ := h
                                                                              subst h9
                                                                              replace h := Prod.mk.inj h
                                                                              obtain ⟨h9, h⟩ := h
                                                                              subst h9
                                                                              replace h := Prod.mk.inj h
                                                                              obtain ⟨h9, h⟩ := h
                                                                              subst h9
                                                                              replace h := Prod.mk.inj h
                                                                              obtain ⟨h9, h⟩ := h
                                                                              subst h9
                                                                              replace h := Prod.mk.inj h
                                                                              obtain ⟨h9, h⟩ := h
                                                                              subst h9
                                                                              replace h := Prod.mk.inj h
                                                                              obtain ⟨h9, h⟩ := h
                                                                              subst h9
                                                                              subst h
                                                                              refine j_widen (cl' := mc) (sl' := ms) (by omega) (by omega) ?_
                                                                              exact j_zret (w := [(h0, .inr (9, moF am known_h0 thrown_h0 wrong_h0 lastEnd_h0 r761 r762 r763 least_h0 found_h0)), ((am 5), .inr (8, [.ref a_all_m5, .int size_m5])), (a_all_m5, .inl (cI, n_a_all_m5, .inl b_a_all_m5)), ((am 20), .inr (8, [.ref q767, .int r764])), ((am 2), .inl (cI, n_m2, .inl b_m2)), ((am 21), .inr (8, [.ref a_all_m21, .int size_m21])), ((am 7), .inr (8, [.ref a_all_m7, .int size_m7])), (a_all_m7, .inl (cI, n_a_all_m7, .inl b_a_all_m7)), ((am 6), .inr (8, [.ref a_all_m6, .int size_m6])), (a_all_m6, .inl (cI, n_a_all_m6, .inl b_a_all_m6)), ((am 4), .inr (8, [.ref a_all_m4, .int size_m4])), (a_all_m4, .inl (cI, n_a_all_m4, .inl b_a_all_m4)), ((am 22), .inr (8, [.ref a_all_m22, .int size_m22])), (q767, .inl (cI, r765, .inl r766)), (a_all_m21, .inl (cI, n_a_all_m21, .inl b_a_all_m21)), (a_all_m22, .inl (cI, n_a_all_m22, .inl b_a_all_m22))]) hr (zb_n zb0) d_Mo_readStatement_561 [10, 12, 13, 11, 14, 0, 2, 3, 4, 5, 6, 7, 8, 15, 1, 9] rfl (by decide) ⟨q767, a_all_m21, a_all_m22, rfl, zb0, rfl⟩
                                                                            · replace h := it_f c774 h
                                                                              refine j_aload_n d_Mo_readStatement_547 rfl 1 rfl ?_
                                                                              refine j_bipush (v := 55) d_Mo_readStatement_548 (by decide) ?_
                                                                              replace h := bd_s h
                                                                              obtain ⟨⟨r775, r776, r777⟩, k779, h⟩ := h
                                                                              refine j_callV (n := 1) (As := [.int 55]) (rest := []) (wr := [((am 21), .inr (8, [.ref a_all_m21, .int size_m21])), (a_all_m21, .inl (cI, n_a_all_m21, .inl b_a_all_m21)), ((am 7), .inr (8, [.ref a_all_m7, .int size_m7])), (a_all_m7, .inl (cI, n_a_all_m7, .inl b_a_all_m7)), ((am 6), .inr (8, [.ref a_all_m6, .int size_m6])), (a_all_m6, .inl (cI, n_a_all_m6, .inl b_a_all_m6)), ((am 4), .inr (8, [.ref a_all_m4, .int size_m4])), (a_all_m4, .inl (cI, n_a_all_m4, .inl b_a_all_m4)), ((am 22), .inr (8, [.ref a_all_m22, .int size_m22])), (a_all_m22, .inl (cI, n_a_all_m22, .inl b_a_all_m22)), ((am 20), .inr (8, [.ref q767, .int r764])), ((am 2), .inl (cI, n_m2, .inl b_m2)), (q767, .inl (cI, r765, .inl r766))]) (c_Mo_take l D cI cB cJ cS h0 am a_all_m5 55 known_h0 thrown_h0 wrong_h0 lastEnd_h0 r761 r762 r763 least_h0 found_h0 size_m5 n_a_all_m5 b_a_all_m5  r775 r776 r777 k779) k_Mo_285 (by decide) ⟨Nat.le_of_ble_eq_true rfl, Nat.le_of_ble_eq_true rfl⟩ rfl 0 rfl [10, 12, 13] [0, 1, 2, 3, 4, 5, 6, 7, 8, 9, 11, 14, 15] rfl (by decide +kernel) rfl (by decide +kernel) (by decide +kernel) rfl rfl (Nat.le_of_ble_eq_true rfl) d_Mo_readStatement_550 ⟨show 0 + C769 + 0 ≤ mc by omega, show 0 + S770 + 0 ≤ ms by omega⟩ (fun v w hq => ?_)
                                                                              obtain ⟨rfl, z778, rfl⟩ := hq
                                                                              refine j_norm (pc' := 553) (st' := [.int r775]) (ws' := [((am 21), .inr (8, [.ref a_all_m21, .int size_m21])), (a_all_m21, .inl (cI, n_a_all_m21, .inl b_a_all_m21)), ((am 7), .inr (8, [.ref a_all_m7, .int size_m7])), (a_all_m7, .inl (cI, n_a_all_m7, .inl b_a_all_m7)), ((am 6), .inr (8, [.ref a_all_m6, .int size_m6])), (a_all_m6, .inl (cI, n_a_all_m6, .inl b_a_all_m6)), ((am 4), .inr (8, [.ref a_all_m4, .int size_m4])), (a_all_m4, .inl (cI, n_a_all_m4, .inl b_a_all_m4)), ((am 22), .inr (8, [.ref a_all_m22, .int size_m22])), (a_all_m22, .inl (cI, n_a_all_m22, .inl b_a_all_m22)), ((am 20), .inr (8, [.ref q767, .int r764])), ((am 2), .inl (cI, n_m2, .inl b_m2)), (q767, .inl (cI, r765, .inl r766)), (h0, .inr (9, moF am known_h0 thrown_h0 wrong_h0 lastEnd_h0 r776 r777 r763 least_h0 found_h0)), ((am 5), .inr (8, [.ref a_all_m5, .int size_m5])), (a_all_m5, .inl (cI, n_a_all_m5, .inl b_a_all_m5))]) (cl' := 0 + C769) (sl' := 0 + S770) rfl rfl rfl rfl rfl rfl ?_
                                                                              refine j_if_eq (tgt := 560) d_Mo_readStatement_553 (by decide) (fun c780 => ?_) (fun c780 => ?_)
                                                                              · replace h := it_t c780 h
                                                                                refine j_iconst (v := 0) d_Mo_readStatement_560 (by decide) ?_
                                                                                replace h := lf_s h
                                                                                obtain ⟨h, e1, e2⟩ := h
                                                                                replace h := Prod.mk.inj h
                                                                                obtain ⟨h9, h⟩ := h
                                                                                subst h9
                                                                                replace h := Prod.mk.inj h
                                                                                obtain ⟨h9, h⟩ := h
                                                                                subst h9
                                                                                replace h := Prod.mk.inj h
                                                                                obtain ⟨h9, h⟩ := h
                                                                                subst h9
                                                                                replace h := Prod.mk.inj h
                                                                                obtain ⟨h9, h⟩ := h
                                                                                subst h9
                                                                                replace h := Prod.mk.inj h
                                                                                obtain ⟨h9, h⟩ := h
                                                                                subst h9
                                                                                replace h := Prod.mk.inj h
                                                                                obtain ⟨h9, h⟩ := h
                                                                                subst h9
                                                                                replace h := Prod.mk.inj h
                                                                                obtain ⟨h9, h⟩ := h
                                                                                subst h9
                                                                                replace h := Prod.mk.inj h
                                                                                obtain ⟨h9, h⟩ := h
                                                                                subst h9
                                                                                replace h := Prod.mk.inj h
                                                                                obtain ⟨h9, h⟩ := h
                                                                                subst h9
                                                                                replace h := Prod.mk.inj h
                                                                                obtain ⟨h9, h⟩ := h
                                                                                subst h9
                                                                                replace h := Prod.mk.inj h
                                                                                obtain ⟨h9, h⟩ := h
                                                                                subst h9
                                                                                replace h := Prod.mk.inj h
                                                                                obtain ⟨h9, h⟩ := h
                                                                                subst h9
                                                                                replace h := Prod.mk.inj h
                                                                                obtain ⟨h9, h⟩ := h
                                                                                subst h9
                                                                                subst h
                                                                                refine j_widen (cl' := mc) (sl' := ms) (by omega) (by omega) ?_
                                                                                exact j_zret (w := [(h0, .inr (9, moF am known_h0 thrown_h0 wrong_h0 lastEnd_h0 r776 r777 r763 least_h0 found_h0)), ((am 5), .inr (8, [.ref a_all_m5, .int size_m5])), (a_all_m5, .inl (cI, n_a_all_m5, .inl b_a_all_m5)), ((am 20), .inr (8, [.ref q767, .int r764])), ((am 2), .inl (cI, n_m2, .inl b_m2)), ((am 21), .inr (8, [.ref a_all_m21, .int size_m21])), ((am 7), .inr (8, [.ref a_all_m7, .int size_m7])), (a_all_m7, .inl (cI, n_a_all_m7, .inl b_a_all_m7)), ((am 6), .inr (8, [.ref a_all_m6, .int size_m6])), (a_all_m6, .inl (cI, n_a_all_m6, .inl b_a_all_m6)), ((am 4), .inr (8, [.ref a_all_m4, .int size_m4])), (a_all_m4, .inl (cI, n_a_all_m4, .inl b_a_all_m4)), ((am 22), .inr (8, [.ref a_all_m22, .int size_m22])), (q767, .inl (cI, r765, .inl r766)), (a_all_m21, .inl (cI, n_a_all_m21, .inl b_a_all_m21)), (a_all_m22, .inl (cI, n_a_all_m22, .inl b_a_all_m22))]) hr (zb_n zb0) d_Mo_readStatement_561 [13, 14, 15, 10, 11, 0, 2, 3, 4, 5, 6, 7, 8, 12, 1, 9] rfl (by decide) ⟨q767, a_all_m21, a_all_m22, rfl, zb0, rfl⟩
                                                                              · replace h := it_f c780 h
                                                                                refine j_iconst (v := 1) d_Mo_readStatement_556 (by decide) ?_
                                                                                refine j_goto (tgt := 561) d_Mo_readStatement_557 (by decide) ?_
                                                                                replace h := lf_s h
                                                                                obtain ⟨h, e1, e2⟩ := h
                                                                                replace h := Prod.mk.inj h
                                                                                obtain ⟨h9, h⟩ := h
                                                                                subst h9
                                                                                replace h := Prod.mk.inj h
                                                                                obtain ⟨h9, h⟩ := h
                                                                                subst h9
                                                                                replace h := Prod.mk.inj h
                                                                                obtain ⟨h9, h⟩ := h
                                                                                subst h9
                                                                                replace h := Prod.mk.inj h
                                                                                obtain ⟨h9, h⟩ := h
                                                                                subst h9
                                                                                replace h := Prod.mk.inj h
                                                                                obtain ⟨h9, h⟩ := h
                                                                                subst h9
                                                                                replace h := Prod.mk.inj h
                                                                                obtain ⟨h9, h⟩ := h
                                                                                subst h9
                                                                                replace h := Prod.mk.inj h
                                                                                obtain ⟨h9, h⟩ := h
                                                                                subst h9
                                                                                replace h := Prod.mk.inj h
                                                                                obtain ⟨h9, h⟩ := h
                                                                                subst h9
                                                                                replace h := Prod.mk.inj h
                                                                                obtain ⟨h9, h⟩ := h
                                                                                subst h9
                                                                                replace h := Prod.mk.inj h
                                                                                obtain ⟨h9, h⟩ := h
                                                                                subst h9
                                                                                replace h := Prod.mk.inj h
                                                                                obtain ⟨h9, h⟩ := h
                                                                                subst h9
                                                                                replace h := Prod.mk.inj h
                                                                                obtain ⟨h9, h⟩ := h
                                                                                subst h9
                                                                                replace h := Prod.mk.inj h
                                                                                obtain ⟨h9, h⟩ := h
                                                                                subst h9
                                                                                subst h
                                                                                refine j_widen (cl' := mc) (sl' := ms) (by omega) (by omega) ?_
                                                                                exact j_zret (w := [(h0, .inr (9, moF am known_h0 thrown_h0 wrong_h0 lastEnd_h0 r776 r777 r763 least_h0 found_h0)), ((am 5), .inr (8, [.ref a_all_m5, .int size_m5])), (a_all_m5, .inl (cI, n_a_all_m5, .inl b_a_all_m5)), ((am 20), .inr (8, [.ref q767, .int r764])), ((am 2), .inl (cI, n_m2, .inl b_m2)), ((am 21), .inr (8, [.ref a_all_m21, .int size_m21])), ((am 7), .inr (8, [.ref a_all_m7, .int size_m7])), (a_all_m7, .inl (cI, n_a_all_m7, .inl b_a_all_m7)), ((am 6), .inr (8, [.ref a_all_m6, .int size_m6])), (a_all_m6, .inl (cI, n_a_all_m6, .inl b_a_all_m6)), ((am 4), .inr (8, [.ref a_all_m4, .int size_m4])), (a_all_m4, .inl (cI, n_a_all_m4, .inl b_a_all_m4)), ((am 22), .inr (8, [.ref a_all_m22, .int size_m22])), (q767, .inl (cI, r765, .inl r766)), (a_all_m21, .inl (cI, n_a_all_m21, .inl b_a_all_m21)), (a_all_m22, .inl (cI, n_a_all_m22, .inl b_a_all_m22))]) hr (zb_n zb1) d_Mo_readStatement_561 [13, 14, 15, 10, 11, 0, 2, 3, 4, 5, 6, 7, 8, 12, 1, 9] rfl (by decide) ⟨q767, a_all_m21, a_all_m22, rfl, zb1, rfl⟩
                                                                          · replace h := it_f c759 h
                                                                            by_cases c781 : (b_a_all_m5 (Int32.toNatClampNeg at_h0)) = 47
                                                                            · replace h := it_t c781 h
                                                                              refine j_tabIn (tgt := 540) (off := 534) d_Mo_readStatement_6 47 c781 (by decide) (by decide) (by decide) (by decide) ?_
                                                                              refine j_aload_n d_Mo_readStatement_540 rfl 1 rfl ?_
                                                                              replace h := bw_s h
                                                                              obtain ⟨⟨r782, r783, r784, r785, r786, r787, r788⟩, C791, S792, C793, S794, k795, h, e1, e2⟩ := h
                                                                              replace hC : 0 + C791 + C793 ≤ mc := by omega
                                                                              replace hS : 0 + S792 + S794 ≤ ms := by omega
                                                                              clear e1 e2
                                                                              refine j_callV (n := 0) (As := []) (rest := []) (wr := [((am 21), .inr (8, [.ref a_all_m21, .int size_m21])), (a_all_m21, .inl (cI, n_a_all_m21, .inl b_a_all_m21)), ((am 7), .inr (8, [.ref a_all_m7, .int size_m7])), (a_all_m7, .inl (cI, n_a_all_m7, .inl b_a_all_m7)), ((am 6), .inr (8, [.ref a_all_m6, .int size_m6])), (a_all_m6, .inl (cI, n_a_all_m6, .inl b_a_all_m6)), ((am 4), .inr (8, [.ref a_all_m4, .int size_m4])), (a_all_m4, .inl (cI, n_a_all_m4, .inl b_a_all_m4)), ((am 22), .inr (8, [.ref a_all_m22, .int size_m22])), (a_all_m22, .inl (cI, n_a_all_m22, .inl b_a_all_m22))]) (c_Mo_readWorking l D cI cB cJ cS h0 am a_all_m20 a_all_m5 known_h0 thrown_h0 wrong_h0 lastEnd_h0 at_h0 bad_h0 levels_h0 least_h0 found_h0 size_m20 size_m5 n_a_all_m5 b_a_all_m5 n_a_all_m20 b_a_all_m20 n_m2 b_m2  r782 r783 r784 r785 r786 r787 r788 C791 S792 k795) k_Mo_362 (by decide) ⟨Nat.le_of_ble_eq_true rfl, Nat.le_of_ble_eq_true rfl⟩ rfl 0 rfl [13, 0, 14, 15, 1, 2] [3, 4, 5, 6, 7, 8, 9, 10, 11, 12] rfl (by decide +kernel) rfl (by decide +kernel) (by decide +kernel) rfl rfl (Nat.le_of_ble_eq_true rfl) d_Mo_readStatement_541 ⟨show 0 + C791 ≤ mc by omega, show 0 + S792 ≤ ms by omega⟩ (fun v w hq => ?_)
                                                                              obtain ⟨q789, rfl, z790, rfl⟩ := hq
                                                                              refine j_norm (pc' := 544) (st' := [.int r782]) (ws' := [((am 21), .inr (8, [.ref a_all_m21, .int size_m21])), (a_all_m21, .inl (cI, n_a_all_m21, .inl b_a_all_m21)), ((am 7), .inr (8, [.ref a_all_m7, .int size_m7])), (a_all_m7, .inl (cI, n_a_all_m7, .inl b_a_all_m7)), ((am 6), .inr (8, [.ref a_all_m6, .int size_m6])), (a_all_m6, .inl (cI, n_a_all_m6, .inl b_a_all_m6)), ((am 4), .inr (8, [.ref a_all_m4, .int size_m4])), (a_all_m4, .inl (cI, n_a_all_m4, .inl b_a_all_m4)), ((am 22), .inr (8, [.ref a_all_m22, .int size_m22])), (a_all_m22, .inl (cI, n_a_all_m22, .inl b_a_all_m22)), (h0, .inr (9, moF am known_h0 thrown_h0 wrong_h0 lastEnd_h0 r783 r784 r785 least_h0 found_h0)), ((am 20), .inr (8, [.ref q789, .int r786])), ((am 5), .inr (8, [.ref a_all_m5, .int size_m5])), (a_all_m5, .inl (cI, n_a_all_m5, .inl b_a_all_m5)), ((am 2), .inl (cI, n_m2, .inl b_m2)), (q789, .inl (cI, r787, .inl r788))]) (cl' := 0 + C791) (sl' := 0 + S792) rfl rfl rfl rfl rfl rfl ?_
                                                                              refine j_if_eq (tgt := 560) d_Mo_readStatement_544 (by decide) (fun c796 => ?_) (fun c796 => ?_)
                                                                              · replace h := it_t c796 h
                                                                                refine j_iconst (v := 0) d_Mo_readStatement_560 (by decide) ?_
                                                                                replace h := lf_s h
                                                                                obtain ⟨h, e1, e2⟩ := h
                                                                                replace h := Prod.mk.inj h
                                                                                obtain ⟨h9, h⟩ := h
                                                                                subst h9
                                                                                replace h := Prod.mk.inj h
                                                                                obtain ⟨h9, h⟩ := h
                                                                                subst h9
                                                                                replace h := Prod.mk.inj h
                                                                                obtain ⟨h9, h⟩ := h
                                                                                subst h9
                                                                                replace h := Prod.mk.inj h
                                                                                obtain ⟨h9, h⟩ := h
                                                                                subst h9
                                                                                replace h := Prod.mk.inj h
                                                                                obtain ⟨h9, h⟩ := h
                                                                                subst h9
                                                                                replace h := Prod.mk.inj h
                                                                                obtain ⟨h9, h⟩ := h
                                                                                subst h9
                                                                                replace h := Prod.mk.inj h
                                                                                obtain ⟨h9, h⟩ := h
                                                                                subst h9
                                                                                replace h := Prod.mk.inj h
                                                                                obtain ⟨h9, h⟩ := h
                                                                                subst h9
                                                                                replace h := Prod.mk.inj h
                                                                                obtain ⟨h9, h⟩ := h
                                                                                subst h9
                                                                                replace h := Prod.mk.inj h
                                                                                obtain ⟨h9, h⟩ := h
                                                                                subst h9
                                                                                replace h := Prod.mk.inj h
                                                                                obtain ⟨h9, h⟩ := h
                                                                                subst h9
                                                                                replace h := Prod.mk.inj h
                                                                                obtain ⟨h9, h⟩ := h
                                                                                subst h9
                                                                                replace h := Prod.mk.inj h
                                                                                obtain ⟨h9, h⟩ := h
                                                                                subst h9
                                                                                subst h
                                                                                refine j_widen (cl' := mc) (sl' := ms) (by omega) (by omega) ?_
                                                                                exact j_zret (w := [(h0, .inr (9, moF am known_h0 thrown_h0 wrong_h0 lastEnd_h0 r783 r784 r785 least_h0 found_h0)), ((am 5), .inr (8, [.ref a_all_m5, .int size_m5])), (a_all_m5, .inl (cI, n_a_all_m5, .inl b_a_all_m5)), ((am 20), .inr (8, [.ref q789, .int r786])), ((am 2), .inl (cI, n_m2, .inl b_m2)), ((am 21), .inr (8, [.ref a_all_m21, .int size_m21])), ((am 7), .inr (8, [.ref a_all_m7, .int size_m7])), (a_all_m7, .inl (cI, n_a_all_m7, .inl b_a_all_m7)), ((am 6), .inr (8, [.ref a_all_m6, .int size_m6])), (a_all_m6, .inl (cI, n_a_all_m6, .inl b_a_all_m6)), ((am 4), .inr (8, [.ref a_all_m4, .int size_m4])), (a_all_m4, .inl (cI, n_a_all_m4, .inl b_a_all_m4)), ((am 22), .inr (8, [.ref a_all_m22, .int size_m22])), (q789, .inl (cI, r787, .inl r788)), (a_all_m21, .inl (cI, n_a_all_m21, .inl b_a_all_m21)), (a_all_m22, .inl (cI, n_a_all_m22, .inl b_a_all_m22))]) hr (zb_n zb0) d_Mo_readStatement_561 [10, 12, 13, 11, 14, 0, 2, 3, 4, 5, 6, 7, 8, 15, 1, 9] rfl (by decide) ⟨q789, a_all_m21, a_all_m22, rfl, zb0, rfl⟩
                                                                              · replace h := it_f c796 h
                                                                                refine j_aload_n d_Mo_readStatement_547 rfl 1 rfl ?_
                                                                                refine j_bipush (v := 55) d_Mo_readStatement_548 (by decide) ?_
                                                                                replace h := bd_s h
                                                                                obtain ⟨⟨r797, r798, r799⟩, k801, h⟩ := h
                                                                                refine j_callV (n := 1) (As := [.int 55]) (rest := []) (wr := [((am 21), .inr (8, [.ref a_all_m21, .int size_m21])), (a_all_m21, .inl (cI, n_a_all_m21, .inl b_a_all_m21)), ((am 7), .inr (8, [.ref a_all_m7, .int size_m7])), (a_all_m7, .inl (cI, n_a_all_m7, .inl b_a_all_m7)), ((am 6), .inr (8, [.ref a_all_m6, .int size_m6])), (a_all_m6, .inl (cI, n_a_all_m6, .inl b_a_all_m6)), ((am 4), .inr (8, [.ref a_all_m4, .int size_m4])), (a_all_m4, .inl (cI, n_a_all_m4, .inl b_a_all_m4)), ((am 22), .inr (8, [.ref a_all_m22, .int size_m22])), (a_all_m22, .inl (cI, n_a_all_m22, .inl b_a_all_m22)), ((am 20), .inr (8, [.ref q789, .int r786])), ((am 2), .inl (cI, n_m2, .inl b_m2)), (q789, .inl (cI, r787, .inl r788))]) (c_Mo_take l D cI cB cJ cS h0 am a_all_m5 55 known_h0 thrown_h0 wrong_h0 lastEnd_h0 r783 r784 r785 least_h0 found_h0 size_m5 n_a_all_m5 b_a_all_m5  r797 r798 r799 k801) k_Mo_285 (by decide) ⟨Nat.le_of_ble_eq_true rfl, Nat.le_of_ble_eq_true rfl⟩ rfl 0 rfl [10, 12, 13] [0, 1, 2, 3, 4, 5, 6, 7, 8, 9, 11, 14, 15] rfl (by decide +kernel) rfl (by decide +kernel) (by decide +kernel) rfl rfl (Nat.le_of_ble_eq_true rfl) d_Mo_readStatement_550 ⟨show 0 + C791 + 0 ≤ mc by omega, show 0 + S792 + 0 ≤ ms by omega⟩ (fun v w hq => ?_)
                                                                                obtain ⟨rfl, z800, rfl⟩ := hq
                                                                                refine j_norm (pc' := 553) (st' := [.int r797]) (ws' := [((am 21), .inr (8, [.ref a_all_m21, .int size_m21])), (a_all_m21, .inl (cI, n_a_all_m21, .inl b_a_all_m21)), ((am 7), .inr (8, [.ref a_all_m7, .int size_m7])), (a_all_m7, .inl (cI, n_a_all_m7, .inl b_a_all_m7)), ((am 6), .inr (8, [.ref a_all_m6, .int size_m6])), (a_all_m6, .inl (cI, n_a_all_m6, .inl b_a_all_m6)), ((am 4), .inr (8, [.ref a_all_m4, .int size_m4])), (a_all_m4, .inl (cI, n_a_all_m4, .inl b_a_all_m4)), ((am 22), .inr (8, [.ref a_all_m22, .int size_m22])), (a_all_m22, .inl (cI, n_a_all_m22, .inl b_a_all_m22)), ((am 20), .inr (8, [.ref q789, .int r786])), ((am 2), .inl (cI, n_m2, .inl b_m2)), (q789, .inl (cI, r787, .inl r788)), (h0, .inr (9, moF am known_h0 thrown_h0 wrong_h0 lastEnd_h0 r798 r799 r785 least_h0 found_h0)), ((am 5), .inr (8, [.ref a_all_m5, .int size_m5])), (a_all_m5, .inl (cI, n_a_all_m5, .inl b_a_all_m5))]) (cl' := 0 + C791) (sl' := 0 + S792) rfl rfl rfl rfl rfl rfl ?_
                                                                                refine j_if_eq (tgt := 560) d_Mo_readStatement_553 (by decide) (fun c802 => ?_) (fun c802 => ?_)
                                                                                · replace h := it_t c802 h
                                                                                  refine j_iconst (v := 0) d_Mo_readStatement_560 (by decide) ?_
                                                                                  replace h := lf_s h
                                                                                  obtain ⟨h, e1, e2⟩ := h
                                                                                  replace h := Prod.mk.inj h
                                                                                  obtain ⟨h9, h⟩ := h
                                                                                  subst h9
                                                                                  replace h := Prod.mk.inj h
                                                                                  obtain ⟨h9, h⟩ := h
                                                                                  subst h9
                                                                                  replace h := Prod.mk.inj h
                                                                                  obtain ⟨h9, h⟩ := h
                                                                                  subst h9
                                                                                  replace h := Prod.mk.inj h
                                                                                  obtain ⟨h9, h⟩ := h
                                                                                  subst h9
                                                                                  replace h := Prod.mk.inj h
                                                                                  obtain ⟨h9, h⟩ := h
                                                                                  subst h9
                                                                                  replace h := Prod.mk.inj h
                                                                                  obtain ⟨h9, h⟩ := h
                                                                                  subst h9
                                                                                  replace h := Prod.mk.inj h
                                                                                  obtain ⟨h9, h⟩ := h
                                                                                  subst h9
                                                                                  replace h := Prod.mk.inj h
                                                                                  obtain ⟨h9, h⟩ := h
                                                                                  subst h9
                                                                                  replace h := Prod.mk.inj h
                                                                                  obtain ⟨h9, h⟩ := h
                                                                                  subst h9
                                                                                  replace h := Prod.mk.inj h
                                                                                  obtain ⟨h9, h⟩ := h
                                                                                  subst h9
                                                                                  replace h := Prod.mk.inj h
                                                                                  obtain ⟨h9, h⟩ := h
                                                                                  subst h9
                                                                                  replace h := Prod.mk.inj h
                                                                                  obtain ⟨h9, h⟩ := h
                                                                                  subst h9
                                                                                  replace h := Prod.mk.inj h
                                                                                  obtain ⟨h9, h⟩ := h
                                                                                  subst h9
                                                                                  subst h
                                                                                  refine j_widen (cl' := mc) (sl' := ms) (by omega) (by omega) ?_
                                                                                  exact j_zret (w := [(h0, .inr (9, moF am known_h0 thrown_h0 wrong_h0 lastEnd_h0 r798 r799 r785 least_h0 found_h0)), ((am 5), .inr (8, [.ref a_all_m5, .int size_m5])), (a_all_m5, .inl (cI, n_a_all_m5, .inl b_a_all_m5)), ((am 20), .inr (8, [.ref q789, .int r786])), ((am 2), .inl (cI, n_m2, .inl b_m2)), ((am 21), .inr (8, [.ref a_all_m21, .int size_m21])), ((am 7), .inr (8, [.ref a_all_m7, .int size_m7])), (a_all_m7, .inl (cI, n_a_all_m7, .inl b_a_all_m7)), ((am 6), .inr (8, [.ref a_all_m6, .int size_m6])), (a_all_m6, .inl (cI, n_a_all_m6, .inl b_a_all_m6)), ((am 4), .inr (8, [.ref a_all_m4, .int size_m4])), (a_all_m4, .inl (cI, n_a_all_m4, .inl b_a_all_m4)), ((am 22), .inr (8, [.ref a_all_m22, .int size_m22])), (q789, .inl (cI, r787, .inl r788)), (a_all_m21, .inl (cI, n_a_all_m21, .inl b_a_all_m21)), (a_all_m22, .inl (cI, n_a_all_m22, .inl b_a_all_m22))]) hr (zb_n zb0) d_Mo_readStatement_561 [13, 14, 15, 10, 11, 0, 2, 3, 4, 5, 6, 7, 8, 12, 1, 9] rfl (by decide) ⟨q789, a_all_m21, a_all_m22, rfl, zb0, rfl⟩
                                                                                · replace h := it_f c802 h
                                                                                  refine j_iconst (v := 1) d_Mo_readStatement_556 (by decide) ?_
                                                                                  refine j_goto (tgt := 561) d_Mo_readStatement_557 (by decide) ?_
                                                                                  replace h := lf_s h
                                                                                  obtain ⟨h, e1, e2⟩ := h
                                                                                  replace h := Prod.mk.inj h
                                                                                  obtain ⟨h9, h⟩ := h
                                                                                  subst h9
                                                                                  replace h := Prod.mk.inj h
                                                                                  obtain ⟨h9, h⟩ := h
                                                                                  subst h9
                                                                                  replace h := Prod.mk.inj h
                                                                                  obtain ⟨h9, h⟩ := h
                                                                                  subst h9
                                                                                  replace h := Prod.mk.inj h
                                                                                  obtain ⟨h9, h⟩ := h
                                                                                  subst h9
                                                                                  replace h := Prod.mk.inj h
                                                                                  obtain ⟨h9, h⟩ := h
                                                                                  subst h9
                                                                                  replace h := Prod.mk.inj h
                                                                                  obtain ⟨h9, h⟩ := h
                                                                                  subst h9
                                                                                  replace h := Prod.mk.inj h
                                                                                  obtain ⟨h9, h⟩ := h
                                                                                  subst h9
                                                                                  replace h := Prod.mk.inj h
                                                                                  obtain ⟨h9, h⟩ := h
                                                                                  subst h9
                                                                                  replace h := Prod.mk.inj h
                                                                                  obtain ⟨h9, h⟩ := h
                                                                                  subst h9
                                                                                  replace h := Prod.mk.inj h
                                                                                  obtain ⟨h9, h⟩ := h
                                                                                  subst h9
                                                                                  replace h := Prod.mk.inj h
                                                                                  obtain ⟨h9, h⟩ := h
                                                                                  subst h9
                                                                                  replace h := Prod.mk.inj h
                                                                                  obtain ⟨h9, h⟩ := h
                                                                                  subst h9
                                                                                  replace h := Prod.mk.inj h
                                                                                  obtain ⟨h9, h⟩ := h
                                                                                  subst h9
                                                                                  subst h
                                                                                  refine j_widen (cl' := mc) (sl' := ms) (by omega) (by omega) ?_
                                                                                  exact j_zret (w := [(h0, .inr (9, moF am known_h0 thrown_h0 wrong_h0 lastEnd_h0 r798 r799 r785 least_h0 found_h0)), ((am 5), .inr (8, [.ref a_all_m5, .int size_m5])), (a_all_m5, .inl (cI, n_a_all_m5, .inl b_a_all_m5)), ((am 20), .inr (8, [.ref q789, .int r786])), ((am 2), .inl (cI, n_m2, .inl b_m2)), ((am 21), .inr (8, [.ref a_all_m21, .int size_m21])), ((am 7), .inr (8, [.ref a_all_m7, .int size_m7])), (a_all_m7, .inl (cI, n_a_all_m7, .inl b_a_all_m7)), ((am 6), .inr (8, [.ref a_all_m6, .int size_m6])), (a_all_m6, .inl (cI, n_a_all_m6, .inl b_a_all_m6)), ((am 4), .inr (8, [.ref a_all_m4, .int size_m4])), (a_all_m4, .inl (cI, n_a_all_m4, .inl b_a_all_m4)), ((am 22), .inr (8, [.ref a_all_m22, .int size_m22])), (q789, .inl (cI, r787, .inl r788)), (a_all_m21, .inl (cI, n_a_all_m21, .inl b_a_all_m21)), (a_all_m22, .inl (cI, n_a_all_m22, .inl b_a_all_m22))]) hr (zb_n zb1) d_Mo_readStatement_561 [13, 14, 15, 10, 11, 0, 2, 3, 4, 5, 6, 7, 8, 12, 1, 9] rfl (by decide) ⟨q789, a_all_m21, a_all_m22, rfl, zb1, rfl⟩
                                                                            · replace h := it_f c781 h
                                                                              by_cases c803 : (b_a_all_m5 (Int32.toNatClampNeg at_h0)) = 48
                                                                              · replace h := it_t c803 h
                                                                                refine j_tabIn (tgt := 540) (off := 534) d_Mo_readStatement_6 48 c803 (by decide) (by decide) (by decide) (by decide) ?_
                                                                                refine j_aload_n d_Mo_readStatement_540 rfl 1 rfl ?_
                                                                                replace h := bw_s h
                                                                                obtain ⟨⟨r804, r805, r806, r807, r808, r809, r810⟩, C813, S814, C815, S816, k817, h, e1, e2⟩ := h
                                                                                replace hC : 0 + C813 + C815 ≤ mc := by omega
                                                                                replace hS : 0 + S814 + S816 ≤ ms := by omega
                                                                                clear e1 e2
                                                                                refine j_callV (n := 0) (As := []) (rest := []) (wr := [((am 21), .inr (8, [.ref a_all_m21, .int size_m21])), (a_all_m21, .inl (cI, n_a_all_m21, .inl b_a_all_m21)), ((am 7), .inr (8, [.ref a_all_m7, .int size_m7])), (a_all_m7, .inl (cI, n_a_all_m7, .inl b_a_all_m7)), ((am 6), .inr (8, [.ref a_all_m6, .int size_m6])), (a_all_m6, .inl (cI, n_a_all_m6, .inl b_a_all_m6)), ((am 4), .inr (8, [.ref a_all_m4, .int size_m4])), (a_all_m4, .inl (cI, n_a_all_m4, .inl b_a_all_m4)), ((am 22), .inr (8, [.ref a_all_m22, .int size_m22])), (a_all_m22, .inl (cI, n_a_all_m22, .inl b_a_all_m22))]) (c_Mo_readWorking l D cI cB cJ cS h0 am a_all_m20 a_all_m5 known_h0 thrown_h0 wrong_h0 lastEnd_h0 at_h0 bad_h0 levels_h0 least_h0 found_h0 size_m20 size_m5 n_a_all_m5 b_a_all_m5 n_a_all_m20 b_a_all_m20 n_m2 b_m2  r804 r805 r806 r807 r808 r809 r810 C813 S814 k817) k_Mo_362 (by decide) ⟨Nat.le_of_ble_eq_true rfl, Nat.le_of_ble_eq_true rfl⟩ rfl 0 rfl [13, 0, 14, 15, 1, 2] [3, 4, 5, 6, 7, 8, 9, 10, 11, 12] rfl (by decide +kernel) rfl (by decide +kernel) (by decide +kernel) rfl rfl (Nat.le_of_ble_eq_true rfl) d_Mo_readStatement_541 ⟨show 0 + C813 ≤ mc by omega, show 0 + S814 ≤ ms by omega⟩ (fun v w hq => ?_)
                                                                                obtain ⟨q811, rfl, z812, rfl⟩ := hq
                                                                                refine j_norm (pc' := 544) (st' := [.int r804]) (ws' := [((am 21), .inr (8, [.ref a_all_m21, .int size_m21])), (a_all_m21, .inl (cI, n_a_all_m21, .inl b_a_all_m21)), ((am 7), .inr (8, [.ref a_all_m7, .int size_m7])), (a_all_m7, .inl (cI, n_a_all_m7, .inl b_a_all_m7)), ((am 6), .inr (8, [.ref a_all_m6, .int size_m6])), (a_all_m6, .inl (cI, n_a_all_m6, .inl b_a_all_m6)), ((am 4), .inr (8, [.ref a_all_m4, .int size_m4])), (a_all_m4, .inl (cI, n_a_all_m4, .inl b_a_all_m4)), ((am 22), .inr (8, [.ref a_all_m22, .int size_m22])), (a_all_m22, .inl (cI, n_a_all_m22, .inl b_a_all_m22)), (h0, .inr (9, moF am known_h0 thrown_h0 wrong_h0 lastEnd_h0 r805 r806 r807 least_h0 found_h0)), ((am 20), .inr (8, [.ref q811, .int r808])), ((am 5), .inr (8, [.ref a_all_m5, .int size_m5])), (a_all_m5, .inl (cI, n_a_all_m5, .inl b_a_all_m5)), ((am 2), .inl (cI, n_m2, .inl b_m2)), (q811, .inl (cI, r809, .inl r810))]) (cl' := 0 + C813) (sl' := 0 + S814) rfl rfl rfl rfl rfl rfl ?_
                                                                                refine j_if_eq (tgt := 560) d_Mo_readStatement_544 (by decide) (fun c818 => ?_) (fun c818 => ?_)
                                                                                · replace h := it_t c818 h
                                                                                  refine j_iconst (v := 0) d_Mo_readStatement_560 (by decide) ?_
                                                                                  replace h := lf_s h
                                                                                  obtain ⟨h, e1, e2⟩ := h
                                                                                  replace h := Prod.mk.inj h
                                                                                  obtain ⟨h9, h⟩ := h
                                                                                  subst h9
                                                                                  replace h := Prod.mk.inj h
                                                                                  obtain ⟨h9, h⟩ := h
                                                                                  subst h9
                                                                                  replace h := Prod.mk.inj h
                                                                                  obtain ⟨h9, h⟩ := h
                                                                                  subst h9
                                                                                  replace h := Prod.mk.inj h
                                                                                  obtain ⟨h9, h⟩ := h
                                                                                  subst h9
                                                                                  replace h := Prod.mk.inj h
                                                                                  obtain ⟨h9, h⟩ := h
                                                                                  subst h9
                                                                                  replace h := Prod.mk.inj h
                                                                                  obtain ⟨h9, h⟩ := h
                                                                                  subst h9
                                                                                  replace h := Prod.mk.inj h
                                                                                  obtain ⟨h9, h⟩ := h
                                                                                  subst h9
                                                                                  replace h := Prod.mk.inj h
                                                                                  obtain ⟨h9, h⟩ := h
                                                                                  subst h9
                                                                                  replace h := Prod.mk.inj h
                                                                                  obtain ⟨h9, h⟩ := h
                                                                                  subst h9
                                                                                  replace h := Prod.mk.inj h
                                                                                  obtain ⟨h9, h⟩ := h
                                                                                  subst h9
                                                                                  replace h := Prod.mk.inj h
                                                                                  obtain ⟨h9, h⟩ := h
                                                                                  subst h9
                                                                                  replace h := Prod.mk.inj h
                                                                                  obtain ⟨h9, h⟩ := h
                                                                                  subst h9
                                                                                  replace h := Prod.mk.inj h
                                                                                  obtain ⟨h9, h⟩ := h
                                                                                  subst h9
                                                                                  subst h
                                                                                  refine j_widen (cl' := mc) (sl' := ms) (by omega) (by omega) ?_
                                                                                  exact j_zret (w := [(h0, .inr (9, moF am known_h0 thrown_h0 wrong_h0 lastEnd_h0 r805 r806 r807 least_h0 found_h0)), ((am 5), .inr (8, [.ref a_all_m5, .int size_m5])), (a_all_m5, .inl (cI, n_a_all_m5, .inl b_a_all_m5)), ((am 20), .inr (8, [.ref q811, .int r808])), ((am 2), .inl (cI, n_m2, .inl b_m2)), ((am 21), .inr (8, [.ref a_all_m21, .int size_m21])), ((am 7), .inr (8, [.ref a_all_m7, .int size_m7])), (a_all_m7, .inl (cI, n_a_all_m7, .inl b_a_all_m7)), ((am 6), .inr (8, [.ref a_all_m6, .int size_m6])), (a_all_m6, .inl (cI, n_a_all_m6, .inl b_a_all_m6)), ((am 4), .inr (8, [.ref a_all_m4, .int size_m4])), (a_all_m4, .inl (cI, n_a_all_m4, .inl b_a_all_m4)), ((am 22), .inr (8, [.ref a_all_m22, .int size_m22])), (q811, .inl (cI, r809, .inl r810)), (a_all_m21, .inl (cI, n_a_all_m21, .inl b_a_all_m21)), (a_all_m22, .inl (cI, n_a_all_m22, .inl b_a_all_m22))]) hr (zb_n zb0) d_Mo_readStatement_561 [10, 12, 13, 11, 14, 0, 2, 3, 4, 5, 6, 7, 8, 15, 1, 9] rfl (by decide) ⟨q811, a_all_m21, a_all_m22, rfl, zb0, rfl⟩
                                                                                · replace h := it_f c818 h
                                                                                  refine j_aload_n d_Mo_readStatement_547 rfl 1 rfl ?_
                                                                                  refine j_bipush (v := 55) d_Mo_readStatement_548 (by decide) ?_
                                                                                  replace h := bd_s h
                                                                                  obtain ⟨⟨r819, r820, r821⟩, k823, h⟩ := h
                                                                                  refine j_callV (n := 1) (As := [.int 55]) (rest := []) (wr := [((am 21), .inr (8, [.ref a_all_m21, .int size_m21])), (a_all_m21, .inl (cI, n_a_all_m21, .inl b_a_all_m21)), ((am 7), .inr (8, [.ref a_all_m7, .int size_m7])), (a_all_m7, .inl (cI, n_a_all_m7, .inl b_a_all_m7)), ((am 6), .inr (8, [.ref a_all_m6, .int size_m6])), (a_all_m6, .inl (cI, n_a_all_m6, .inl b_a_all_m6)), ((am 4), .inr (8, [.ref a_all_m4, .int size_m4])), (a_all_m4, .inl (cI, n_a_all_m4, .inl b_a_all_m4)), ((am 22), .inr (8, [.ref a_all_m22, .int size_m22])), (a_all_m22, .inl (cI, n_a_all_m22, .inl b_a_all_m22)), ((am 20), .inr (8, [.ref q811, .int r808])), ((am 2), .inl (cI, n_m2, .inl b_m2)), (q811, .inl (cI, r809, .inl r810))]) (c_Mo_take l D cI cB cJ cS h0 am a_all_m5 55 known_h0 thrown_h0 wrong_h0 lastEnd_h0 r805 r806 r807 least_h0 found_h0 size_m5 n_a_all_m5 b_a_all_m5  r819 r820 r821 k823) k_Mo_285 (by decide) ⟨Nat.le_of_ble_eq_true rfl, Nat.le_of_ble_eq_true rfl⟩ rfl 0 rfl [10, 12, 13] [0, 1, 2, 3, 4, 5, 6, 7, 8, 9, 11, 14, 15] rfl (by decide +kernel) rfl (by decide +kernel) (by decide +kernel) rfl rfl (Nat.le_of_ble_eq_true rfl) d_Mo_readStatement_550 ⟨show 0 + C813 + 0 ≤ mc by omega, show 0 + S814 + 0 ≤ ms by omega⟩ (fun v w hq => ?_)
                                                                                  obtain ⟨rfl, z822, rfl⟩ := hq
                                                                                  refine j_norm (pc' := 553) (st' := [.int r819]) (ws' := [((am 21), .inr (8, [.ref a_all_m21, .int size_m21])), (a_all_m21, .inl (cI, n_a_all_m21, .inl b_a_all_m21)), ((am 7), .inr (8, [.ref a_all_m7, .int size_m7])), (a_all_m7, .inl (cI, n_a_all_m7, .inl b_a_all_m7)), ((am 6), .inr (8, [.ref a_all_m6, .int size_m6])), (a_all_m6, .inl (cI, n_a_all_m6, .inl b_a_all_m6)), ((am 4), .inr (8, [.ref a_all_m4, .int size_m4])), (a_all_m4, .inl (cI, n_a_all_m4, .inl b_a_all_m4)), ((am 22), .inr (8, [.ref a_all_m22, .int size_m22])), (a_all_m22, .inl (cI, n_a_all_m22, .inl b_a_all_m22)), ((am 20), .inr (8, [.ref q811, .int r808])), ((am 2), .inl (cI, n_m2, .inl b_m2)), (q811, .inl (cI, r809, .inl r810)), (h0, .inr (9, moF am known_h0 thrown_h0 wrong_h0 lastEnd_h0 r820 r821 r807 least_h0 found_h0)), ((am 5), .inr (8, [.ref a_all_m5, .int size_m5])), (a_all_m5, .inl (cI, n_a_all_m5, .inl b_a_all_m5))]) (cl' := 0 + C813) (sl' := 0 + S814) rfl rfl rfl rfl rfl rfl ?_
                                                                                  refine j_if_eq (tgt := 560) d_Mo_readStatement_553 (by decide) (fun c824 => ?_) (fun c824 => ?_)
                                                                                  · replace h := it_t c824 h
                                                                                    refine j_iconst (v := 0) d_Mo_readStatement_560 (by decide) ?_
                                                                                    replace h := lf_s h
                                                                                    obtain ⟨h, e1, e2⟩ := h
                                                                                    replace h := Prod.mk.inj h
                                                                                    obtain ⟨h9, h⟩ := h
                                                                                    subst h9
                                                                                    replace h := Prod.mk.inj h
                                                                                    obtain ⟨h9, h⟩ := h
                                                                                    subst h9
                                                                                    replace h := Prod.mk.inj h
                                                                                    obtain ⟨h9, h⟩ := h
                                                                                    subst h9
                                                                                    replace h := Prod.mk.inj h
                                                                                    obtain ⟨h9, h⟩ := h
                                                                                    subst h9
                                                                                    replace h := Prod.mk.inj h
                                                                                    obtain ⟨h9, h⟩ := h
                                                                                    subst h9
                                                                                    replace h := Prod.mk.inj h
                                                                                    obtain ⟨h9, h⟩ := h
                                                                                    subst h9
                                                                                    replace h := Prod.mk.inj h
                                                                                    obtain ⟨h9, h⟩ := h
                                                                                    subst h9
                                                                                    replace h := Prod.mk.inj h
                                                                                    obtain ⟨h9, h⟩ := h
                                                                                    subst h9
                                                                                    replace h := Prod.mk.inj h
                                                                                    obtain ⟨h9, h⟩ := h
                                                                                    subst h9
                                                                                    replace h := Prod.mk.inj h
                                                                                    obtain ⟨h9, h⟩ := h
                                                                                    subst h9
                                                                                    replace h := Prod.mk.inj h
                                                                                    obtain ⟨h9, h⟩ := h
                                                                                    subst h9
                                                                                    replace h := Prod.mk.inj h
                                                                                    obtain ⟨h9, h⟩ := h
                                                                                    subst h9
                                                                                    replace h := Prod.mk.inj h
                                                                                    obtain ⟨h9, h⟩ := h
                                                                                    subst h9
                                                                                    subst h
                                                                                    refine j_widen (cl' := mc) (sl' := ms) (by omega) (by omega) ?_
                                                                                    exact j_zret (w := [(h0, .inr (9, moF am known_h0 thrown_h0 wrong_h0 lastEnd_h0 r820 r821 r807 least_h0 found_h0)), ((am 5), .inr (8, [.ref a_all_m5, .int size_m5])), (a_all_m5, .inl (cI, n_a_all_m5, .inl b_a_all_m5)), ((am 20), .inr (8, [.ref q811, .int r808])), ((am 2), .inl (cI, n_m2, .inl b_m2)), ((am 21), .inr (8, [.ref a_all_m21, .int size_m21])), ((am 7), .inr (8, [.ref a_all_m7, .int size_m7])), (a_all_m7, .inl (cI, n_a_all_m7, .inl b_a_all_m7)), ((am 6), .inr (8, [.ref a_all_m6, .int size_m6])), (a_all_m6, .inl (cI, n_a_all_m6, .inl b_a_all_m6)), ((am 4), .inr (8, [.ref a_all_m4, .int size_m4])), (a_all_m4, .inl (cI, n_a_all_m4, .inl b_a_all_m4)), ((am 22), .inr (8, [.ref a_all_m22, .int size_m22])), (q811, .inl (cI, r809, .inl r810)), (a_all_m21, .inl (cI, n_a_all_m21, .inl b_a_all_m21)), (a_all_m22, .inl (cI, n_a_all_m22, .inl b_a_all_m22))]) hr (zb_n zb0) d_Mo_readStatement_561 [13, 14, 15, 10, 11, 0, 2, 3, 4, 5, 6, 7, 8, 12, 1, 9] rfl (by decide) ⟨q811, a_all_m21, a_all_m22, rfl, zb0, rfl⟩
                                                                                  · replace h := it_f c824 h
                                                                                    refine j_iconst (v := 1) d_Mo_readStatement_556 (by decide) ?_
                                                                                    refine j_goto (tgt := 561) d_Mo_readStatement_557 (by decide) ?_
                                                                                    replace h := lf_s h
                                                                                    obtain ⟨h, e1, e2⟩ := h
                                                                                    replace h := Prod.mk.inj h
                                                                                    obtain ⟨h9, h⟩ := h
                                                                                    subst h9
                                                                                    replace h := Prod.mk.inj h
                                                                                    obtain ⟨h9, h⟩ := h
                                                                                    subst h9
                                                                                    replace h := Prod.mk.inj h
                                                                                    obtain ⟨h9, h⟩ := h
                                                                                    subst h9
                                                                                    replace h := Prod.mk.inj h
                                                                                    obtain ⟨h9, h⟩ := h
                                                                                    subst h9
                                                                                    replace h := Prod.mk.inj h
                                                                                    obtain ⟨h9, h⟩ := h
                                                                                    subst h9
                                                                                    replace h := Prod.mk.inj h
                                                                                    obtain ⟨h9, h⟩ := h
                                                                                    subst h9
                                                                                    replace h := Prod.mk.inj h
                                                                                    obtain ⟨h9, h⟩ := h
                                                                                    subst h9
                                                                                    replace h := Prod.mk.inj h
                                                                                    obtain ⟨h9, h⟩ := h
                                                                                    subst h9
                                                                                    replace h := Prod.mk.inj h
                                                                                    obtain ⟨h9, h⟩ := h
                                                                                    subst h9
                                                                                    replace h := Prod.mk.inj h
                                                                                    obtain ⟨h9, h⟩ := h
                                                                                    subst h9
                                                                                    replace h := Prod.mk.inj h
                                                                                    obtain ⟨h9, h⟩ := h
                                                                                    subst h9
                                                                                    replace h := Prod.mk.inj h
                                                                                    obtain ⟨h9, h⟩ := h
                                                                                    subst h9
                                                                                    replace h := Prod.mk.inj h
                                                                                    obtain ⟨h9, h⟩ := h
                                                                                    subst h9
                                                                                    subst h
                                                                                    refine j_widen (cl' := mc) (sl' := ms) (by omega) (by omega) ?_
                                                                                    exact j_zret (w := [(h0, .inr (9, moF am known_h0 thrown_h0 wrong_h0 lastEnd_h0 r820 r821 r807 least_h0 found_h0)), ((am 5), .inr (8, [.ref a_all_m5, .int size_m5])), (a_all_m5, .inl (cI, n_a_all_m5, .inl b_a_all_m5)), ((am 20), .inr (8, [.ref q811, .int r808])), ((am 2), .inl (cI, n_m2, .inl b_m2)), ((am 21), .inr (8, [.ref a_all_m21, .int size_m21])), ((am 7), .inr (8, [.ref a_all_m7, .int size_m7])), (a_all_m7, .inl (cI, n_a_all_m7, .inl b_a_all_m7)), ((am 6), .inr (8, [.ref a_all_m6, .int size_m6])), (a_all_m6, .inl (cI, n_a_all_m6, .inl b_a_all_m6)), ((am 4), .inr (8, [.ref a_all_m4, .int size_m4])), (a_all_m4, .inl (cI, n_a_all_m4, .inl b_a_all_m4)), ((am 22), .inr (8, [.ref a_all_m22, .int size_m22])), (q811, .inl (cI, r809, .inl r810)), (a_all_m21, .inl (cI, n_a_all_m21, .inl b_a_all_m21)), (a_all_m22, .inl (cI, n_a_all_m22, .inl b_a_all_m22))]) hr (zb_n zb1) d_Mo_readStatement_561 [13, 14, 15, 10, 11, 0, 2, 3, 4, 5, 6, 7, 8, 12, 1, 9] rfl (by decide) ⟨q811, a_all_m21, a_all_m22, rfl, zb1, rfl⟩
                                                                              · replace h := it_f c803 h
                                                                                by_cases c825 : (b_a_all_m5 (Int32.toNatClampNeg at_h0)) = 49
                                                                                · replace h := it_t c825 h
                                                                                  refine j_tabIn (tgt := 540) (off := 534) d_Mo_readStatement_6 49 c825 (by decide) (by decide) (by decide) (by decide) ?_
                                                                                  refine j_aload_n d_Mo_readStatement_540 rfl 1 rfl ?_
                                                                                  replace h := bw_s h
                                                                                  obtain ⟨⟨r826, r827, r828, r829, r830, r831, r832⟩, C835, S836, C837, S838, k839, h, e1, e2⟩ := h
                                                                                  replace hC : 0 + C835 + C837 ≤ mc := by omega
                                                                                  replace hS : 0 + S836 + S838 ≤ ms := by omega
                                                                                  clear e1 e2
                                                                                  refine j_callV (n := 0) (As := []) (rest := []) (wr := [((am 21), .inr (8, [.ref a_all_m21, .int size_m21])), (a_all_m21, .inl (cI, n_a_all_m21, .inl b_a_all_m21)), ((am 7), .inr (8, [.ref a_all_m7, .int size_m7])), (a_all_m7, .inl (cI, n_a_all_m7, .inl b_a_all_m7)), ((am 6), .inr (8, [.ref a_all_m6, .int size_m6])), (a_all_m6, .inl (cI, n_a_all_m6, .inl b_a_all_m6)), ((am 4), .inr (8, [.ref a_all_m4, .int size_m4])), (a_all_m4, .inl (cI, n_a_all_m4, .inl b_a_all_m4)), ((am 22), .inr (8, [.ref a_all_m22, .int size_m22])), (a_all_m22, .inl (cI, n_a_all_m22, .inl b_a_all_m22))]) (c_Mo_readWorking l D cI cB cJ cS h0 am a_all_m20 a_all_m5 known_h0 thrown_h0 wrong_h0 lastEnd_h0 at_h0 bad_h0 levels_h0 least_h0 found_h0 size_m20 size_m5 n_a_all_m5 b_a_all_m5 n_a_all_m20 b_a_all_m20 n_m2 b_m2  r826 r827 r828 r829 r830 r831 r832 C835 S836 k839) k_Mo_362 (by decide) ⟨Nat.le_of_ble_eq_true rfl, Nat.le_of_ble_eq_true rfl⟩ rfl 0 rfl [13, 0, 14, 15, 1, 2] [3, 4, 5, 6, 7, 8, 9, 10, 11, 12] rfl (by decide +kernel) rfl (by decide +kernel) (by decide +kernel) rfl rfl (Nat.le_of_ble_eq_true rfl) d_Mo_readStatement_541 ⟨show 0 + C835 ≤ mc by omega, show 0 + S836 ≤ ms by omega⟩ (fun v w hq => ?_)
                                                                                  obtain ⟨q833, rfl, z834, rfl⟩ := hq
                                                                                  refine j_norm (pc' := 544) (st' := [.int r826]) (ws' := [((am 21), .inr (8, [.ref a_all_m21, .int size_m21])), (a_all_m21, .inl (cI, n_a_all_m21, .inl b_a_all_m21)), ((am 7), .inr (8, [.ref a_all_m7, .int size_m7])), (a_all_m7, .inl (cI, n_a_all_m7, .inl b_a_all_m7)), ((am 6), .inr (8, [.ref a_all_m6, .int size_m6])), (a_all_m6, .inl (cI, n_a_all_m6, .inl b_a_all_m6)), ((am 4), .inr (8, [.ref a_all_m4, .int size_m4])), (a_all_m4, .inl (cI, n_a_all_m4, .inl b_a_all_m4)), ((am 22), .inr (8, [.ref a_all_m22, .int size_m22])), (a_all_m22, .inl (cI, n_a_all_m22, .inl b_a_all_m22)), (h0, .inr (9, moF am known_h0 thrown_h0 wrong_h0 lastEnd_h0 r827 r828 r829 least_h0 found_h0)), ((am 20), .inr (8, [.ref q833, .int r830])), ((am 5), .inr (8, [.ref a_all_m5, .int size_m5])), (a_all_m5, .inl (cI, n_a_all_m5, .inl b_a_all_m5)), ((am 2), .inl (cI, n_m2, .inl b_m2)), (q833, .inl (cI, r831, .inl r832))]) (cl' := 0 + C835) (sl' := 0 + S836) rfl rfl rfl rfl rfl rfl ?_
                                                                                  refine j_if_eq (tgt := 560) d_Mo_readStatement_544 (by decide) (fun c840 => ?_) (fun c840 => ?_)
                                                                                  · replace h := it_t c840 h
                                                                                    refine j_iconst (v := 0) d_Mo_readStatement_560 (by decide) ?_
                                                                                    replace h := lf_s h
                                                                                    obtain ⟨h, e1, e2⟩ := h
                                                                                    replace h := Prod.mk.inj h
                                                                                    obtain ⟨h9, h⟩ := h
                                                                                    subst h9
                                                                                    replace h := Prod.mk.inj h
                                                                                    obtain ⟨h9, h⟩ := h
                                                                                    subst h9
                                                                                    replace h := Prod.mk.inj h
                                                                                    obtain ⟨h9, h⟩ := h
                                                                                    subst h9
                                                                                    replace h := Prod.mk.inj h
                                                                                    obtain ⟨h9, h⟩ := h
                                                                                    subst h9
                                                                                    replace h := Prod.mk.inj h
                                                                                    obtain ⟨h9, h⟩ := h
                                                                                    subst h9
                                                                                    replace h := Prod.mk.inj h
                                                                                    obtain ⟨h9, h⟩ := h
                                                                                    subst h9
                                                                                    replace h := Prod.mk.inj h
                                                                                    obtain ⟨h9, h⟩ := h
                                                                                    subst h9
                                                                                    replace h := Prod.mk.inj h
                                                                                    obtain ⟨h9, h⟩ := h
                                                                                    subst h9
                                                                                    replace h := Prod.mk.inj h
                                                                                    obtain ⟨h9, h⟩ := h
                                                                                    subst h9
                                                                                    replace h := Prod.mk.inj h
                                                                                    obtain ⟨h9, h⟩ := h
                                                                                    subst h9
                                                                                    replace h := Prod.mk.inj h
                                                                                    obtain ⟨h9, h⟩ := h
                                                                                    subst h9
                                                                                    replace h := Prod.mk.inj h
                                                                                    obtain ⟨h9, h⟩ := h
                                                                                    subst h9
                                                                                    replace h := Prod.mk.inj h
                                                                                    obtain ⟨h9, h⟩ := h
                                                                                    subst h9
                                                                                    subst h
                                                                                    refine j_widen (cl' := mc) (sl' := ms) (by omega) (by omega) ?_
                                                                                    exact j_zret (w := [(h0, .inr (9, moF am known_h0 thrown_h0 wrong_h0 lastEnd_h0 r827 r828 r829 least_h0 found_h0)), ((am 5), .inr (8, [.ref a_all_m5, .int size_m5])), (a_all_m5, .inl (cI, n_a_all_m5, .inl b_a_all_m5)), ((am 20), .inr (8, [.ref q833, .int r830])), ((am 2), .inl (cI, n_m2, .inl b_m2)), ((am 21), .inr (8, [.ref a_all_m21, .int size_m21])), ((am 7), .inr (8, [.ref a_all_m7, .int size_m7])), (a_all_m7, .inl (cI, n_a_all_m7, .inl b_a_all_m7)), ((am 6), .inr (8, [.ref a_all_m6, .int size_m6])), (a_all_m6, .inl (cI, n_a_all_m6, .inl b_a_all_m6)), ((am 4), .inr (8, [.ref a_all_m4, .int size_m4])), (a_all_m4, .inl (cI, n_a_all_m4, .inl b_a_all_m4)), ((am 22), .inr (8, [.ref a_all_m22, .int size_m22])), (q833, .inl (cI, r831, .inl r832)), (a_all_m21, .inl (cI, n_a_all_m21, .inl b_a_all_m21)), (a_all_m22, .inl (cI, n_a_all_m22, .inl b_a_all_m22))]) hr (zb_n zb0) d_Mo_readStatement_561 [10, 12, 13, 11, 14, 0, 2, 3, 4, 5, 6, 7, 8, 15, 1, 9] rfl (by decide) ⟨q833, a_all_m21, a_all_m22, rfl, zb0, rfl⟩
                                                                                  · replace h := it_f c840 h
                                                                                    refine j_aload_n d_Mo_readStatement_547 rfl 1 rfl ?_
                                                                                    refine j_bipush (v := 55) d_Mo_readStatement_548 (by decide) ?_
                                                                                    replace h := bd_s h
                                                                                    obtain ⟨⟨r841, r842, r843⟩, k845, h⟩ := h
                                                                                    refine j_callV (n := 1) (As := [.int 55]) (rest := []) (wr := [((am 21), .inr (8, [.ref a_all_m21, .int size_m21])), (a_all_m21, .inl (cI, n_a_all_m21, .inl b_a_all_m21)), ((am 7), .inr (8, [.ref a_all_m7, .int size_m7])), (a_all_m7, .inl (cI, n_a_all_m7, .inl b_a_all_m7)), ((am 6), .inr (8, [.ref a_all_m6, .int size_m6])), (a_all_m6, .inl (cI, n_a_all_m6, .inl b_a_all_m6)), ((am 4), .inr (8, [.ref a_all_m4, .int size_m4])), (a_all_m4, .inl (cI, n_a_all_m4, .inl b_a_all_m4)), ((am 22), .inr (8, [.ref a_all_m22, .int size_m22])), (a_all_m22, .inl (cI, n_a_all_m22, .inl b_a_all_m22)), ((am 20), .inr (8, [.ref q833, .int r830])), ((am 2), .inl (cI, n_m2, .inl b_m2)), (q833, .inl (cI, r831, .inl r832))]) (c_Mo_take l D cI cB cJ cS h0 am a_all_m5 55 known_h0 thrown_h0 wrong_h0 lastEnd_h0 r827 r828 r829 least_h0 found_h0 size_m5 n_a_all_m5 b_a_all_m5  r841 r842 r843 k845) k_Mo_285 (by decide) ⟨Nat.le_of_ble_eq_true rfl, Nat.le_of_ble_eq_true rfl⟩ rfl 0 rfl [10, 12, 13] [0, 1, 2, 3, 4, 5, 6, 7, 8, 9, 11, 14, 15] rfl (by decide +kernel) rfl (by decide +kernel) (by decide +kernel) rfl rfl (Nat.le_of_ble_eq_true rfl) d_Mo_readStatement_550 ⟨show 0 + C835 + 0 ≤ mc by omega, show 0 + S836 + 0 ≤ ms by omega⟩ (fun v w hq => ?_)
                                                                                    obtain ⟨rfl, z844, rfl⟩ := hq
                                                                                    refine j_norm (pc' := 553) (st' := [.int r841]) (ws' := [((am 21), .inr (8, [.ref a_all_m21, .int size_m21])), (a_all_m21, .inl (cI, n_a_all_m21, .inl b_a_all_m21)), ((am 7), .inr (8, [.ref a_all_m7, .int size_m7])), (a_all_m7, .inl (cI, n_a_all_m7, .inl b_a_all_m7)), ((am 6), .inr (8, [.ref a_all_m6, .int size_m6])), (a_all_m6, .inl (cI, n_a_all_m6, .inl b_a_all_m6)), ((am 4), .inr (8, [.ref a_all_m4, .int size_m4])), (a_all_m4, .inl (cI, n_a_all_m4, .inl b_a_all_m4)), ((am 22), .inr (8, [.ref a_all_m22, .int size_m22])), (a_all_m22, .inl (cI, n_a_all_m22, .inl b_a_all_m22)), ((am 20), .inr (8, [.ref q833, .int r830])), ((am 2), .inl (cI, n_m2, .inl b_m2)), (q833, .inl (cI, r831, .inl r832)), (h0, .inr (9, moF am known_h0 thrown_h0 wrong_h0 lastEnd_h0 r842 r843 r829 least_h0 found_h0)), ((am 5), .inr (8, [.ref a_all_m5, .int size_m5])), (a_all_m5, .inl (cI, n_a_all_m5, .inl b_a_all_m5))]) (cl' := 0 + C835) (sl' := 0 + S836) rfl rfl rfl rfl rfl rfl ?_
                                                                                    refine j_if_eq (tgt := 560) d_Mo_readStatement_553 (by decide) (fun c846 => ?_) (fun c846 => ?_)
                                                                                    · replace h := it_t c846 h
                                                                                      refine j_iconst (v := 0) d_Mo_readStatement_560 (by decide) ?_
                                                                                      replace h := lf_s h
                                                                                      obtain ⟨h, e1, e2⟩ := h
                                                                                      replace h := Prod.mk.inj h
                                                                                      obtain ⟨h9, h⟩ := h
                                                                                      subst h9
                                                                                      replace h := Prod.mk.inj h
                                                                                      obtain ⟨h9, h⟩ := h
                                                                                      subst h9
                                                                                      replace h := Prod.mk.inj h
                                                                                      obtain ⟨h9, h⟩ := h
                                                                                      subst h9
                                                                                      replace h := Prod.mk.inj h
                                                                                      obtain ⟨h9, h⟩ := h
                                                                                      subst h9
                                                                                      replace h := Prod.mk.inj h
                                                                                      obtain ⟨h9, h⟩ := h
                                                                                      subst h9
                                                                                      replace h := Prod.mk.inj h
                                                                                      obtain ⟨h9, h⟩ := h
                                                                                      subst h9
                                                                                      replace h := Prod.mk.inj h
                                                                                      obtain ⟨h9, h⟩ := h
                                                                                      subst h9
                                                                                      replace h := Prod.mk.inj h
                                                                                      obtain ⟨h9, h⟩ := h
                                                                                      subst h9
                                                                                      replace h := Prod.mk.inj h
                                                                                      obtain ⟨h9, h⟩ := h
                                                                                      subst h9
                                                                                      replace h := Prod.mk.inj h
                                                                                      obtain ⟨h9, h⟩ := h
                                                                                      subst h9
                                                                                      replace h := Prod.mk.inj h
                                                                                      obtain ⟨h9, h⟩ := h
                                                                                      subst h9
                                                                                      replace h := Prod.mk.inj h
                                                                                      obtain ⟨h9, h⟩ := h
                                                                                      subst h9
                                                                                      replace h := Prod.mk.inj h
                                                                                      obtain ⟨h9, h⟩ := h
                                                                                      subst h9
                                                                                      subst h
                                                                                      refine j_widen (cl' := mc) (sl' := ms) (by omega) (by omega) ?_
                                                                                      exact j_zret (w := [(h0, .inr (9, moF am known_h0 thrown_h0 wrong_h0 lastEnd_h0 r842 r843 r829 least_h0 found_h0)), ((am 5), .inr (8, [.ref a_all_m5, .int size_m5])), (a_all_m5, .inl (cI, n_a_all_m5, .inl b_a_all_m5)), ((am 20), .inr (8, [.ref q833, .int r830])), ((am 2), .inl (cI, n_m2, .inl b_m2)), ((am 21), .inr (8, [.ref a_all_m21, .int size_m21])), ((am 7), .inr (8, [.ref a_all_m7, .int size_m7])), (a_all_m7, .inl (cI, n_a_all_m7, .inl b_a_all_m7)), ((am 6), .inr (8, [.ref a_all_m6, .int size_m6])), (a_all_m6, .inl (cI, n_a_all_m6, .inl b_a_all_m6)), ((am 4), .inr (8, [.ref a_all_m4, .int size_m4])), (a_all_m4, .inl (cI, n_a_all_m4, .inl b_a_all_m4)), ((am 22), .inr (8, [.ref a_all_m22, .int size_m22])), (q833, .inl (cI, r831, .inl r832)), (a_all_m21, .inl (cI, n_a_all_m21, .inl b_a_all_m21)), (a_all_m22, .inl (cI, n_a_all_m22, .inl b_a_all_m22))]) hr (zb_n zb0) d_Mo_readStatement_561 [13, 14, 15, 10, 11, 0, 2, 3, 4, 5, 6, 7, 8, 12, 1, 9] rfl (by decide) ⟨q833, a_all_m21, a_all_m22, rfl, zb0, rfl⟩
                                                                                    · replace h := it_f c846 h
                                                                                      refine j_iconst (v := 1) d_Mo_readStatement_556 (by decide) ?_
                                                                                      refine j_goto (tgt := 561) d_Mo_readStatement_557 (by decide) ?_
                                                                                      replace h := lf_s h
                                                                                      obtain ⟨h, e1, e2⟩ := h
                                                                                      replace h := Prod.mk.inj h
                                                                                      obtain ⟨h9, h⟩ := h
                                                                                      subst h9
                                                                                      replace h := Prod.mk.inj h
                                                                                      obtain ⟨h9, h⟩ := h
                                                                                      subst h9
                                                                                      replace h := Prod.mk.inj h
                                                                                      obtain ⟨h9, h⟩ := h
                                                                                      subst h9
                                                                                      replace h := Prod.mk.inj h
                                                                                      obtain ⟨h9, h⟩ := h
                                                                                      subst h9
                                                                                      replace h := Prod.mk.inj h
                                                                                      obtain ⟨h9, h⟩ := h
                                                                                      subst h9
                                                                                      replace h := Prod.mk.inj h
                                                                                      obtain ⟨h9, h⟩ := h
                                                                                      subst h9
                                                                                      replace h := Prod.mk.inj h
                                                                                      obtain ⟨h9, h⟩ := h
                                                                                      subst h9
                                                                                      replace h := Prod.mk.inj h
                                                                                      obtain ⟨h9, h⟩ := h
                                                                                      subst h9
                                                                                      replace h := Prod.mk.inj h
                                                                                      obtain ⟨h9, h⟩ := h
                                                                                      subst h9
                                                                                      replace h := Prod.mk.inj h
                                                                                      obtain ⟨h9, h⟩ := h
                                                                                      subst h9
                                                                                      replace h := Prod.mk.inj h
                                                                                      obtain ⟨h9, h⟩ := h
                                                                                      subst h9
                                                                                      replace h := Prod.mk.inj h
                                                                                      obtain ⟨h9, h⟩ := h
                                                                                      subst h9
                                                                                      replace h := Prod.mk.inj h
                                                                                      obtain ⟨h9, h⟩ := h
                                                                                      subst h9
                                                                                      subst h
                                                                                      refine j_widen (cl' := mc) (sl' := ms) (by omega) (by omega) ?_
                                                                                      exact j_zret (w := [(h0, .inr (9, moF am known_h0 thrown_h0 wrong_h0 lastEnd_h0 r842 r843 r829 least_h0 found_h0)), ((am 5), .inr (8, [.ref a_all_m5, .int size_m5])), (a_all_m5, .inl (cI, n_a_all_m5, .inl b_a_all_m5)), ((am 20), .inr (8, [.ref q833, .int r830])), ((am 2), .inl (cI, n_m2, .inl b_m2)), ((am 21), .inr (8, [.ref a_all_m21, .int size_m21])), ((am 7), .inr (8, [.ref a_all_m7, .int size_m7])), (a_all_m7, .inl (cI, n_a_all_m7, .inl b_a_all_m7)), ((am 6), .inr (8, [.ref a_all_m6, .int size_m6])), (a_all_m6, .inl (cI, n_a_all_m6, .inl b_a_all_m6)), ((am 4), .inr (8, [.ref a_all_m4, .int size_m4])), (a_all_m4, .inl (cI, n_a_all_m4, .inl b_a_all_m4)), ((am 22), .inr (8, [.ref a_all_m22, .int size_m22])), (q833, .inl (cI, r831, .inl r832)), (a_all_m21, .inl (cI, n_a_all_m21, .inl b_a_all_m21)), (a_all_m22, .inl (cI, n_a_all_m22, .inl b_a_all_m22))]) hr (zb_n zb1) d_Mo_readStatement_561 [13, 14, 15, 10, 11, 0, 2, 3, 4, 5, 6, 7, 8, 12, 1, 9] rfl (by decide) ⟨q833, a_all_m21, a_all_m22, rfl, zb1, rfl⟩
                                                                                · replace h := it_f c825 h
                                                                                  by_cases c847 : (b_a_all_m5 (Int32.toNatClampNeg at_h0)) = 50
                                                                                  · replace h := it_t c847 h
                                                                                    refine j_tabIn (tgt := 540) (off := 534) d_Mo_readStatement_6 50 c847 (by decide) (by decide) (by decide) (by decide) ?_
                                                                                    refine j_aload_n d_Mo_readStatement_540 rfl 1 rfl ?_
                                                                                    replace h := bw_s h
                                                                                    obtain ⟨⟨r848, r849, r850, r851, r852, r853, r854⟩, C857, S858, C859, S860, k861, h, e1, e2⟩ := h
                                                                                    replace hC : 0 + C857 + C859 ≤ mc := by omega
                                                                                    replace hS : 0 + S858 + S860 ≤ ms := by omega
                                                                                    clear e1 e2
                                                                                    refine j_callV (n := 0) (As := []) (rest := []) (wr := [((am 21), .inr (8, [.ref a_all_m21, .int size_m21])), (a_all_m21, .inl (cI, n_a_all_m21, .inl b_a_all_m21)), ((am 7), .inr (8, [.ref a_all_m7, .int size_m7])), (a_all_m7, .inl (cI, n_a_all_m7, .inl b_a_all_m7)), ((am 6), .inr (8, [.ref a_all_m6, .int size_m6])), (a_all_m6, .inl (cI, n_a_all_m6, .inl b_a_all_m6)), ((am 4), .inr (8, [.ref a_all_m4, .int size_m4])), (a_all_m4, .inl (cI, n_a_all_m4, .inl b_a_all_m4)), ((am 22), .inr (8, [.ref a_all_m22, .int size_m22])), (a_all_m22, .inl (cI, n_a_all_m22, .inl b_a_all_m22))]) (c_Mo_readWorking l D cI cB cJ cS h0 am a_all_m20 a_all_m5 known_h0 thrown_h0 wrong_h0 lastEnd_h0 at_h0 bad_h0 levels_h0 least_h0 found_h0 size_m20 size_m5 n_a_all_m5 b_a_all_m5 n_a_all_m20 b_a_all_m20 n_m2 b_m2  r848 r849 r850 r851 r852 r853 r854 C857 S858 k861) k_Mo_362 (by decide) ⟨Nat.le_of_ble_eq_true rfl, Nat.le_of_ble_eq_true rfl⟩ rfl 0 rfl [13, 0, 14, 15, 1, 2] [3, 4, 5, 6, 7, 8, 9, 10, 11, 12] rfl (by decide +kernel) rfl (by decide +kernel) (by decide +kernel) rfl rfl (Nat.le_of_ble_eq_true rfl) d_Mo_readStatement_541 ⟨show 0 + C857 ≤ mc by omega, show 0 + S858 ≤ ms by omega⟩ (fun v w hq => ?_)
                                                                                    obtain ⟨q855, rfl, z856, rfl⟩ := hq
                                                                                    refine j_norm (pc' := 544) (st' := [.int r848]) (ws' := [((am 21), .inr (8, [.ref a_all_m21, .int size_m21])), (a_all_m21, .inl (cI, n_a_all_m21, .inl b_a_all_m21)), ((am 7), .inr (8, [.ref a_all_m7, .int size_m7])), (a_all_m7, .inl (cI, n_a_all_m7, .inl b_a_all_m7)), ((am 6), .inr (8, [.ref a_all_m6, .int size_m6])), (a_all_m6, .inl (cI, n_a_all_m6, .inl b_a_all_m6)), ((am 4), .inr (8, [.ref a_all_m4, .int size_m4])), (a_all_m4, .inl (cI, n_a_all_m4, .inl b_a_all_m4)), ((am 22), .inr (8, [.ref a_all_m22, .int size_m22])), (a_all_m22, .inl (cI, n_a_all_m22, .inl b_a_all_m22)), (h0, .inr (9, moF am known_h0 thrown_h0 wrong_h0 lastEnd_h0 r849 r850 r851 least_h0 found_h0)), ((am 20), .inr (8, [.ref q855, .int r852])), ((am 5), .inr (8, [.ref a_all_m5, .int size_m5])), (a_all_m5, .inl (cI, n_a_all_m5, .inl b_a_all_m5)), ((am 2), .inl (cI, n_m2, .inl b_m2)), (q855, .inl (cI, r853, .inl r854))]) (cl' := 0 + C857) (sl' := 0 + S858) rfl rfl rfl rfl rfl rfl ?_
                                                                                    refine j_if_eq (tgt := 560) d_Mo_readStatement_544 (by decide) (fun c862 => ?_) (fun c862 => ?_)
                                                                                    · replace h := it_t c862 h
                                                                                      refine j_iconst (v := 0) d_Mo_readStatement_560 (by decide) ?_
                                                                                      replace h := lf_s h
                                                                                      obtain ⟨h, e1, e2⟩ := h
                                                                                      replace h := Prod.mk.inj h
                                                                                      obtain ⟨h9, h⟩ := h
                                                                                      subst h9
                                                                                      replace h := Prod.mk.inj h
                                                                                      obtain ⟨h9, h⟩ := h
                                                                                      subst h9
                                                                                      replace h := Prod.mk.inj h
                                                                                      obtain ⟨h9, h⟩ := h
                                                                                      subst h9
                                                                                      replace h := Prod.mk.inj h
                                                                                      obtain ⟨h9, h⟩ := h
                                                                                      subst h9
                                                                                      replace h := Prod.mk.inj h
                                                                                      obtain ⟨h9, h⟩ := h
                                                                                      subst h9
                                                                                      replace h := Prod.mk.inj h
                                                                                      obtain ⟨h9, h⟩ := h
                                                                                      subst h9
                                                                                      replace h := Prod.mk.inj h
                                                                                      obtain ⟨h9, h⟩ := h
                                                                                      subst h9
                                                                                      replace h := Prod.mk.inj h
                                                                                      obtain ⟨h9, h⟩ := h
                                                                                      subst h9
                                                                                      replace h := Prod.mk.inj h
                                                                                      obtain ⟨h9, h⟩ := h
                                                                                      subst h9
                                                                                      replace h := Prod.mk.inj h
                                                                                      obtain ⟨h9, h⟩ := h
                                                                                      subst h9
                                                                                      replace h := Prod.mk.inj h
                                                                                      obtain ⟨h9, h⟩ := h
                                                                                      subst h9
                                                                                      replace h := Prod.mk.inj h
                                                                                      obtain ⟨h9, h⟩ := h
                                                                                      subst h9
                                                                                      replace h := Prod.mk.inj h
                                                                                      obtain ⟨h9, h⟩ := h
                                                                                      subst h9
                                                                                      subst h
                                                                                      refine j_widen (cl' := mc) (sl' := ms) (by omega) (by omega) ?_
                                                                                      exact j_zret (w := [(h0, .inr (9, moF am known_h0 thrown_h0 wrong_h0 lastEnd_h0 r849 r850 r851 least_h0 found_h0)), ((am 5), .inr (8, [.ref a_all_m5, .int size_m5])), (a_all_m5, .inl (cI, n_a_all_m5, .inl b_a_all_m5)), ((am 20), .inr (8, [.ref q855, .int r852])), ((am 2), .inl (cI, n_m2, .inl b_m2)), ((am 21), .inr (8, [.ref a_all_m21, .int size_m21])), ((am 7), .inr (8, [.ref a_all_m7, .int size_m7])), (a_all_m7, .inl (cI, n_a_all_m7, .inl b_a_all_m7)), ((am 6), .inr (8, [.ref a_all_m6, .int size_m6])), (a_all_m6, .inl (cI, n_a_all_m6, .inl b_a_all_m6)), ((am 4), .inr (8, [.ref a_all_m4, .int size_m4])), (a_all_m4, .inl (cI, n_a_all_m4, .inl b_a_all_m4)), ((am 22), .inr (8, [.ref a_all_m22, .int size_m22])), (q855, .inl (cI, r853, .inl r854)), (a_all_m21, .inl (cI, n_a_all_m21, .inl b_a_all_m21)), (a_all_m22, .inl (cI, n_a_all_m22, .inl b_a_all_m22))]) hr (zb_n zb0) d_Mo_readStatement_561 [10, 12, 13, 11, 14, 0, 2, 3, 4, 5, 6, 7, 8, 15, 1, 9] rfl (by decide) ⟨q855, a_all_m21, a_all_m22, rfl, zb0, rfl⟩
                                                                                    · replace h := it_f c862 h
                                                                                      refine j_aload_n d_Mo_readStatement_547 rfl 1 rfl ?_
                                                                                      refine j_bipush (v := 55) d_Mo_readStatement_548 (by decide) ?_
                                                                                      replace h := bd_s h
                                                                                      obtain ⟨⟨r863, r864, r865⟩, k867, h⟩ := h
                                                                                      refine j_callV (n := 1) (As := [.int 55]) (rest := []) (wr := [((am 21), .inr (8, [.ref a_all_m21, .int size_m21])), (a_all_m21, .inl (cI, n_a_all_m21, .inl b_a_all_m21)), ((am 7), .inr (8, [.ref a_all_m7, .int size_m7])), (a_all_m7, .inl (cI, n_a_all_m7, .inl b_a_all_m7)), ((am 6), .inr (8, [.ref a_all_m6, .int size_m6])), (a_all_m6, .inl (cI, n_a_all_m6, .inl b_a_all_m6)), ((am 4), .inr (8, [.ref a_all_m4, .int size_m4])), (a_all_m4, .inl (cI, n_a_all_m4, .inl b_a_all_m4)), ((am 22), .inr (8, [.ref a_all_m22, .int size_m22])), (a_all_m22, .inl (cI, n_a_all_m22, .inl b_a_all_m22)), ((am 20), .inr (8, [.ref q855, .int r852])), ((am 2), .inl (cI, n_m2, .inl b_m2)), (q855, .inl (cI, r853, .inl r854))]) (c_Mo_take l D cI cB cJ cS h0 am a_all_m5 55 known_h0 thrown_h0 wrong_h0 lastEnd_h0 r849 r850 r851 least_h0 found_h0 size_m5 n_a_all_m5 b_a_all_m5  r863 r864 r865 k867) k_Mo_285 (by decide) ⟨Nat.le_of_ble_eq_true rfl, Nat.le_of_ble_eq_true rfl⟩ rfl 0 rfl [10, 12, 13] [0, 1, 2, 3, 4, 5, 6, 7, 8, 9, 11, 14, 15] rfl (by decide +kernel) rfl (by decide +kernel) (by decide +kernel) rfl rfl (Nat.le_of_ble_eq_true rfl) d_Mo_readStatement_550 ⟨show 0 + C857 + 0 ≤ mc by omega, show 0 + S858 + 0 ≤ ms by omega⟩ (fun v w hq => ?_)
                                                                                      obtain ⟨rfl, z866, rfl⟩ := hq
                                                                                      refine j_norm (pc' := 553) (st' := [.int r863]) (ws' := [((am 21), .inr (8, [.ref a_all_m21, .int size_m21])), (a_all_m21, .inl (cI, n_a_all_m21, .inl b_a_all_m21)), ((am 7), .inr (8, [.ref a_all_m7, .int size_m7])), (a_all_m7, .inl (cI, n_a_all_m7, .inl b_a_all_m7)), ((am 6), .inr (8, [.ref a_all_m6, .int size_m6])), (a_all_m6, .inl (cI, n_a_all_m6, .inl b_a_all_m6)), ((am 4), .inr (8, [.ref a_all_m4, .int size_m4])), (a_all_m4, .inl (cI, n_a_all_m4, .inl b_a_all_m4)), ((am 22), .inr (8, [.ref a_all_m22, .int size_m22])), (a_all_m22, .inl (cI, n_a_all_m22, .inl b_a_all_m22)), ((am 20), .inr (8, [.ref q855, .int r852])), ((am 2), .inl (cI, n_m2, .inl b_m2)), (q855, .inl (cI, r853, .inl r854)), (h0, .inr (9, moF am known_h0 thrown_h0 wrong_h0 lastEnd_h0 r864 r865 r851 least_h0 found_h0)), ((am 5), .inr (8, [.ref a_all_m5, .int size_m5])), (a_all_m5, .inl (cI, n_a_all_m5, .inl b_a_all_m5))]) (cl' := 0 + C857) (sl' := 0 + S858) rfl rfl rfl rfl rfl rfl ?_
                                                                                      refine j_if_eq (tgt := 560) d_Mo_readStatement_553 (by decide) (fun c868 => ?_) (fun c868 => ?_)
                                                                                      · replace h := it_t c868 h
                                                                                        refine j_iconst (v := 0) d_Mo_readStatement_560 (by decide) ?_
                                                                                        replace h := lf_s h
                                                                                        obtain ⟨h, e1, e2⟩ := h
                                                                                        replace h := Prod.mk.inj h
                                                                                        obtain ⟨h9, h⟩ := h
                                                                                        subst h9
                                                                                        replace h := Prod.mk.inj h
                                                                                        obtain ⟨h9, h⟩ := h
                                                                                        subst h9
                                                                                        replace h := Prod.mk.inj h
                                                                                        obtain ⟨h9, h⟩ := h
                                                                                        subst h9
                                                                                        replace h := Prod.mk.inj h
                                                                                        obtain ⟨h9, h⟩ := h
                                                                                        subst h9
                                                                                        replace h := Prod.mk.inj h
                                                                                        obtain ⟨h9, h⟩ := h
                                                                                        subst h9
                                                                                        replace h := Prod.mk.inj h
                                                                                        obtain ⟨h9, h⟩ := h
                                                                                        subst h9
                                                                                        replace h := Prod.mk.inj h
                                                                                        obtain ⟨h9, h⟩ := h
                                                                                        subst h9
                                                                                        replace h := Prod.mk.inj h
                                                                                        obtain ⟨h9, h⟩ := h
                                                                                        subst h9
                                                                                        replace h := Prod.mk.inj h
                                                                                        obtain ⟨h9, h⟩ := h
                                                                                        subst h9
                                                                                        replace h := Prod.mk.inj h
                                                                                        obtain ⟨h9, h⟩ := h
                                                                                        subst h9
                                                                                        replace h := Prod.mk.inj h
                                                                                        obtain ⟨h9, h⟩ := h
                                                                                        subst h9
                                                                                        replace h := Prod.mk.inj h
                                                                                        obtain ⟨h9, h⟩ := h
                                                                                        subst h9
                                                                                        replace h := Prod.mk.inj h
                                                                                        obtain ⟨h9, h⟩ := h
                                                                                        subst h9
                                                                                        subst h
                                                                                        refine j_widen (cl' := mc) (sl' := ms) (by omega) (by omega) ?_
                                                                                        exact j_zret (w := [(h0, .inr (9, moF am known_h0 thrown_h0 wrong_h0 lastEnd_h0 r864 r865 r851 least_h0 found_h0)), ((am 5), .inr (8, [.ref a_all_m5, .int size_m5])), (a_all_m5, .inl (cI, n_a_all_m5, .inl b_a_all_m5)), ((am 20), .inr (8, [.ref q855, .int r852])), ((am 2), .inl (cI, n_m2, .inl b_m2)), ((am 21), .inr (8, [.ref a_all_m21, .int size_m21])), ((am 7), .inr (8, [.ref a_all_m7, .int size_m7])), (a_all_m7, .inl (cI, n_a_all_m7, .inl b_a_all_m7)), ((am 6), .inr (8, [.ref a_all_m6, .int size_m6])), (a_all_m6, .inl (cI, n_a_all_m6, .inl b_a_all_m6)), ((am 4), .inr (8, [.ref a_all_m4, .int size_m4])), (a_all_m4, .inl (cI, n_a_all_m4, .inl b_a_all_m4)), ((am 22), .inr (8, [.ref a_all_m22, .int size_m22])), (q855, .inl (cI, r853, .inl r854)), (a_all_m21, .inl (cI, n_a_all_m21, .inl b_a_all_m21)), (a_all_m22, .inl (cI, n_a_all_m22, .inl b_a_all_m22))]) hr (zb_n zb0) d_Mo_readStatement_561 [13, 14, 15, 10, 11, 0, 2, 3, 4, 5, 6, 7, 8, 12, 1, 9] rfl (by decide) ⟨q855, a_all_m21, a_all_m22, rfl, zb0, rfl⟩
                                                                                      · replace h := it_f c868 h
                                                                                        refine j_iconst (v := 1) d_Mo_readStatement_556 (by decide) ?_
                                                                                        refine j_goto (tgt := 561) d_Mo_readStatement_557 (by decide) ?_
                                                                                        replace h := lf_s h
                                                                                        obtain ⟨h, e1, e2⟩ := h
                                                                                        replace h := Prod.mk.inj h
                                                                                        obtain ⟨h9, h⟩ := h
                                                                                        subst h9
                                                                                        replace h := Prod.mk.inj h
                                                                                        obtain ⟨h9, h⟩ := h
                                                                                        subst h9
                                                                                        replace h := Prod.mk.inj h
                                                                                        obtain ⟨h9, h⟩ := h
                                                                                        subst h9
                                                                                        replace h := Prod.mk.inj h
                                                                                        obtain ⟨h9, h⟩ := h
                                                                                        subst h9
                                                                                        replace h := Prod.mk.inj h
                                                                                        obtain ⟨h9, h⟩ := h
                                                                                        subst h9
                                                                                        replace h := Prod.mk.inj h
                                                                                        obtain ⟨h9, h⟩ := h
                                                                                        subst h9
                                                                                        replace h := Prod.mk.inj h
                                                                                        obtain ⟨h9, h⟩ := h
                                                                                        subst h9
                                                                                        replace h := Prod.mk.inj h
                                                                                        obtain ⟨h9, h⟩ := h
                                                                                        subst h9
                                                                                        replace h := Prod.mk.inj h
                                                                                        obtain ⟨h9, h⟩ := h
                                                                                        subst h9
                                                                                        replace h := Prod.mk.inj h
                                                                                        obtain ⟨h9, h⟩ := h
                                                                                        subst h9
                                                                                        replace h := Prod.mk.inj h
                                                                                        obtain ⟨h9, h⟩ := h
                                                                                        subst h9
                                                                                        replace h := Prod.mk.inj h
                                                                                        obtain ⟨h9, h⟩ := h
                                                                                        subst h9
                                                                                        replace h := Prod.mk.inj h
                                                                                        obtain ⟨h9, h⟩ := h
                                                                                        subst h9
                                                                                        subst h
                                                                                        refine j_widen (cl' := mc) (sl' := ms) (by omega) (by omega) ?_
                                                                                        exact j_zret (w := [(h0, .inr (9, moF am known_h0 thrown_h0 wrong_h0 lastEnd_h0 r864 r865 r851 least_h0 found_h0)), ((am 5), .inr (8, [.ref a_all_m5, .int size_m5])), (a_all_m5, .inl (cI, n_a_all_m5, .inl b_a_all_m5)), ((am 20), .inr (8, [.ref q855, .int r852])), ((am 2), .inl (cI, n_m2, .inl b_m2)), ((am 21), .inr (8, [.ref a_all_m21, .int size_m21])), ((am 7), .inr (8, [.ref a_all_m7, .int size_m7])), (a_all_m7, .inl (cI, n_a_all_m7, .inl b_a_all_m7)), ((am 6), .inr (8, [.ref a_all_m6, .int size_m6])), (a_all_m6, .inl (cI, n_a_all_m6, .inl b_a_all_m6)), ((am 4), .inr (8, [.ref a_all_m4, .int size_m4])), (a_all_m4, .inl (cI, n_a_all_m4, .inl b_a_all_m4)), ((am 22), .inr (8, [.ref a_all_m22, .int size_m22])), (q855, .inl (cI, r853, .inl r854)), (a_all_m21, .inl (cI, n_a_all_m21, .inl b_a_all_m21)), (a_all_m22, .inl (cI, n_a_all_m22, .inl b_a_all_m22))]) hr (zb_n zb1) d_Mo_readStatement_561 [13, 14, 15, 10, 11, 0, 2, 3, 4, 5, 6, 7, 8, 12, 1, 9] rfl (by decide) ⟨q855, a_all_m21, a_all_m22, rfl, zb1, rfl⟩
                                                                                  · replace h := it_f c847 h
                                                                                    by_cases c869 : (b_a_all_m5 (Int32.toNatClampNeg at_h0)) = 51
                                                                                    · replace h := it_t c869 h
                                                                                      refine j_tabIn (tgt := 540) (off := 534) d_Mo_readStatement_6 51 c869 (by decide) (by decide) (by decide) (by decide) ?_
                                                                                      refine j_aload_n d_Mo_readStatement_540 rfl 1 rfl ?_
                                                                                      replace h := bw_s h
                                                                                      obtain ⟨⟨r870, r871, r872, r873, r874, r875, r876⟩, C879, S880, C881, S882, k883, h, e1, e2⟩ := h
                                                                                      replace hC : 0 + C879 + C881 ≤ mc := by omega
                                                                                      replace hS : 0 + S880 + S882 ≤ ms := by omega
                                                                                      clear e1 e2
                                                                                      refine j_callV (n := 0) (As := []) (rest := []) (wr := [((am 21), .inr (8, [.ref a_all_m21, .int size_m21])), (a_all_m21, .inl (cI, n_a_all_m21, .inl b_a_all_m21)), ((am 7), .inr (8, [.ref a_all_m7, .int size_m7])), (a_all_m7, .inl (cI, n_a_all_m7, .inl b_a_all_m7)), ((am 6), .inr (8, [.ref a_all_m6, .int size_m6])), (a_all_m6, .inl (cI, n_a_all_m6, .inl b_a_all_m6)), ((am 4), .inr (8, [.ref a_all_m4, .int size_m4])), (a_all_m4, .inl (cI, n_a_all_m4, .inl b_a_all_m4)), ((am 22), .inr (8, [.ref a_all_m22, .int size_m22])), (a_all_m22, .inl (cI, n_a_all_m22, .inl b_a_all_m22))]) (c_Mo_readWorking l D cI cB cJ cS h0 am a_all_m20 a_all_m5 known_h0 thrown_h0 wrong_h0 lastEnd_h0 at_h0 bad_h0 levels_h0 least_h0 found_h0 size_m20 size_m5 n_a_all_m5 b_a_all_m5 n_a_all_m20 b_a_all_m20 n_m2 b_m2  r870 r871 r872 r873 r874 r875 r876 C879 S880 k883) k_Mo_362 (by decide) ⟨Nat.le_of_ble_eq_true rfl, Nat.le_of_ble_eq_true rfl⟩ rfl 0 rfl [13, 0, 14, 15, 1, 2] [3, 4, 5, 6, 7, 8, 9, 10, 11, 12] rfl (by decide +kernel) rfl (by decide +kernel) (by decide +kernel) rfl rfl (Nat.le_of_ble_eq_true rfl) d_Mo_readStatement_541 ⟨show 0 + C879 ≤ mc by omega, show 0 + S880 ≤ ms by omega⟩ (fun v w hq => ?_)
                                                                                      obtain ⟨q877, rfl, z878, rfl⟩ := hq
                                                                                      refine j_norm (pc' := 544) (st' := [.int r870]) (ws' := [((am 21), .inr (8, [.ref a_all_m21, .int size_m21])), (a_all_m21, .inl (cI, n_a_all_m21, .inl b_a_all_m21)), ((am 7), .inr (8, [.ref a_all_m7, .int size_m7])), (a_all_m7, .inl (cI, n_a_all_m7, .inl b_a_all_m7)), ((am 6), .inr (8, [.ref a_all_m6, .int size_m6])), (a_all_m6, .inl (cI, n_a_all_m6, .inl b_a_all_m6)), ((am 4), .inr (8, [.ref a_all_m4, .int size_m4])), (a_all_m4, .inl (cI, n_a_all_m4, .inl b_a_all_m4)), ((am 22), .inr (8, [.ref a_all_m22, .int size_m22])), (a_all_m22, .inl (cI, n_a_all_m22, .inl b_a_all_m22)), (h0, .inr (9, moF am known_h0 thrown_h0 wrong_h0 lastEnd_h0 r871 r872 r873 least_h0 found_h0)), ((am 20), .inr (8, [.ref q877, .int r874])), ((am 5), .inr (8, [.ref a_all_m5, .int size_m5])), (a_all_m5, .inl (cI, n_a_all_m5, .inl b_a_all_m5)), ((am 2), .inl (cI, n_m2, .inl b_m2)), (q877, .inl (cI, r875, .inl r876))]) (cl' := 0 + C879) (sl' := 0 + S880) rfl rfl rfl rfl rfl rfl ?_
                                                                                      refine j_if_eq (tgt := 560) d_Mo_readStatement_544 (by decide) (fun c884 => ?_) (fun c884 => ?_)
                                                                                      · replace h := it_t c884 h
                                                                                        refine j_iconst (v := 0) d_Mo_readStatement_560 (by decide) ?_
                                                                                        replace h := lf_s h
                                                                                        obtain ⟨h, e1, e2⟩ := h
                                                                                        replace h := Prod.mk.inj h
                                                                                        obtain ⟨h9, h⟩ := h
                                                                                        subst h9
                                                                                        replace h := Prod.mk.inj h
                                                                                        obtain ⟨h9, h⟩ := h
                                                                                        subst h9
                                                                                        replace h := Prod.mk.inj h
                                                                                        obtain ⟨h9, h⟩ := h
                                                                                        subst h9
                                                                                        replace h := Prod.mk.inj h
                                                                                        obtain ⟨h9, h⟩ := h
                                                                                        subst h9
                                                                                        replace h := Prod.mk.inj h
                                                                                        obtain ⟨h9, h⟩ := h
                                                                                        subst h9
                                                                                        replace h := Prod.mk.inj h
                                                                                        obtain ⟨h9, h⟩ := h
                                                                                        subst h9
                                                                                        replace h := Prod.mk.inj h
                                                                                        obtain ⟨h9, h⟩ := h
                                                                                        subst h9
                                                                                        replace h := Prod.mk.inj h
                                                                                        obtain ⟨h9, h⟩ := h
                                                                                        subst h9
                                                                                        replace h := Prod.mk.inj h
                                                                                        obtain ⟨h9, h⟩ := h
                                                                                        subst h9
                                                                                        replace h := Prod.mk.inj h
                                                                                        obtain ⟨h9, h⟩ := h
                                                                                        subst h9
                                                                                        replace h := Prod.mk.inj h
                                                                                        obtain ⟨h9, h⟩ := h
                                                                                        subst h9
                                                                                        replace h := Prod.mk.inj h
                                                                                        obtain ⟨h9, h⟩ := h
                                                                                        subst h9
                                                                                        replace h := Prod.mk.inj h
                                                                                        obtain ⟨h9, h⟩ := h
                                                                                        subst h9
                                                                                        subst h
                                                                                        refine j_widen (cl' := mc) (sl' := ms) (by omega) (by omega) ?_
                                                                                        exact j_zret (w := [(h0, .inr (9, moF am known_h0 thrown_h0 wrong_h0 lastEnd_h0 r871 r872 r873 least_h0 found_h0)), ((am 5), .inr (8, [.ref a_all_m5, .int size_m5])), (a_all_m5, .inl (cI, n_a_all_m5, .inl b_a_all_m5)), ((am 20), .inr (8, [.ref q877, .int r874])), ((am 2), .inl (cI, n_m2, .inl b_m2)), ((am 21), .inr (8, [.ref a_all_m21, .int size_m21])), ((am 7), .inr (8, [.ref a_all_m7, .int size_m7])), (a_all_m7, .inl (cI, n_a_all_m7, .inl b_a_all_m7)), ((am 6), .inr (8, [.ref a_all_m6, .int size_m6])), (a_all_m6, .inl (cI, n_a_all_m6, .inl b_a_all_m6)), ((am 4), .inr (8, [.ref a_all_m4, .int size_m4])), (a_all_m4, .inl (cI, n_a_all_m4, .inl b_a_all_m4)), ((am 22), .inr (8, [.ref a_all_m22, .int size_m22])), (q877, .inl (cI, r875, .inl r876)), (a_all_m21, .inl (cI, n_a_all_m21, .inl b_a_all_m21)), (a_all_m22, .inl (cI, n_a_all_m22, .inl b_a_all_m22))]) hr (zb_n zb0) d_Mo_readStatement_561 [10, 12, 13, 11, 14, 0, 2, 3, 4, 5, 6, 7, 8, 15, 1, 9] rfl (by decide) ⟨q877, a_all_m21, a_all_m22, rfl, zb0, rfl⟩
                                                                                      · replace h := it_f c884 h
                                                                                        refine j_aload_n d_Mo_readStatement_547 rfl 1 rfl ?_
                                                                                        refine j_bipush (v := 55) d_Mo_readStatement_548 (by decide) ?_
                                                                                        replace h := bd_s h
                                                                                        obtain ⟨⟨r885, r886, r887⟩, k889, h⟩ := h
                                                                                        refine j_callV (n := 1) (As := [.int 55]) (rest := []) (wr := [((am 21), .inr (8, [.ref a_all_m21, .int size_m21])), (a_all_m21, .inl (cI, n_a_all_m21, .inl b_a_all_m21)), ((am 7), .inr (8, [.ref a_all_m7, .int size_m7])), (a_all_m7, .inl (cI, n_a_all_m7, .inl b_a_all_m7)), ((am 6), .inr (8, [.ref a_all_m6, .int size_m6])), (a_all_m6, .inl (cI, n_a_all_m6, .inl b_a_all_m6)), ((am 4), .inr (8, [.ref a_all_m4, .int size_m4])), (a_all_m4, .inl (cI, n_a_all_m4, .inl b_a_all_m4)), ((am 22), .inr (8, [.ref a_all_m22, .int size_m22])), (a_all_m22, .inl (cI, n_a_all_m22, .inl b_a_all_m22)), ((am 20), .inr (8, [.ref q877, .int r874])), ((am 2), .inl (cI, n_m2, .inl b_m2)), (q877, .inl (cI, r875, .inl r876))]) (c_Mo_take l D cI cB cJ cS h0 am a_all_m5 55 known_h0 thrown_h0 wrong_h0 lastEnd_h0 r871 r872 r873 least_h0 found_h0 size_m5 n_a_all_m5 b_a_all_m5  r885 r886 r887 k889) k_Mo_285 (by decide) ⟨Nat.le_of_ble_eq_true rfl, Nat.le_of_ble_eq_true rfl⟩ rfl 0 rfl [10, 12, 13] [0, 1, 2, 3, 4, 5, 6, 7, 8, 9, 11, 14, 15] rfl (by decide +kernel) rfl (by decide +kernel) (by decide +kernel) rfl rfl (Nat.le_of_ble_eq_true rfl) d_Mo_readStatement_550 ⟨show 0 + C879 + 0 ≤ mc by omega, show 0 + S880 + 0 ≤ ms by omega⟩ (fun v w hq => ?_)
                                                                                        obtain ⟨rfl, z888, rfl⟩ := hq
                                                                                        refine j_norm (pc' := 553) (st' := [.int r885]) (ws' := [((am 21), .inr (8, [.ref a_all_m21, .int size_m21])), (a_all_m21, .inl (cI, n_a_all_m21, .inl b_a_all_m21)), ((am 7), .inr (8, [.ref a_all_m7, .int size_m7])), (a_all_m7, .inl (cI, n_a_all_m7, .inl b_a_all_m7)), ((am 6), .inr (8, [.ref a_all_m6, .int size_m6])), (a_all_m6, .inl (cI, n_a_all_m6, .inl b_a_all_m6)), ((am 4), .inr (8, [.ref a_all_m4, .int size_m4])), (a_all_m4, .inl (cI, n_a_all_m4, .inl b_a_all_m4)), ((am 22), .inr (8, [.ref a_all_m22, .int size_m22])), (a_all_m22, .inl (cI, n_a_all_m22, .inl b_a_all_m22)), ((am 20), .inr (8, [.ref q877, .int r874])), ((am 2), .inl (cI, n_m2, .inl b_m2)), (q877, .inl (cI, r875, .inl r876)), (h0, .inr (9, moF am known_h0 thrown_h0 wrong_h0 lastEnd_h0 r886 r887 r873 least_h0 found_h0)), ((am 5), .inr (8, [.ref a_all_m5, .int size_m5])), (a_all_m5, .inl (cI, n_a_all_m5, .inl b_a_all_m5))]) (cl' := 0 + C879) (sl' := 0 + S880) rfl rfl rfl rfl rfl rfl ?_
                                                                                        refine j_if_eq (tgt := 560) d_Mo_readStatement_553 (by decide) (fun c890 => ?_) (fun c890 => ?_)
                                                                                        · replace h := it_t c890 h
                                                                                          refine j_iconst (v := 0) d_Mo_readStatement_560 (by decide) ?_
                                                                                          replace h := lf_s h
                                                                                          obtain ⟨h, e1, e2⟩ := h
                                                                                          replace h := Prod.mk.inj h
                                                                                          obtain ⟨h9, h⟩ := h
                                                                                          subst h9
                                                                                          replace h := Prod.mk.inj h
                                                                                          obtain ⟨h9, h⟩ := h
                                                                                          subst h9
                                                                                          replace h := Prod.mk.inj h
                                                                                          obtain ⟨h9, h⟩ := h
                                                                                          subst h9
                                                                                          replace h := Prod.mk.inj h
                                                                                          obtain ⟨h9, h⟩ := h
                                                                                          subst h9
                                                                                          replace h := Prod.mk.inj h
                                                                                          obtain ⟨h9, h⟩ := h
                                                                                          subst h9
                                                                                          replace h := Prod.mk.inj h
                                                                                          obtain ⟨h9, h⟩ := h
                                                                                          subst h9
                                                                                          replace h := Prod.mk.inj h
                                                                                          obtain ⟨h9, h⟩ := h
                                                                                          subst h9
                                                                                          replace h := Prod.mk.inj h
                                                                                          obtain ⟨h9, h⟩ := h
                                                                                          subst h9
                                                                                          replace h := Prod.mk.inj h
                                                                                          obtain ⟨h9, h⟩ := h
                                                                                          subst h9
                                                                                          replace h := Prod.mk.inj h
                                                                                          obtain ⟨h9, h⟩ := h
                                                                                          subst h9
                                                                                          replace h := Prod.mk.inj h
                                                                                          obtain ⟨h9, h⟩ := h
                                                                                          subst h9
                                                                                          replace h := Prod.mk.inj h
                                                                                          obtain ⟨h9, h⟩ := h
                                                                                          subst h9
                                                                                          replace h := Prod.mk.inj h
                                                                                          obtain ⟨h9, h⟩ := h
                                                                                          subst h9
                                                                                          subst h
                                                                                          refine j_widen (cl' := mc) (sl' := ms) (by omega) (by omega) ?_
                                                                                          exact j_zret (w := [(h0, .inr (9, moF am known_h0 thrown_h0 wrong_h0 lastEnd_h0 r886 r887 r873 least_h0 found_h0)), ((am 5), .inr (8, [.ref a_all_m5, .int size_m5])), (a_all_m5, .inl (cI, n_a_all_m5, .inl b_a_all_m5)), ((am 20), .inr (8, [.ref q877, .int r874])), ((am 2), .inl (cI, n_m2, .inl b_m2)), ((am 21), .inr (8, [.ref a_all_m21, .int size_m21])), ((am 7), .inr (8, [.ref a_all_m7, .int size_m7])), (a_all_m7, .inl (cI, n_a_all_m7, .inl b_a_all_m7)), ((am 6), .inr (8, [.ref a_all_m6, .int size_m6])), (a_all_m6, .inl (cI, n_a_all_m6, .inl b_a_all_m6)), ((am 4), .inr (8, [.ref a_all_m4, .int size_m4])), (a_all_m4, .inl (cI, n_a_all_m4, .inl b_a_all_m4)), ((am 22), .inr (8, [.ref a_all_m22, .int size_m22])), (q877, .inl (cI, r875, .inl r876)), (a_all_m21, .inl (cI, n_a_all_m21, .inl b_a_all_m21)), (a_all_m22, .inl (cI, n_a_all_m22, .inl b_a_all_m22))]) hr (zb_n zb0) d_Mo_readStatement_561 [13, 14, 15, 10, 11, 0, 2, 3, 4, 5, 6, 7, 8, 12, 1, 9] rfl (by decide) ⟨q877, a_all_m21, a_all_m22, rfl, zb0, rfl⟩
                                                                                        · replace h := it_f c890 h
                                                                                          refine j_iconst (v := 1) d_Mo_readStatement_556 (by decide) ?_
                                                                                          refine j_goto (tgt := 561) d_Mo_readStatement_557 (by decide) ?_
                                                                                          replace h := lf_s h
                                                                                          obtain ⟨h, e1, e2⟩ := h
                                                                                          replace h := Prod.mk.inj h
                                                                                          obtain ⟨h9, h⟩ := h
                                                                                          subst h9
                                                                                          replace h := Prod.mk.inj h
                                                                                          obtain ⟨h9, h⟩ := h
                                                                                          subst h9
                                                                                          replace h := Prod.mk.inj h
                                                                                          obtain ⟨h9, h⟩ := h
                                                                                          subst h9
                                                                                          replace h := Prod.mk.inj h
                                                                                          obtain ⟨h9, h⟩ := h
                                                                                          subst h9
                                                                                          replace h := Prod.mk.inj h
                                                                                          obtain ⟨h9, h⟩ := h
                                                                                          subst h9
                                                                                          replace h := Prod.mk.inj h
                                                                                          obtain ⟨h9, h⟩ := h
                                                                                          subst h9
                                                                                          replace h := Prod.mk.inj h
                                                                                          obtain ⟨h9, h⟩ := h
                                                                                          subst h9
                                                                                          replace h := Prod.mk.inj h
                                                                                          obtain ⟨h9, h⟩ := h
                                                                                          subst h9
                                                                                          replace h := Prod.mk.inj h
                                                                                          obtain ⟨h9, h⟩ := h
                                                                                          subst h9
                                                                                          replace h := Prod.mk.inj h
                                                                                          obtain ⟨h9, h⟩ := h
                                                                                          subst h9
                                                                                          replace h := Prod.mk.inj h
                                                                                          obtain ⟨h9, h⟩ := h
                                                                                          subst h9
                                                                                          replace h := Prod.mk.inj h
                                                                                          obtain ⟨h9, h⟩ := h
                                                                                          subst h9
                                                                                          replace h := Prod.mk.inj h
                                                                                          obtain ⟨h9, h⟩ := h
                                                                                          subst h9
                                                                                          subst h
                                                                                          refine j_widen (cl' := mc) (sl' := ms) (by omega) (by omega) ?_
                                                                                          exact j_zret (w := [(h0, .inr (9, moF am known_h0 thrown_h0 wrong_h0 lastEnd_h0 r886 r887 r873 least_h0 found_h0)), ((am 5), .inr (8, [.ref a_all_m5, .int size_m5])), (a_all_m5, .inl (cI, n_a_all_m5, .inl b_a_all_m5)), ((am 20), .inr (8, [.ref q877, .int r874])), ((am 2), .inl (cI, n_m2, .inl b_m2)), ((am 21), .inr (8, [.ref a_all_m21, .int size_m21])), ((am 7), .inr (8, [.ref a_all_m7, .int size_m7])), (a_all_m7, .inl (cI, n_a_all_m7, .inl b_a_all_m7)), ((am 6), .inr (8, [.ref a_all_m6, .int size_m6])), (a_all_m6, .inl (cI, n_a_all_m6, .inl b_a_all_m6)), ((am 4), .inr (8, [.ref a_all_m4, .int size_m4])), (a_all_m4, .inl (cI, n_a_all_m4, .inl b_a_all_m4)), ((am 22), .inr (8, [.ref a_all_m22, .int size_m22])), (q877, .inl (cI, r875, .inl r876)), (a_all_m21, .inl (cI, n_a_all_m21, .inl b_a_all_m21)), (a_all_m22, .inl (cI, n_a_all_m22, .inl b_a_all_m22))]) hr (zb_n zb1) d_Mo_readStatement_561 [13, 14, 15, 10, 11, 0, 2, 3, 4, 5, 6, 7, 8, 12, 1, 9] rfl (by decide) ⟨q877, a_all_m21, a_all_m22, rfl, zb1, rfl⟩
                                                                                    · replace h := it_f c869 h
                                                                                      by_cases c891 : (b_a_all_m5 (Int32.toNatClampNeg at_h0)) = 52
                                                                                      · replace h := it_t c891 h
                                                                                        refine j_tabIn (tgt := 518) (off := 512) d_Mo_readStatement_6 52 c891 (by decide) (by decide) (by decide) (by decide) ?_
                                                                                        refine j_aload_n d_Mo_readStatement_518 rfl 1 rfl ?_
                                                                                        replace h := bw_s h
                                                                                        obtain ⟨⟨r892, r893, r894, r895, r896, r897, r898, r899⟩, C902, S903, C904, S905, k906, h, e1, e2⟩ := h
                                                                                        replace hC : 0 + C902 + C904 ≤ mc := by omega
                                                                                        replace hS : 0 + S903 + S905 ≤ ms := by omega
                                                                                        clear e1 e2
                                                                                        refine j_callV (n := 0) (As := []) (rest := []) (wr := [((am 21), .inr (8, [.ref a_all_m21, .int size_m21])), (a_all_m21, .inl (cI, n_a_all_m21, .inl b_a_all_m21)), ((am 7), .inr (8, [.ref a_all_m7, .int size_m7])), (a_all_m7, .inl (cI, n_a_all_m7, .inl b_a_all_m7)), ((am 6), .inr (8, [.ref a_all_m6, .int size_m6])), (a_all_m6, .inl (cI, n_a_all_m6, .inl b_a_all_m6)), ((am 4), .inr (8, [.ref a_all_m4, .int size_m4])), (a_all_m4, .inl (cI, n_a_all_m4, .inl b_a_all_m4)), ((am 22), .inr (8, [.ref a_all_m22, .int size_m22])), (a_all_m22, .inl (cI, n_a_all_m22, .inl b_a_all_m22))]) (c_Mo_readRowsStatement l D cI cB cJ cS h0 am a_all_m5 a_all_m20 known_h0 thrown_h0 wrong_h0 lastEnd_h0 at_h0 bad_h0 levels_h0 least_h0 found_h0 size_m5 n_a_all_m5 b_a_all_m5 size_m20 n_a_all_m20 b_a_all_m20 n_m2 b_m2  r892 r893 r894 r895 r896 r897 r898 r899 C902 S903 k906) k_Mo_377 (by decide) ⟨Nat.le_of_ble_eq_true rfl, Nat.le_of_ble_eq_true rfl⟩ rfl 0 rfl [13, 14, 15, 0, 1, 2] [3, 4, 5, 6, 7, 8, 9, 10, 11, 12] rfl (by decide +kernel) rfl (by decide +kernel) (by decide +kernel) rfl rfl (Nat.le_of_ble_eq_true rfl) d_Mo_readStatement_519 ⟨show 0 + C902 ≤ mc by omega, show 0 + S903 ≤ ms by omega⟩ (fun v w hq => ?_)
                                                                                        obtain ⟨q900, rfl, z901, rfl⟩ := hq
                                                                                        refine j_norm (pc' := 522) (st' := [.int r892]) (ws' := [((am 21), .inr (8, [.ref a_all_m21, .int size_m21])), (a_all_m21, .inl (cI, n_a_all_m21, .inl b_a_all_m21)), ((am 7), .inr (8, [.ref a_all_m7, .int size_m7])), (a_all_m7, .inl (cI, n_a_all_m7, .inl b_a_all_m7)), ((am 6), .inr (8, [.ref a_all_m6, .int size_m6])), (a_all_m6, .inl (cI, n_a_all_m6, .inl b_a_all_m6)), ((am 4), .inr (8, [.ref a_all_m4, .int size_m4])), (a_all_m4, .inl (cI, n_a_all_m4, .inl b_a_all_m4)), ((am 22), .inr (8, [.ref a_all_m22, .int size_m22])), (a_all_m22, .inl (cI, n_a_all_m22, .inl b_a_all_m22)), (h0, .inr (9, moF am known_h0 thrown_h0 wrong_h0 lastEnd_h0 r893 r894 r895 r896 found_h0)), ((am 5), .inr (8, [.ref a_all_m5, .int size_m5])), (a_all_m5, .inl (cI, n_a_all_m5, .inl b_a_all_m5)), ((am 20), .inr (8, [.ref q900, .int r897])), ((am 2), .inl (cI, n_m2, .inl b_m2)), (q900, .inl (cI, r898, .inl r899))]) (cl' := 0 + C902) (sl' := 0 + S903) rfl rfl rfl rfl rfl rfl ?_
                                                                                        refine j_if_eq (tgt := 538) d_Mo_readStatement_522 (by decide) (fun c907 => ?_) (fun c907 => ?_)
                                                                                        · replace h := it_t c907 h
                                                                                          refine j_iconst (v := 0) d_Mo_readStatement_538 (by decide) ?_
                                                                                          replace h := lf_s h
                                                                                          obtain ⟨h, e1, e2⟩ := h
                                                                                          replace h := Prod.mk.inj h
                                                                                          obtain ⟨h9, h⟩ := h
                                                                                          subst h9
                                                                                          replace h := Prod.mk.inj h
                                                                                          obtain ⟨h9, h⟩ := h
                                                                                          subst h9
                                                                                          replace h := Prod.mk.inj h
                                                                                          obtain ⟨h9, h⟩ := h
                                                                                          subst h9
                                                                                          replace h := Prod.mk.inj h
                                                                                          obtain ⟨h9, h⟩ := h
                                                                                          subst h9
                                                                                          replace h := Prod.mk.inj h
                                                                                          obtain ⟨h9, h⟩ := h
                                                                                          subst h9
                                                                                          replace h := Prod.mk.inj h
                                                                                          obtain ⟨h9, h⟩ := h
                                                                                          subst h9
                                                                                          replace h := Prod.mk.inj h
                                                                                          obtain ⟨h9, h⟩ := h
                                                                                          subst h9
                                                                                          replace h := Prod.mk.inj h
                                                                                          obtain ⟨h9, h⟩ := h
                                                                                          subst h9
                                                                                          replace h := Prod.mk.inj h
                                                                                          obtain ⟨h9, h⟩ := h
                                                                                          subst h9
                                                                                          replace h := Prod.mk.inj h
                                                                                          obtain ⟨h9, h⟩ := h
                                                                                          subst h9
                                                                                          replace h := Prod.mk.inj h
                                                                                          obtain ⟨h9, h⟩ := h
                                                                                          subst h9
                                                                                          replace h := Prod.mk.inj h
                                                                                          obtain ⟨h9, h⟩ := h
                                                                                          subst h9
                                                                                          replace h := Prod.mk.inj h
                                                                                          obtain ⟨h9, h⟩ := h
                                                                                          subst h9
                                                                                          subst h
                                                                                          refine j_widen (cl' := mc) (sl' := ms) (by omega) (by omega) ?_
                                                                                          exact j_zret (w := [(h0, .inr (9, moF am known_h0 thrown_h0 wrong_h0 lastEnd_h0 r893 r894 r895 r896 found_h0)), ((am 5), .inr (8, [.ref a_all_m5, .int size_m5])), (a_all_m5, .inl (cI, n_a_all_m5, .inl b_a_all_m5)), ((am 20), .inr (8, [.ref q900, .int r897])), ((am 2), .inl (cI, n_m2, .inl b_m2)), ((am 21), .inr (8, [.ref a_all_m21, .int size_m21])), ((am 7), .inr (8, [.ref a_all_m7, .int size_m7])), (a_all_m7, .inl (cI, n_a_all_m7, .inl b_a_all_m7)), ((am 6), .inr (8, [.ref a_all_m6, .int size_m6])), (a_all_m6, .inl (cI, n_a_all_m6, .inl b_a_all_m6)), ((am 4), .inr (8, [.ref a_all_m4, .int size_m4])), (a_all_m4, .inl (cI, n_a_all_m4, .inl b_a_all_m4)), ((am 22), .inr (8, [.ref a_all_m22, .int size_m22])), (q900, .inl (cI, r898, .inl r899)), (a_all_m21, .inl (cI, n_a_all_m21, .inl b_a_all_m21)), (a_all_m22, .inl (cI, n_a_all_m22, .inl b_a_all_m22))]) hr (zb_n zb0) d_Mo_readStatement_539 [10, 11, 12, 13, 14, 0, 2, 3, 4, 5, 6, 7, 8, 15, 1, 9] rfl (by decide) ⟨q900, a_all_m21, a_all_m22, rfl, zb0, rfl⟩
                                                                                        · replace h := it_f c907 h
                                                                                          refine j_aload_n d_Mo_readStatement_525 rfl 1 rfl ?_
                                                                                          refine j_bipush (v := 55) d_Mo_readStatement_526 (by decide) ?_
                                                                                          replace h := bd_s h
                                                                                          obtain ⟨⟨r908, r909, r910⟩, k912, h⟩ := h
                                                                                          refine j_callV (n := 1) (As := [.int 55]) (rest := []) (wr := [((am 21), .inr (8, [.ref a_all_m21, .int size_m21])), (a_all_m21, .inl (cI, n_a_all_m21, .inl b_a_all_m21)), ((am 7), .inr (8, [.ref a_all_m7, .int size_m7])), (a_all_m7, .inl (cI, n_a_all_m7, .inl b_a_all_m7)), ((am 6), .inr (8, [.ref a_all_m6, .int size_m6])), (a_all_m6, .inl (cI, n_a_all_m6, .inl b_a_all_m6)), ((am 4), .inr (8, [.ref a_all_m4, .int size_m4])), (a_all_m4, .inl (cI, n_a_all_m4, .inl b_a_all_m4)), ((am 22), .inr (8, [.ref a_all_m22, .int size_m22])), (a_all_m22, .inl (cI, n_a_all_m22, .inl b_a_all_m22)), ((am 20), .inr (8, [.ref q900, .int r897])), ((am 2), .inl (cI, n_m2, .inl b_m2)), (q900, .inl (cI, r898, .inl r899))]) (c_Mo_take l D cI cB cJ cS h0 am a_all_m5 55 known_h0 thrown_h0 wrong_h0 lastEnd_h0 r893 r894 r895 r896 found_h0 size_m5 n_a_all_m5 b_a_all_m5  r908 r909 r910 k912) k_Mo_285 (by decide) ⟨Nat.le_of_ble_eq_true rfl, Nat.le_of_ble_eq_true rfl⟩ rfl 0 rfl [10, 11, 12] [0, 1, 2, 3, 4, 5, 6, 7, 8, 9, 13, 14, 15] rfl (by decide +kernel) rfl (by decide +kernel) (by decide +kernel) rfl rfl (Nat.le_of_ble_eq_true rfl) d_Mo_readStatement_528 ⟨show 0 + C902 + 0 ≤ mc by omega, show 0 + S903 + 0 ≤ ms by omega⟩ (fun v w hq => ?_)
                                                                                          obtain ⟨rfl, z911, rfl⟩ := hq
                                                                                          refine j_norm (pc' := 531) (st' := [.int r908]) (ws' := [((am 21), .inr (8, [.ref a_all_m21, .int size_m21])), (a_all_m21, .inl (cI, n_a_all_m21, .inl b_a_all_m21)), ((am 7), .inr (8, [.ref a_all_m7, .int size_m7])), (a_all_m7, .inl (cI, n_a_all_m7, .inl b_a_all_m7)), ((am 6), .inr (8, [.ref a_all_m6, .int size_m6])), (a_all_m6, .inl (cI, n_a_all_m6, .inl b_a_all_m6)), ((am 4), .inr (8, [.ref a_all_m4, .int size_m4])), (a_all_m4, .inl (cI, n_a_all_m4, .inl b_a_all_m4)), ((am 22), .inr (8, [.ref a_all_m22, .int size_m22])), (a_all_m22, .inl (cI, n_a_all_m22, .inl b_a_all_m22)), ((am 20), .inr (8, [.ref q900, .int r897])), ((am 2), .inl (cI, n_m2, .inl b_m2)), (q900, .inl (cI, r898, .inl r899)), (h0, .inr (9, moF am known_h0 thrown_h0 wrong_h0 lastEnd_h0 r909 r910 r895 r896 found_h0)), ((am 5), .inr (8, [.ref a_all_m5, .int size_m5])), (a_all_m5, .inl (cI, n_a_all_m5, .inl b_a_all_m5))]) (cl' := 0 + C902) (sl' := 0 + S903) rfl rfl rfl rfl rfl rfl ?_
                                                                                          refine j_if_eq (tgt := 538) d_Mo_readStatement_531 (by decide) (fun c913 => ?_) (fun c913 => ?_)
                                                                                          · replace h := it_t c913 h
                                                                                            refine j_iconst (v := 0) d_Mo_readStatement_538 (by decide) ?_
                                                                                            replace h := lf_s h
                                                                                            obtain ⟨h, e1, e2⟩ := h
                                                                                            replace h := Prod.mk.inj h
                                                                                            obtain ⟨h9, h⟩ := h
                                                                                            subst h9
                                                                                            replace h := Prod.mk.inj h
                                                                                            obtain ⟨h9, h⟩ := h
                                                                                            subst h9
                                                                                            replace h := Prod.mk.inj h
                                                                                            obtain ⟨h9, h⟩ := h
                                                                                            subst h9
                                                                                            replace h := Prod.mk.inj h
                                                                                            obtain ⟨h9, h⟩ := h
                                                                                            subst h9
                                                                                            replace h := Prod.mk.inj h
                                                                                            obtain ⟨h9, h⟩ := h
                                                                                            subst h9
                                                                                            replace h := Prod.mk.inj h
                                                                                            obtain ⟨h9, h⟩ := h
                                                                                            subst h9
                                                                                            replace h := Prod.mk.inj h
                                                                                            obtain ⟨h9, h⟩ := h
                                                                                            subst h9
                                                                                            replace h := Prod.mk.inj h
                                                                                            obtain ⟨h9, h⟩ := h
                                                                                            subst h9
                                                                                            replace h := Prod.mk.inj h
                                                                                            obtain ⟨h9, h⟩ := h
                                                                                            subst h9
                                                                                            replace h := Prod.mk.inj h
                                                                                            obtain ⟨h9, h⟩ := h
                                                                                            subst h9
                                                                                            replace h := Prod.mk.inj h
                                                                                            obtain ⟨h9, h⟩ := h
                                                                                            subst h9
                                                                                            replace h := Prod.mk.inj h
                                                                                            obtain ⟨h9, h⟩ := h
                                                                                            subst h9
                                                                                            replace h := Prod.mk.inj h
                                                                                            obtain ⟨h9, h⟩ := h
                                                                                            subst h9
                                                                                            subst h
                                                                                            refine j_widen (cl' := mc) (sl' := ms) (by omega) (by omega) ?_
                                                                                            exact j_zret (w := [(h0, .inr (9, moF am known_h0 thrown_h0 wrong_h0 lastEnd_h0 r909 r910 r895 r896 found_h0)), ((am 5), .inr (8, [.ref a_all_m5, .int size_m5])), (a_all_m5, .inl (cI, n_a_all_m5, .inl b_a_all_m5)), ((am 20), .inr (8, [.ref q900, .int r897])), ((am 2), .inl (cI, n_m2, .inl b_m2)), ((am 21), .inr (8, [.ref a_all_m21, .int size_m21])), ((am 7), .inr (8, [.ref a_all_m7, .int size_m7])), (a_all_m7, .inl (cI, n_a_all_m7, .inl b_a_all_m7)), ((am 6), .inr (8, [.ref a_all_m6, .int size_m6])), (a_all_m6, .inl (cI, n_a_all_m6, .inl b_a_all_m6)), ((am 4), .inr (8, [.ref a_all_m4, .int size_m4])), (a_all_m4, .inl (cI, n_a_all_m4, .inl b_a_all_m4)), ((am 22), .inr (8, [.ref a_all_m22, .int size_m22])), (q900, .inl (cI, r898, .inl r899)), (a_all_m21, .inl (cI, n_a_all_m21, .inl b_a_all_m21)), (a_all_m22, .inl (cI, n_a_all_m22, .inl b_a_all_m22))]) hr (zb_n zb0) d_Mo_readStatement_539 [13, 14, 15, 10, 11, 0, 2, 3, 4, 5, 6, 7, 8, 12, 1, 9] rfl (by decide) ⟨q900, a_all_m21, a_all_m22, rfl, zb0, rfl⟩
                                                                                          · replace h := it_f c913 h
                                                                                            refine j_iconst (v := 1) d_Mo_readStatement_534 (by decide) ?_
                                                                                            refine j_goto (tgt := 539) d_Mo_readStatement_535 (by decide) ?_
                                                                                            replace h := lf_s h
                                                                                            obtain ⟨h, e1, e2⟩ := h
                                                                                            replace h := Prod.mk.inj h
                                                                                            obtain ⟨h9, h⟩ := h
                                                                                            subst h9
                                                                                            replace h := Prod.mk.inj h
                                                                                            obtain ⟨h9, h⟩ := h
                                                                                            subst h9
                                                                                            replace h := Prod.mk.inj h
                                                                                            obtain ⟨h9, h⟩ := h
                                                                                            subst h9
                                                                                            replace h := Prod.mk.inj h
                                                                                            obtain ⟨h9, h⟩ := h
                                                                                            subst h9
                                                                                            replace h := Prod.mk.inj h
                                                                                            obtain ⟨h9, h⟩ := h
                                                                                            subst h9
                                                                                            replace h := Prod.mk.inj h
                                                                                            obtain ⟨h9, h⟩ := h
                                                                                            subst h9
                                                                                            replace h := Prod.mk.inj h
                                                                                            obtain ⟨h9, h⟩ := h
                                                                                            subst h9
                                                                                            replace h := Prod.mk.inj h
                                                                                            obtain ⟨h9, h⟩ := h
                                                                                            subst h9
                                                                                            replace h := Prod.mk.inj h
                                                                                            obtain ⟨h9, h⟩ := h
                                                                                            subst h9
                                                                                            replace h := Prod.mk.inj h
                                                                                            obtain ⟨h9, h⟩ := h
                                                                                            subst h9
                                                                                            replace h := Prod.mk.inj h
                                                                                            obtain ⟨h9, h⟩ := h
                                                                                            subst h9
                                                                                            replace h := Prod.mk.inj h
                                                                                            obtain ⟨h9, h⟩ := h
                                                                                            subst h9
                                                                                            replace h := Prod.mk.inj h
                                                                                            obtain ⟨h9, h⟩ := h
                                                                                            subst h9
                                                                                            subst h
                                                                                            refine j_widen (cl' := mc) (sl' := ms) (by omega) (by omega) ?_
                                                                                            exact j_zret (w := [(h0, .inr (9, moF am known_h0 thrown_h0 wrong_h0 lastEnd_h0 r909 r910 r895 r896 found_h0)), ((am 5), .inr (8, [.ref a_all_m5, .int size_m5])), (a_all_m5, .inl (cI, n_a_all_m5, .inl b_a_all_m5)), ((am 20), .inr (8, [.ref q900, .int r897])), ((am 2), .inl (cI, n_m2, .inl b_m2)), ((am 21), .inr (8, [.ref a_all_m21, .int size_m21])), ((am 7), .inr (8, [.ref a_all_m7, .int size_m7])), (a_all_m7, .inl (cI, n_a_all_m7, .inl b_a_all_m7)), ((am 6), .inr (8, [.ref a_all_m6, .int size_m6])), (a_all_m6, .inl (cI, n_a_all_m6, .inl b_a_all_m6)), ((am 4), .inr (8, [.ref a_all_m4, .int size_m4])), (a_all_m4, .inl (cI, n_a_all_m4, .inl b_a_all_m4)), ((am 22), .inr (8, [.ref a_all_m22, .int size_m22])), (q900, .inl (cI, r898, .inl r899)), (a_all_m21, .inl (cI, n_a_all_m21, .inl b_a_all_m21)), (a_all_m22, .inl (cI, n_a_all_m22, .inl b_a_all_m22))]) hr (zb_n zb1) d_Mo_readStatement_539 [13, 14, 15, 10, 11, 0, 2, 3, 4, 5, 6, 7, 8, 12, 1, 9] rfl (by decide) ⟨q900, a_all_m21, a_all_m22, rfl, zb1, rfl⟩
                                                                                      · replace h := it_f c891 h
                                                                                        refine j_tabOut (tgt := 540) d_Mo_readStatement_6 (by have := lv_neT c13 (by decide : (10 : Int32).toInt = 10); have := lv_neT c44 (by decide : (11 : Int32).toInt = 11); have := lv_neT c63 (by decide : (12 : Int32).toInt = 12); have := lv_neT c67 (by decide : (13 : Int32).toInt = 13); have := lv_neT c77 (by decide : (14 : Int32).toInt = 14); have := lv_neT c108 (by decide : (15 : Int32).toInt = 15); have := lv_neT c164 (by decide : (16 : Int32).toInt = 16); have := lv_neT c175 (by decide : (17 : Int32).toInt = 17); have := lv_neT c186 (by decide : (18 : Int32).toInt = 18); have := lv_neT c192 (by decide : (19 : Int32).toInt = 19); have := lv_neT c211 (by decide : (20 : Int32).toInt = 20); have := lv_neT c233 (by decide : (21 : Int32).toInt = 21); have := lv_neT c255 (by decide : (22 : Int32).toInt = 22); have := lv_neT c271 (by decide : (23 : Int32).toInt = 23); have := lv_neT c275 (by decide : (24 : Int32).toInt = 24); have := lv_neT c297 (by decide : (25 : Int32).toInt = 25); have := lv_neT c319 (by decide : (26 : Int32).toInt = 26); have := lv_neT c341 (by decide : (27 : Int32).toInt = 27); have := lv_neT c363 (by decide : (28 : Int32).toInt = 28); have := lv_neT c385 (by decide : (29 : Int32).toInt = 29); have := lv_neT c407 (by decide : (30 : Int32).toInt = 30); have := lv_neT c429 (by decide : (31 : Int32).toInt = 31); have := lv_neT c451 (by decide : (32 : Int32).toInt = 32); have := lv_neT c473 (by decide : (33 : Int32).toInt = 33); have := lv_neT c495 (by decide : (34 : Int32).toInt = 34); have := lv_neT c517 (by decide : (35 : Int32).toInt = 35); have := lv_neT c539 (by decide : (36 : Int32).toInt = 36); have := lv_neT c561 (by decide : (37 : Int32).toInt = 37); have := lv_neT c583 (by decide : (38 : Int32).toInt = 38); have := lv_neT c605 (by decide : (39 : Int32).toInt = 39); have := lv_neT c627 (by decide : (40 : Int32).toInt = 40); have := lv_neT c649 (by decide : (41 : Int32).toInt = 41); have := lv_neT c671 (by decide : (42 : Int32).toInt = 42); have := lv_neT c693 (by decide : (43 : Int32).toInt = 43); have := lv_neT c715 (by decide : (44 : Int32).toInt = 44); have := lv_neT c737 (by decide : (45 : Int32).toInt = 45); have := lv_neT c759 (by decide : (46 : Int32).toInt = 46); have := lv_neT c781 (by decide : (47 : Int32).toInt = 47); have := lv_neT c803 (by decide : (48 : Int32).toInt = 48); have := lv_neT c825 (by decide : (49 : Int32).toInt = 49); have := lv_neT c847 (by decide : (50 : Int32).toInt = 50); have := lv_neT c869 (by decide : (51 : Int32).toInt = 51); have := lv_neT c891 (by decide : (52 : Int32).toInt = 52); omega) (by decide) ?_
                                                                                        refine j_aload_n d_Mo_readStatement_540 rfl 1 rfl ?_
                                                                                        replace h := bw_s h
                                                                                        obtain ⟨⟨r914, r915, r916, r917, r918, r919, r920⟩, C923, S924, C925, S926, k927, h, e1, e2⟩ := h
                                                                                        replace hC : 0 + C923 + C925 ≤ mc := by omega
                                                                                        replace hS : 0 + S924 + S926 ≤ ms := by omega
                                                                                        clear e1 e2
                                                                                        refine j_callV (n := 0) (As := []) (rest := []) (wr := [((am 21), .inr (8, [.ref a_all_m21, .int size_m21])), (a_all_m21, .inl (cI, n_a_all_m21, .inl b_a_all_m21)), ((am 7), .inr (8, [.ref a_all_m7, .int size_m7])), (a_all_m7, .inl (cI, n_a_all_m7, .inl b_a_all_m7)), ((am 6), .inr (8, [.ref a_all_m6, .int size_m6])), (a_all_m6, .inl (cI, n_a_all_m6, .inl b_a_all_m6)), ((am 4), .inr (8, [.ref a_all_m4, .int size_m4])), (a_all_m4, .inl (cI, n_a_all_m4, .inl b_a_all_m4)), ((am 22), .inr (8, [.ref a_all_m22, .int size_m22])), (a_all_m22, .inl (cI, n_a_all_m22, .inl b_a_all_m22))]) (c_Mo_readWorking l D cI cB cJ cS h0 am a_all_m20 a_all_m5 known_h0 thrown_h0 wrong_h0 lastEnd_h0 at_h0 bad_h0 levels_h0 least_h0 found_h0 size_m20 size_m5 n_a_all_m5 b_a_all_m5 n_a_all_m20 b_a_all_m20 n_m2 b_m2  r914 r915 r916 r917 r918 r919 r920 C923 S924 k927) k_Mo_362 (by decide) ⟨Nat.le_of_ble_eq_true rfl, Nat.le_of_ble_eq_true rfl⟩ rfl 0 rfl [13, 0, 14, 15, 1, 2] [3, 4, 5, 6, 7, 8, 9, 10, 11, 12] rfl (by decide +kernel) rfl (by decide +kernel) (by decide +kernel) rfl rfl (Nat.le_of_ble_eq_true rfl) d_Mo_readStatement_541 ⟨show 0 + C923 ≤ mc by omega, show 0 + S924 ≤ ms by omega⟩ (fun v w hq => ?_)
                                                                                        obtain ⟨q921, rfl, z922, rfl⟩ := hq
                                                                                        refine j_norm (pc' := 544) (st' := [.int r914]) (ws' := [((am 21), .inr (8, [.ref a_all_m21, .int size_m21])), (a_all_m21, .inl (cI, n_a_all_m21, .inl b_a_all_m21)), ((am 7), .inr (8, [.ref a_all_m7, .int size_m7])), (a_all_m7, .inl (cI, n_a_all_m7, .inl b_a_all_m7)), ((am 6), .inr (8, [.ref a_all_m6, .int size_m6])), (a_all_m6, .inl (cI, n_a_all_m6, .inl b_a_all_m6)), ((am 4), .inr (8, [.ref a_all_m4, .int size_m4])), (a_all_m4, .inl (cI, n_a_all_m4, .inl b_a_all_m4)), ((am 22), .inr (8, [.ref a_all_m22, .int size_m22])), (a_all_m22, .inl (cI, n_a_all_m22, .inl b_a_all_m22)), (h0, .inr (9, moF am known_h0 thrown_h0 wrong_h0 lastEnd_h0 r915 r916 r917 least_h0 found_h0)), ((am 20), .inr (8, [.ref q921, .int r918])), ((am 5), .inr (8, [.ref a_all_m5, .int size_m5])), (a_all_m5, .inl (cI, n_a_all_m5, .inl b_a_all_m5)), ((am 2), .inl (cI, n_m2, .inl b_m2)), (q921, .inl (cI, r919, .inl r920))]) (cl' := 0 + C923) (sl' := 0 + S924) rfl rfl rfl rfl rfl rfl ?_
                                                                                        refine j_if_eq (tgt := 560) d_Mo_readStatement_544 (by decide) (fun c928 => ?_) (fun c928 => ?_)
                                                                                        · replace h := it_t c928 h
                                                                                          refine j_iconst (v := 0) d_Mo_readStatement_560 (by decide) ?_
                                                                                          replace h := lf_s h
                                                                                          obtain ⟨h, e1, e2⟩ := h
                                                                                          replace h := Prod.mk.inj h
                                                                                          obtain ⟨h9, h⟩ := h
                                                                                          subst h9
                                                                                          replace h := Prod.mk.inj h
                                                                                          obtain ⟨h9, h⟩ := h
                                                                                          subst h9
                                                                                          replace h := Prod.mk.inj h
                                                                                          obtain ⟨h9, h⟩ := h
                                                                                          subst h9
                                                                                          replace h := Prod.mk.inj h
                                                                                          obtain ⟨h9, h⟩ := h
                                                                                          subst h9
                                                                                          replace h := Prod.mk.inj h
                                                                                          obtain ⟨h9, h⟩ := h
                                                                                          subst h9
                                                                                          replace h := Prod.mk.inj h
                                                                                          obtain ⟨h9, h⟩ := h
                                                                                          subst h9
                                                                                          replace h := Prod.mk.inj h
                                                                                          obtain ⟨h9, h⟩ := h
                                                                                          subst h9
                                                                                          replace h := Prod.mk.inj h
                                                                                          obtain ⟨h9, h⟩ := h
                                                                                          subst h9
                                                                                          replace h := Prod.mk.inj h
                                                                                          obtain ⟨h9, h⟩ := h
                                                                                          subst h9
                                                                                          replace h := Prod.mk.inj h
                                                                                          obtain ⟨h9, h⟩ := h
                                                                                          subst h9
                                                                                          replace h := Prod.mk.inj h
                                                                                          obtain ⟨h9, h⟩ := h
                                                                                          subst h9
                                                                                          replace h := Prod.mk.inj h
                                                                                          obtain ⟨h9, h⟩ := h
                                                                                          subst h9
                                                                                          replace h := Prod.mk.inj h
                                                                                          obtain ⟨h9, h⟩ := h
                                                                                          subst h9
                                                                                          subst h
                                                                                          refine j_widen (cl' := mc) (sl' := ms) (by omega) (by omega) ?_
                                                                                          exact j_zret (w := [(h0, .inr (9, moF am known_h0 thrown_h0 wrong_h0 lastEnd_h0 r915 r916 r917 least_h0 found_h0)), ((am 5), .inr (8, [.ref a_all_m5, .int size_m5])), (a_all_m5, .inl (cI, n_a_all_m5, .inl b_a_all_m5)), ((am 20), .inr (8, [.ref q921, .int r918])), ((am 2), .inl (cI, n_m2, .inl b_m2)), ((am 21), .inr (8, [.ref a_all_m21, .int size_m21])), ((am 7), .inr (8, [.ref a_all_m7, .int size_m7])), (a_all_m7, .inl (cI, n_a_all_m7, .inl b_a_all_m7)), ((am 6), .inr (8, [.ref a_all_m6, .int size_m6])), (a_all_m6, .inl (cI, n_a_all_m6, .inl b_a_all_m6)), ((am 4), .inr (8, [.ref a_all_m4, .int size_m4])), (a_all_m4, .inl (cI, n_a_all_m4, .inl b_a_all_m4)), ((am 22), .inr (8, [.ref a_all_m22, .int size_m22])), (q921, .inl (cI, r919, .inl r920)), (a_all_m21, .inl (cI, n_a_all_m21, .inl b_a_all_m21)), (a_all_m22, .inl (cI, n_a_all_m22, .inl b_a_all_m22))]) hr (zb_n zb0) d_Mo_readStatement_561 [10, 12, 13, 11, 14, 0, 2, 3, 4, 5, 6, 7, 8, 15, 1, 9] rfl (by decide) ⟨q921, a_all_m21, a_all_m22, rfl, zb0, rfl⟩
                                                                                        · replace h := it_f c928 h
                                                                                          refine j_aload_n d_Mo_readStatement_547 rfl 1 rfl ?_
                                                                                          refine j_bipush (v := 55) d_Mo_readStatement_548 (by decide) ?_
                                                                                          replace h := bd_s h
                                                                                          obtain ⟨⟨r929, r930, r931⟩, k933, h⟩ := h
                                                                                          refine j_callV (n := 1) (As := [.int 55]) (rest := []) (wr := [((am 21), .inr (8, [.ref a_all_m21, .int size_m21])), (a_all_m21, .inl (cI, n_a_all_m21, .inl b_a_all_m21)), ((am 7), .inr (8, [.ref a_all_m7, .int size_m7])), (a_all_m7, .inl (cI, n_a_all_m7, .inl b_a_all_m7)), ((am 6), .inr (8, [.ref a_all_m6, .int size_m6])), (a_all_m6, .inl (cI, n_a_all_m6, .inl b_a_all_m6)), ((am 4), .inr (8, [.ref a_all_m4, .int size_m4])), (a_all_m4, .inl (cI, n_a_all_m4, .inl b_a_all_m4)), ((am 22), .inr (8, [.ref a_all_m22, .int size_m22])), (a_all_m22, .inl (cI, n_a_all_m22, .inl b_a_all_m22)), ((am 20), .inr (8, [.ref q921, .int r918])), ((am 2), .inl (cI, n_m2, .inl b_m2)), (q921, .inl (cI, r919, .inl r920))]) (c_Mo_take l D cI cB cJ cS h0 am a_all_m5 55 known_h0 thrown_h0 wrong_h0 lastEnd_h0 r915 r916 r917 least_h0 found_h0 size_m5 n_a_all_m5 b_a_all_m5  r929 r930 r931 k933) k_Mo_285 (by decide) ⟨Nat.le_of_ble_eq_true rfl, Nat.le_of_ble_eq_true rfl⟩ rfl 0 rfl [10, 12, 13] [0, 1, 2, 3, 4, 5, 6, 7, 8, 9, 11, 14, 15] rfl (by decide +kernel) rfl (by decide +kernel) (by decide +kernel) rfl rfl (Nat.le_of_ble_eq_true rfl) d_Mo_readStatement_550 ⟨show 0 + C923 + 0 ≤ mc by omega, show 0 + S924 + 0 ≤ ms by omega⟩ (fun v w hq => ?_)
                                                                                          obtain ⟨rfl, z932, rfl⟩ := hq
                                                                                          refine j_norm (pc' := 553) (st' := [.int r929]) (ws' := [((am 21), .inr (8, [.ref a_all_m21, .int size_m21])), (a_all_m21, .inl (cI, n_a_all_m21, .inl b_a_all_m21)), ((am 7), .inr (8, [.ref a_all_m7, .int size_m7])), (a_all_m7, .inl (cI, n_a_all_m7, .inl b_a_all_m7)), ((am 6), .inr (8, [.ref a_all_m6, .int size_m6])), (a_all_m6, .inl (cI, n_a_all_m6, .inl b_a_all_m6)), ((am 4), .inr (8, [.ref a_all_m4, .int size_m4])), (a_all_m4, .inl (cI, n_a_all_m4, .inl b_a_all_m4)), ((am 22), .inr (8, [.ref a_all_m22, .int size_m22])), (a_all_m22, .inl (cI, n_a_all_m22, .inl b_a_all_m22)), ((am 20), .inr (8, [.ref q921, .int r918])), ((am 2), .inl (cI, n_m2, .inl b_m2)), (q921, .inl (cI, r919, .inl r920)), (h0, .inr (9, moF am known_h0 thrown_h0 wrong_h0 lastEnd_h0 r930 r931 r917 least_h0 found_h0)), ((am 5), .inr (8, [.ref a_all_m5, .int size_m5])), (a_all_m5, .inl (cI, n_a_all_m5, .inl b_a_all_m5))]) (cl' := 0 + C923) (sl' := 0 + S924) rfl rfl rfl rfl rfl rfl ?_
                                                                                          refine j_if_eq (tgt := 560) d_Mo_readStatement_553 (by decide) (fun c934 => ?_) (fun c934 => ?_)
                                                                                          · replace h := it_t c934 h
                                                                                            refine j_iconst (v := 0) d_Mo_readStatement_560 (by decide) ?_
                                                                                            replace h := lf_s h
                                                                                            obtain ⟨h, e1, e2⟩ := h
                                                                                            replace h := Prod.mk.inj h
                                                                                            obtain ⟨h9, h⟩ := h
                                                                                            subst h9
                                                                                            replace h := Prod.mk.inj h
                                                                                            obtain ⟨h9, h⟩ := h
                                                                                            subst h9
                                                                                            replace h := Prod.mk.inj h
                                                                                            obtain ⟨h9, h⟩ := h
                                                                                            subst h9
                                                                                            replace h := Prod.mk.inj h
                                                                                            obtain ⟨h9, h⟩ := h
                                                                                            subst h9
                                                                                            replace h := Prod.mk.inj h
                                                                                            obtain ⟨h9, h⟩ := h
                                                                                            subst h9
                                                                                            replace h := Prod.mk.inj h
                                                                                            obtain ⟨h9, h⟩ := h
                                                                                            subst h9
                                                                                            replace h := Prod.mk.inj h
                                                                                            obtain ⟨h9, h⟩ := h
                                                                                            subst h9
                                                                                            replace h := Prod.mk.inj h
                                                                                            obtain ⟨h9, h⟩ := h
                                                                                            subst h9
                                                                                            replace h := Prod.mk.inj h
                                                                                            obtain ⟨h9, h⟩ := h
                                                                                            subst h9
                                                                                            replace h := Prod.mk.inj h
                                                                                            obtain ⟨h9, h⟩ := h
                                                                                            subst h9
                                                                                            replace h := Prod.mk.inj h
                                                                                            obtain ⟨h9, h⟩ := h
                                                                                            subst h9
                                                                                            replace h := Prod.mk.inj h
                                                                                            obtain ⟨h9, h⟩ := h
                                                                                            subst h9
                                                                                            replace h := Prod.mk.inj h
                                                                                            obtain ⟨h9, h⟩ := h
                                                                                            subst h9
                                                                                            subst h
                                                                                            refine j_widen (cl' := mc) (sl' := ms) (by omega) (by omega) ?_
                                                                                            exact j_zret (w := [(h0, .inr (9, moF am known_h0 thrown_h0 wrong_h0 lastEnd_h0 r930 r931 r917 least_h0 found_h0)), ((am 5), .inr (8, [.ref a_all_m5, .int size_m5])), (a_all_m5, .inl (cI, n_a_all_m5, .inl b_a_all_m5)), ((am 20), .inr (8, [.ref q921, .int r918])), ((am 2), .inl (cI, n_m2, .inl b_m2)), ((am 21), .inr (8, [.ref a_all_m21, .int size_m21])), ((am 7), .inr (8, [.ref a_all_m7, .int size_m7])), (a_all_m7, .inl (cI, n_a_all_m7, .inl b_a_all_m7)), ((am 6), .inr (8, [.ref a_all_m6, .int size_m6])), (a_all_m6, .inl (cI, n_a_all_m6, .inl b_a_all_m6)), ((am 4), .inr (8, [.ref a_all_m4, .int size_m4])), (a_all_m4, .inl (cI, n_a_all_m4, .inl b_a_all_m4)), ((am 22), .inr (8, [.ref a_all_m22, .int size_m22])), (q921, .inl (cI, r919, .inl r920)), (a_all_m21, .inl (cI, n_a_all_m21, .inl b_a_all_m21)), (a_all_m22, .inl (cI, n_a_all_m22, .inl b_a_all_m22))]) hr (zb_n zb0) d_Mo_readStatement_561 [13, 14, 15, 10, 11, 0, 2, 3, 4, 5, 6, 7, 8, 12, 1, 9] rfl (by decide) ⟨q921, a_all_m21, a_all_m22, rfl, zb0, rfl⟩
                                                                                          · replace h := it_f c934 h
                                                                                            refine j_iconst (v := 1) d_Mo_readStatement_556 (by decide) ?_
                                                                                            refine j_goto (tgt := 561) d_Mo_readStatement_557 (by decide) ?_
                                                                                            replace h := lf_s h
                                                                                            obtain ⟨h, e1, e2⟩ := h
                                                                                            replace h := Prod.mk.inj h
                                                                                            obtain ⟨h9, h⟩ := h
                                                                                            subst h9
                                                                                            replace h := Prod.mk.inj h
                                                                                            obtain ⟨h9, h⟩ := h
                                                                                            subst h9
                                                                                            replace h := Prod.mk.inj h
                                                                                            obtain ⟨h9, h⟩ := h
                                                                                            subst h9
                                                                                            replace h := Prod.mk.inj h
                                                                                            obtain ⟨h9, h⟩ := h
                                                                                            subst h9
                                                                                            replace h := Prod.mk.inj h
                                                                                            obtain ⟨h9, h⟩ := h
                                                                                            subst h9
                                                                                            replace h := Prod.mk.inj h
                                                                                            obtain ⟨h9, h⟩ := h
                                                                                            subst h9
                                                                                            replace h := Prod.mk.inj h
                                                                                            obtain ⟨h9, h⟩ := h
                                                                                            subst h9
                                                                                            replace h := Prod.mk.inj h
                                                                                            obtain ⟨h9, h⟩ := h
                                                                                            subst h9
                                                                                            replace h := Prod.mk.inj h
                                                                                            obtain ⟨h9, h⟩ := h
                                                                                            subst h9
                                                                                            replace h := Prod.mk.inj h
                                                                                            obtain ⟨h9, h⟩ := h
                                                                                            subst h9
                                                                                            replace h := Prod.mk.inj h
                                                                                            obtain ⟨h9, h⟩ := h
                                                                                            subst h9
                                                                                            replace h := Prod.mk.inj h
                                                                                            obtain ⟨h9, h⟩ := h
                                                                                            subst h9
                                                                                            replace h := Prod.mk.inj h
                                                                                            obtain ⟨h9, h⟩ := h
                                                                                            subst h9
                                                                                            subst h
                                                                                            refine j_widen (cl' := mc) (sl' := ms) (by omega) (by omega) ?_
                                                                                            exact j_zret (w := [(h0, .inr (9, moF am known_h0 thrown_h0 wrong_h0 lastEnd_h0 r930 r931 r917 least_h0 found_h0)), ((am 5), .inr (8, [.ref a_all_m5, .int size_m5])), (a_all_m5, .inl (cI, n_a_all_m5, .inl b_a_all_m5)), ((am 20), .inr (8, [.ref q921, .int r918])), ((am 2), .inl (cI, n_m2, .inl b_m2)), ((am 21), .inr (8, [.ref a_all_m21, .int size_m21])), ((am 7), .inr (8, [.ref a_all_m7, .int size_m7])), (a_all_m7, .inl (cI, n_a_all_m7, .inl b_a_all_m7)), ((am 6), .inr (8, [.ref a_all_m6, .int size_m6])), (a_all_m6, .inl (cI, n_a_all_m6, .inl b_a_all_m6)), ((am 4), .inr (8, [.ref a_all_m4, .int size_m4])), (a_all_m4, .inl (cI, n_a_all_m4, .inl b_a_all_m4)), ((am 22), .inr (8, [.ref a_all_m22, .int size_m22])), (q921, .inl (cI, r919, .inl r920)), (a_all_m21, .inl (cI, n_a_all_m21, .inl b_a_all_m21)), (a_all_m22, .inl (cI, n_a_all_m22, .inl b_a_all_m22))]) hr (zb_n zb1) d_Mo_readStatement_561 [13, 14, 15, 10, 11, 0, 2, 3, 4, 5, 6, 7, 8, 12, 1, 9] rfl (by decide) ⟨q921, a_all_m21, a_all_m22, rfl, zb1, rfl⟩
