def F_Mo_written (p1 : Int32) (known_h0 : Int32) (thrown_h0 : Int32) (wrong_h0 : Int32) (lastEnd_h0 : Int32) (at_h0 : Int32) (bad_h0 : Int32) (levels_h0 : Int32) (least_h0 : Int32) (found_h0 : Int32) (size_m37 : Int32) (n_a_all_m37 : Nat) (b_a_all_m37 : Nat → Int32) : Option (Int32) :=
  if p1 < 0 then (some (-1))
  else if size_m37 ≤ p1 then (some (-1))
  else (Option.bind (F_Nm_at p1 size_m37 n_a_all_m37 b_a_all_m37) fun _ =>
    (some (b_a_all_m37 (Int32.toNatClampNeg p1))))
theorem d_Mo_written_0 : decode prog_12_method_92_code 0 = .ok (.aload_n 0, 1) := by decide +kernel
theorem d_Mo_written_1 : decode prog_12_method_92_code 1 = .ok (.iconst 0, 1) := by decide +kernel
theorem d_Mo_written_2 : decode prog_12_method_92_code 2 = .ok (.putfield 197, 3) := by decide +kernel
theorem d_Mo_written_5 : decode prog_12_method_92_code 5 = .ok (.iload_n 1, 1) := by decide +kernel
theorem d_Mo_written_6 : decode prog_12_method_92_code 6 = .ok (.ifCond .lt 25, 3) := by decide +kernel
theorem d_Mo_written_9 : decode prog_12_method_92_code 9 = .ok (.iload_n 1, 1) := by decide +kernel
theorem d_Mo_written_10 : decode prog_12_method_92_code 10 = .ok (.aload_n 0, 1) := by decide +kernel
theorem d_Mo_written_11 : decode prog_12_method_92_code 11 = .ok (.getfield 187, 3) := by decide +kernel
theorem d_Mo_written_14 : decode prog_12_method_92_code 14 = .ok (.getfield 204, 3) := by decide +kernel
theorem d_Mo_written_17 : decode prog_12_method_92_code 17 = .ok (.if_icmp .ge 14, 3) := by decide +kernel
theorem d_Mo_written_20 : decode prog_12_method_92_code 20 = .ok (.aload_n 0, 1) := by decide +kernel
theorem d_Mo_written_21 : decode prog_12_method_92_code 21 = .ok (.getfield 187, 3) := by decide +kernel
theorem d_Mo_written_24 : decode prog_12_method_92_code 24 = .ok (.iload_n 1, 1) := by decide +kernel
theorem d_Mo_written_25 : decode prog_12_method_92_code 25 = .ok (.invokevirtual 214, 3) := by decide +kernel
theorem d_Mo_written_28 : decode prog_12_method_92_code 28 = .ok (.goto 4, 3) := by decide +kernel
theorem d_Mo_written_31 : decode prog_12_method_92_code 31 = .ok (.iconst (-1), 1) := by decide +kernel
theorem d_Mo_written_32 : decode prog_12_method_92_code 32 = .ok (.ireturn, 1) := by decide +kernel
set_option maxHeartbeats 4000000 in
set_option maxRecDepth 100000 in
theorem c_Mo_written (l : Launch) (D : va_G) (cI cB cJ cS : ClassId) (h0 : Nat) (am : Nat → Nat) (a_all_m37 : Nat) (p1 : Int32) (known_h0 : Int32) (thrown_h0 : Int32) (wrong_h0 : Int32) (lastEnd_h0 : Int32) (at_h0 : Int32) (bad_h0 : Int32) (levels_h0 : Int32) (least_h0 : Int32) (found_h0 : Int32) (size_m37 : Int32) (n_a_all_m37 : Nat) (b_a_all_m37 : Nat → Int32) (ret : Int32) (h : F_Mo_written p1 known_h0 thrown_h0 wrong_h0 lastEnd_h0 at_h0 bad_h0 levels_h0 least_h0 found_h0 size_m37 n_a_all_m37 b_a_all_m37 = some ret) : Ct l D (gT cI cB cJ cS) y_Mo_written prog_12_method_92_code 2 (Option.some Jvm.ClassFile.FieldType.int) 1 21 0 0 [.ref h0, .int p1] [(h0, .inr (9, moF am known_h0 thrown_h0 wrong_h0 lastEnd_h0 at_h0 bad_h0 levels_h0 least_h0 found_h0)), ((am 37), .inr (8, [.ref a_all_m37, .int size_m37])), (a_all_m37, .inl (cI, n_a_all_m37, .inl b_a_all_m37))] (fun v w => v = some (.int ret) ∧ w = [(h0, .inr (9, moF am known_h0 0 wrong_h0 lastEnd_h0 at_h0 bad_h0 levels_h0 least_h0 found_h0)), ((am 37), .inr (8, [.ref a_all_m37, .int size_m37])), (a_all_m37, .inl (cI, n_a_all_m37, .inl b_a_all_m37))]) := by
  refine Ct.mk (by decide) (Nat.le_of_ble_eq_true rfl) ?_
  intro p e s m below meth c hr hnm
  refine j_norm (pc' := 0) (lv' := [(0, .ref h0), (1, .int p1)]) (st' := []) (ws' := [(h0, .inr (9, moF am known_h0 thrown_h0 wrong_h0 lastEnd_h0 at_h0 bad_h0 levels_h0 least_h0 found_h0)), ((am 37), .inr (8, [.ref a_all_m37, .int size_m37])), (a_all_m37, .inl (cI, n_a_all_m37, .inl b_a_all_m37))]) (cl' := 0) (sl' := 0) rfl rfl rfl rfl rfl rfl ?_
  unfold F_Mo_written at h
  refine j_aload_n d_Mo_written_0 rfl 0 rfl ?_
  refine j_iconst (v := 0) d_Mo_written_1 (by decide) ?_
  refine j_put (ws' := [(h0, .inr (9, moF am known_h0 0 wrong_h0 lastEnd_h0 at_h0 bad_h0 levels_h0 least_h0 found_h0)), ((am 37), .inr (8, [.ref a_all_m37, .int size_m37])), (a_all_m37, .inl (cI, n_a_all_m37, .inl b_a_all_m37))]) ig_Mo tk_Mo nm_Mo rfl 0 rfl 13 (by decide) rfl m_1126 rfl (tk_Mo 13 (by decide)) rfl rfl (Nat.le_of_ble_eq_true rfl) d_Mo_written_2 rfl ?_
  refine j_iload_n d_Mo_written_5 rfl 1 rfl ?_
  refine j_if_lt (tgt := 31) d_Mo_written_6 (by decide) (fun c1 => ?_) (fun c1 => ?_)
  · replace h := it_t c1 h
    refine j_iconst (v := (-1)) d_Mo_written_31 (by decide) ?_
    replace h := Option.some.inj h
    subst h
    exact j_iret (w := [(h0, .inr (9, moF am known_h0 0 wrong_h0 lastEnd_h0 at_h0 bad_h0 levels_h0 least_h0 found_h0)), ((am 37), .inr (8, [.ref a_all_m37, .int size_m37])), (a_all_m37, .inl (cI, n_a_all_m37, .inl b_a_all_m37))]) hr d_Mo_written_32 [0, 1, 2] rfl (by decide) ⟨rfl, rfl⟩
  · replace h := it_f c1 h
    refine j_iload_n d_Mo_written_9 rfl 1 rfl ?_
    refine j_aload_n d_Mo_written_10 rfl 0 rfl ?_
    refine j_get ig_Mo rfl 0 rfl 37 (by decide) rfl m_1150 rfl d_Mo_written_11 ?_
    refine j_getN ig_Nm rfl 1 rfl 1 (by decide) rfl mn_13 rfl d_Mo_written_14 ?_
    refine j_icmp_ge (tgt := 31) d_Mo_written_17 (by decide) (fun c2 => ?_) (fun c2 => ?_)
    · replace h := it_t c2 h
      refine j_iconst (v := (-1)) d_Mo_written_31 (by decide) ?_
      replace h := Option.some.inj h
      subst h
      exact j_iret (w := [(h0, .inr (9, moF am known_h0 0 wrong_h0 lastEnd_h0 at_h0 bad_h0 levels_h0 least_h0 found_h0)), ((am 37), .inr (8, [.ref a_all_m37, .int size_m37])), (a_all_m37, .inl (cI, n_a_all_m37, .inl b_a_all_m37))]) hr d_Mo_written_32 [0, 1, 2] rfl (by decide) ⟨rfl, rfl⟩
    · replace h := it_f c2 h
      refine j_aload_n d_Mo_written_20 rfl 0 rfl ?_
      refine j_get ig_Mo rfl 0 rfl 37 (by decide) rfl m_1150 rfl d_Mo_written_21 ?_
      refine j_iload_n d_Mo_written_24 rfl 1 rfl ?_
      replace h := bd_s h
      obtain ⟨_, k3, h⟩ := h
      refine j_callV (n := 1) (As := [.int p1]) (rest := []) (wr := [(h0, .inr (9, moF am known_h0 0 wrong_h0 lastEnd_h0 at_h0 bad_h0 levels_h0 least_h0 found_h0))]) (c_Nm_at l D cI cB cJ cS (am 37) a_all_m37 p1 size_m37 n_a_all_m37 b_a_all_m37  k3) k_Mo_214 (by decide) ⟨Nat.le_of_ble_eq_true rfl, Nat.le_of_ble_eq_true rfl⟩ rfl 0 rfl [1, 2] [0] rfl (by decide) rfl (by decide) (by decide) rfl rfl (Nat.le_of_ble_eq_true rfl) d_Mo_written_25 ⟨Nat.le_of_ble_eq_true rfl, Nat.le_of_ble_eq_true rfl⟩ (fun v w hq => ?_)
      obtain ⟨rfl, rfl⟩ := hq
      refine j_norm (pc' := 28) (st' := [.int (b_a_all_m37 (Int32.toNatClampNeg p1))]) (ws' := [(h0, .inr (9, moF am known_h0 0 wrong_h0 lastEnd_h0 at_h0 bad_h0 levels_h0 least_h0 found_h0)), ((am 37), .inr (8, [.ref a_all_m37, .int size_m37])), (a_all_m37, .inl (cI, n_a_all_m37, .inl b_a_all_m37))]) (cl' := 0) (sl' := 0) rfl rfl rfl rfl rfl rfl ?_
      refine j_goto (tgt := 32) d_Mo_written_28 (by decide) ?_
      replace h := Option.some.inj h
      subst h
      exact j_iret (w := [(h0, .inr (9, moF am known_h0 0 wrong_h0 lastEnd_h0 at_h0 bad_h0 levels_h0 least_h0 found_h0)), ((am 37), .inr (8, [.ref a_all_m37, .int size_m37])), (a_all_m37, .inl (cI, n_a_all_m37, .inl b_a_all_m37))]) hr d_Mo_written_32 [0, 1, 2] rfl (by decide) ⟨rfl, rfl⟩
noncomputable def F_Mo_rewind (known_h0 : Int32) (thrown_h0 : Int32) (wrong_h0 : Int32) (lastEnd_h0 : Int32) (at_h0 : Int32) (bad_h0 : Int32) (levels_h0 : Int32) (least_h0 : Int32) (found_h0 : Int32) (size_m3 : Int32) (size_m37 : Int32) (n_a_all_m37 : Nat) (b_a_all_m37 : Nat → Int32) (n_a_all_m3 : Nat) (b_a_all_m3 : Nat → Int32) : Option ((Int32 × Int32 × Nat × (Nat → Int32)) × Nat × Nat) :=
  bw (F_Nm_become size_m3 size_m37 n_a_all_m37 b_a_all_m37 n_a_all_m3 b_a_all_m3) fun ⟨r1, r2, r3⟩ =>
  (some ((r1, r1, r2, r3), 0, 0))
theorem d_Mo_rewind_0 : decode prog_12_method_93_code 0 = .ok (.aload_n 0, 1) := by decide +kernel
theorem d_Mo_rewind_1 : decode prog_12_method_93_code 1 = .ok (.iconst 0, 1) := by decide +kernel
theorem d_Mo_rewind_2 : decode prog_12_method_93_code 2 = .ok (.putfield 197, 3) := by decide +kernel
theorem d_Mo_rewind_5 : decode prog_12_method_93_code 5 = .ok (.aload_n 0, 1) := by decide +kernel
theorem d_Mo_rewind_6 : decode prog_12_method_93_code 6 = .ok (.getfield 107, 3) := by decide +kernel
theorem d_Mo_rewind_9 : decode prog_12_method_93_code 9 = .ok (.aload_n 0, 1) := by decide +kernel
theorem d_Mo_rewind_10 : decode prog_12_method_93_code 10 = .ok (.getfield 187, 3) := by decide +kernel
theorem d_Mo_rewind_13 : decode prog_12_method_93_code 13 = .ok (.invokevirtual 476, 3) := by decide +kernel
theorem d_Mo_rewind_16 : decode prog_12_method_93_code 16 = .ok (.aload_n 0, 1) := by decide +kernel
theorem d_Mo_rewind_17 : decode prog_12_method_93_code 17 = .ok (.getfield 107, 3) := by decide +kernel
theorem d_Mo_rewind_20 : decode prog_12_method_93_code 20 = .ok (.getfield 204, 3) := by decide +kernel
theorem d_Mo_rewind_23 : decode prog_12_method_93_code 23 = .ok (.ireturn, 1) := by decide +kernel
set_option maxHeartbeats 4000000 in
set_option maxRecDepth 100000 in
theorem c_Mo_rewind (l : Launch) (D : va_G) (cI cB cJ cS : ClassId) (h0 : Nat) (am : Nat → Nat) (a_all_m3 : Nat) (a_all_m37 : Nat) (known_h0 : Int32) (thrown_h0 : Int32) (wrong_h0 : Int32) (lastEnd_h0 : Int32) (at_h0 : Int32) (bad_h0 : Int32) (levels_h0 : Int32) (least_h0 : Int32) (found_h0 : Int32) (size_m3 : Int32) (size_m37 : Int32) (n_a_all_m37 : Nat) (b_a_all_m37 : Nat → Int32) (n_a_all_m3 : Nat) (b_a_all_m3 : Nat → Int32) (ret : Int32) (o_1_1 : Int32) (on_nq_1_0 : Nat) (ob_nq_1_0 : Nat → Int32) (mc ms : Nat) (h : F_Mo_rewind known_h0 thrown_h0 wrong_h0 lastEnd_h0 at_h0 bad_h0 levels_h0 least_h0 found_h0 size_m3 size_m37 n_a_all_m37 b_a_all_m37 n_a_all_m3 b_a_all_m3 = some ((ret, o_1_1, on_nq_1_0, ob_nq_1_0), mc, ms)) : Ct l D (gT cI cB cJ cS) y_Mo_rewind prog_12_method_93_code 1 (Option.some Jvm.ClassFile.FieldType.int) 2 45 mc ms [.ref h0] [(h0, .inr (9, moF am known_h0 thrown_h0 wrong_h0 lastEnd_h0 at_h0 bad_h0 levels_h0 least_h0 found_h0)), ((am 3), .inr (8, [.ref a_all_m3, .int size_m3])), ((am 37), .inr (8, [.ref a_all_m37, .int size_m37])), (a_all_m37, .inl (cI, n_a_all_m37, .inl b_a_all_m37)), (a_all_m3, .inl (cI, n_a_all_m3, .inl b_a_all_m3))] (fun v w => ∃ nq_1_0 : Nat, v = some (.int ret) ∧ w = [(h0, .inr (9, moF am known_h0 0 wrong_h0 lastEnd_h0 at_h0 bad_h0 levels_h0 least_h0 found_h0)), ((am 3), .inr (8, [.ref nq_1_0, .int o_1_1])), ((am 37), .inr (8, [.ref a_all_m37, .int size_m37])), (a_all_m37, .inl (cI, n_a_all_m37, .inl b_a_all_m37)), (nq_1_0, .inl (cI, on_nq_1_0, .inl ob_nq_1_0))]) := by
  refine Ct.mk (by decide) (Nat.le_of_ble_eq_true rfl) ?_
  intro p e s m below meth c hr hnm
  refine j_norm (pc' := 0) (lv' := [(0, .ref h0)]) (st' := []) (ws' := [(h0, .inr (9, moF am known_h0 thrown_h0 wrong_h0 lastEnd_h0 at_h0 bad_h0 levels_h0 least_h0 found_h0)), ((am 3), .inr (8, [.ref a_all_m3, .int size_m3])), ((am 37), .inr (8, [.ref a_all_m37, .int size_m37])), (a_all_m37, .inl (cI, n_a_all_m37, .inl b_a_all_m37)), (a_all_m3, .inl (cI, n_a_all_m3, .inl b_a_all_m3))]) (cl' := 0) (sl' := 0) rfl rfl rfl rfl rfl rfl ?_
  unfold F_Mo_rewind at h
  have hC : 0 + mc ≤ mc := by omega
  have hS : 0 + ms ≤ ms := by omega
  refine j_aload_n d_Mo_rewind_0 rfl 0 rfl ?_
  refine j_iconst (v := 0) d_Mo_rewind_1 (by decide) ?_
  refine j_put (ws' := [(h0, .inr (9, moF am known_h0 0 wrong_h0 lastEnd_h0 at_h0 bad_h0 levels_h0 least_h0 found_h0)), ((am 3), .inr (8, [.ref a_all_m3, .int size_m3])), ((am 37), .inr (8, [.ref a_all_m37, .int size_m37])), (a_all_m37, .inl (cI, n_a_all_m37, .inl b_a_all_m37)), (a_all_m3, .inl (cI, n_a_all_m3, .inl b_a_all_m3))]) ig_Mo tk_Mo nm_Mo rfl 0 rfl 13 (by decide) rfl m_1126 rfl (tk_Mo 13 (by decide)) rfl rfl (Nat.le_of_ble_eq_true rfl) d_Mo_rewind_2 rfl ?_
  refine j_aload_n d_Mo_rewind_5 rfl 0 rfl ?_
  refine j_get ig_Mo rfl 0 rfl 3 (by decide) rfl m_1116 rfl d_Mo_rewind_6 ?_
  refine j_aload_n d_Mo_rewind_9 rfl 0 rfl ?_
  refine j_get ig_Mo rfl 0 rfl 37 (by decide) rfl m_1150 rfl d_Mo_rewind_10 ?_
  replace h := bw_s h
  obtain ⟨⟨r1, r2, r3⟩, C5, S6, C7, S8, k9, h, e1, e2⟩ := h
  replace hC : 0 + C5 + C7 ≤ mc := by omega
  replace hS : 0 + S6 + S8 ≤ ms := by omega
  clear e1 e2
  refine j_callV (n := 1) (As := [.ref (am 37)]) (rest := []) (wr := [(h0, .inr (9, moF am known_h0 0 wrong_h0 lastEnd_h0 at_h0 bad_h0 levels_h0 least_h0 found_h0))]) (c_Nm_become l D cI cB cJ cS (am 3) (am 37) a_all_m3 a_all_m37 size_m3 size_m37 n_a_all_m37 b_a_all_m37 n_a_all_m3 b_a_all_m3  r1 r2 r3 C5 S6 k9) k_Mo_476 (by decide) ⟨Nat.le_of_ble_eq_true rfl, Nat.le_of_ble_eq_true rfl⟩ rfl 0 rfl [1, 2, 3, 4] [0] rfl (by decide) rfl (by decide) (by decide) rfl rfl (Nat.le_of_ble_eq_true rfl) d_Mo_rewind_13 ⟨show 0 + C5 ≤ mc by omega, show 0 + S6 ≤ ms by omega⟩ (fun v w hq => ?_)
  obtain ⟨q4, rfl, rfl⟩ := hq
  refine j_norm (pc' := 16) (st' := []) (ws' := [(h0, .inr (9, moF am known_h0 0 wrong_h0 lastEnd_h0 at_h0 bad_h0 levels_h0 least_h0 found_h0)), ((am 3), .inr (8, [.ref q4, .int r1])), ((am 37), .inr (8, [.ref a_all_m37, .int size_m37])), (a_all_m37, .inl (cI, n_a_all_m37, .inl b_a_all_m37)), (q4, .inl (cI, r2, .inl r3))]) (cl' := 0 + C5) (sl' := 0 + S6) rfl rfl rfl rfl rfl rfl ?_
  refine j_aload_n d_Mo_rewind_16 rfl 0 rfl ?_
  refine j_get ig_Mo rfl 0 rfl 3 (by decide) rfl m_1116 rfl d_Mo_rewind_17 ?_
  refine j_getN ig_Nm rfl 1 rfl 1 (by decide) rfl mn_13 rfl d_Mo_rewind_20 ?_
  replace h := lf_s h
  obtain ⟨h, e1, e2⟩ := h
  replace h := Prod.mk.inj h
  obtain ⟨h9, h⟩ := h
  subst h9
  replace h := Prod.mk.inj h
  obtain ⟨h9, h⟩ := h
  subst h9
  replace h := Prod.mk.inj h
  obtain ⟨h9, h⟩ := h
  subst h9
  subst h
  refine j_widen (cl' := mc) (sl' := ms) (by omega) (by omega) ?_
  exact j_iret (w := [(h0, .inr (9, moF am known_h0 0 wrong_h0 lastEnd_h0 at_h0 bad_h0 levels_h0 least_h0 found_h0)), ((am 3), .inr (8, [.ref q4, .int r1])), ((am 37), .inr (8, [.ref a_all_m37, .int size_m37])), (a_all_m37, .inl (cI, n_a_all_m37, .inl b_a_all_m37)), (q4, .inl (cI, r2, .inl r3))]) hr d_Mo_rewind_23 [0, 1, 2, 3, 4] rfl (by decide) ⟨q4, rfl, rfl⟩
def F_Mo_wholeColon (known_h0 : Int32) (thrown_h0 : Int32) (wrong_h0 : Int32) (lastEnd_h0 : Int32) (at_h0 : Int32) (bad_h0 : Int32) (levels_h0 : Int32) (least_h0 : Int32) (found_h0 : Int32) (size_m5 : Int32) (n_a_all_m5 : Nat) (b_a_all_m5 : Nat → Int32) (size_m20 : Int32) (n_a_all_m20 : Nat) (b_a_all_m20 : Nat → Int32) : Option (Int32 × Int32 × Int32 × (Nat → Int32)) :=
  Option.bind (F_Mo_kind known_h0 thrown_h0 wrong_h0 lastEnd_h0 at_h0 bad_h0 levels_h0 least_h0 found_h0 size_m5 n_a_all_m5 b_a_all_m5) fun _ =>
  if (b_a_all_m5 (Int32.toNatClampNeg at_h0)) = 38 then (Option.bind (F_Mo_mark known_h0 thrown_h0 wrong_h0 lastEnd_h0 at_h0 bad_h0 levels_h0 least_h0 found_h0 size_m20 n_a_all_m20 b_a_all_m20) fun ⟨r3, r4, r5⟩ =>
    if r3 = 0 then (some ((-1), at_h0, r4, r5))
    else (Option.bind (F_Mo_kind known_h0 thrown_h0 wrong_h0 lastEnd_h0 (at_h0 + 1) r4 levels_h0 least_h0 found_h0 size_m5 n_a_all_m5 b_a_all_m5) fun _ =>
      if (b_a_all_m5 (Int32.toNatClampNeg (at_h0 + 1))) = 54 then (some (1, (at_h0 + 1), r4, r5))
      else (Option.bind (F_Mo_kind known_h0 thrown_h0 wrong_h0 lastEnd_h0 (at_h0 + 1) r4 levels_h0 least_h0 found_h0 size_m5 n_a_all_m5 b_a_all_m5) fun _ =>
        if (b_a_all_m5 (Int32.toNatClampNeg (at_h0 + 1))) = 51 then (some (1, (at_h0 + 1), r4, r5))
        else (some ((-1), (at_h0 + 1), (at_h0 + 1), r5)))))
  else (some (0, at_h0, bad_h0, b_a_all_m20))
theorem d_Mo_wholeColon_0 : decode prog_12_method_28_code 0 = .ok (.aload_n 0, 1) := by decide +kernel
theorem d_Mo_wholeColon_1 : decode prog_12_method_28_code 1 = .ok (.invokevirtual 275, 3) := by decide +kernel
theorem d_Mo_wholeColon_4 : decode prog_12_method_28_code 4 = .ok (.bipush 38, 2) := by decide +kernel
theorem d_Mo_wholeColon_6 : decode prog_12_method_28_code 6 = .ok (.if_icmp .eq 5, 3) := by decide +kernel
theorem d_Mo_wholeColon_9 : decode prog_12_method_28_code 9 = .ok (.iconst 0, 1) := by decide +kernel
theorem d_Mo_wholeColon_10 : decode prog_12_method_28_code 10 = .ok (.ireturn, 1) := by decide +kernel
theorem d_Mo_wholeColon_11 : decode prog_12_method_28_code 11 = .ok (.aload_n 0, 1) := by decide +kernel
theorem d_Mo_wholeColon_12 : decode prog_12_method_28_code 12 = .ok (.invokevirtual 291, 3) := by decide +kernel
theorem d_Mo_wholeColon_15 : decode prog_12_method_28_code 15 = .ok (.ifCond .ne 5, 3) := by decide +kernel
theorem d_Mo_wholeColon_18 : decode prog_12_method_28_code 18 = .ok (.iconst (-1), 1) := by decide +kernel
theorem d_Mo_wholeColon_19 : decode prog_12_method_28_code 19 = .ok (.ireturn, 1) := by decide +kernel
theorem d_Mo_wholeColon_20 : decode prog_12_method_28_code 20 = .ok (.aload_n 0, 1) := by decide +kernel
theorem d_Mo_wholeColon_21 : decode prog_12_method_28_code 21 = .ok (.dup, 1) := by decide +kernel
theorem d_Mo_wholeColon_22 : decode prog_12_method_28_code 22 = .ok (.getfield 270, 3) := by decide +kernel
theorem d_Mo_wholeColon_25 : decode prog_12_method_28_code 25 = .ok (.iconst 1, 1) := by decide +kernel
theorem d_Mo_wholeColon_26 : decode prog_12_method_28_code 26 = .ok (.iadd, 1) := by decide +kernel
theorem d_Mo_wholeColon_27 : decode prog_12_method_28_code 27 = .ok (.putfield 270, 3) := by decide +kernel
theorem d_Mo_wholeColon_30 : decode prog_12_method_28_code 30 = .ok (.aload_n 0, 1) := by decide +kernel
theorem d_Mo_wholeColon_31 : decode prog_12_method_28_code 31 = .ok (.invokevirtual 275, 3) := by decide +kernel
theorem d_Mo_wholeColon_34 : decode prog_12_method_28_code 34 = .ok (.bipush 54, 2) := by decide +kernel
theorem d_Mo_wholeColon_36 : decode prog_12_method_28_code 36 = .ok (.if_icmp .eq 19, 3) := by decide +kernel
theorem d_Mo_wholeColon_39 : decode prog_12_method_28_code 39 = .ok (.aload_n 0, 1) := by decide +kernel
theorem d_Mo_wholeColon_40 : decode prog_12_method_28_code 40 = .ok (.invokevirtual 275, 3) := by decide +kernel
theorem d_Mo_wholeColon_43 : decode prog_12_method_28_code 43 = .ok (.bipush 51, 2) := by decide +kernel
theorem d_Mo_wholeColon_45 : decode prog_12_method_28_code 45 = .ok (.if_icmp .eq 10, 3) := by decide +kernel
theorem d_Mo_wholeColon_48 : decode prog_12_method_28_code 48 = .ok (.aload_n 0, 1) := by decide +kernel
theorem d_Mo_wholeColon_49 : decode prog_12_method_28_code 49 = .ok (.invokevirtual 294, 3) := by decide +kernel
theorem d_Mo_wholeColon_52 : decode prog_12_method_28_code 52 = .ok (.ifCond .ne 7, 3) := by decide +kernel
theorem d_Mo_wholeColon_55 : decode prog_12_method_28_code 55 = .ok (.iconst 1, 1) := by decide +kernel
theorem d_Mo_wholeColon_56 : decode prog_12_method_28_code 56 = .ok (.goto 4, 3) := by decide +kernel
theorem d_Mo_wholeColon_59 : decode prog_12_method_28_code 59 = .ok (.iconst (-1), 1) := by decide +kernel
theorem d_Mo_wholeColon_60 : decode prog_12_method_28_code 60 = .ok (.ireturn, 1) := by decide +kernel
set_option maxHeartbeats 4000000 in
set_option maxRecDepth 100000 in
theorem c_Mo_wholeColon (l : Launch) (D : va_G) (cI cB cJ cS : ClassId) (h0 : Nat) (am : Nat → Nat) (a_all_m5 : Nat) (a_all_m20 : Nat) (known_h0 : Int32) (thrown_h0 : Int32) (wrong_h0 : Int32) (lastEnd_h0 : Int32) (at_h0 : Int32) (bad_h0 : Int32) (levels_h0 : Int32) (least_h0 : Int32) (found_h0 : Int32) (size_m5 : Int32) (n_a_all_m5 : Nat) (b_a_all_m5 : Nat → Int32) (size_m20 : Int32) (n_a_all_m20 : Nat) (b_a_all_m20 : Nat → Int32) (ret : Int32) (o_0_17 : Int32) (o_0_18 : Int32) (ob_4 : Nat → Int32) (h : F_Mo_wholeColon known_h0 thrown_h0 wrong_h0 lastEnd_h0 at_h0 bad_h0 levels_h0 least_h0 found_h0 size_m5 n_a_all_m5 b_a_all_m5 size_m20 n_a_all_m20 b_a_all_m20 = some (ret, o_0_17, o_0_18, ob_4)) : Ct l D (gT cI cB cJ cS) y_Mo_wholeColon prog_12_method_28_code 1 (Option.some Jvm.ClassFile.FieldType.int) 2 42 0 0 [.ref h0] [(h0, .inr (9, moF am known_h0 thrown_h0 wrong_h0 lastEnd_h0 at_h0 bad_h0 levels_h0 least_h0 found_h0)), ((am 5), .inr (8, [.ref a_all_m5, .int size_m5])), (a_all_m5, .inl (cI, n_a_all_m5, .inl b_a_all_m5)), ((am 20), .inr (8, [.ref a_all_m20, .int size_m20])), (a_all_m20, .inl (cI, n_a_all_m20, .inl b_a_all_m20))] (fun v w => v = some (.int ret) ∧ w = [(h0, .inr (9, moF am known_h0 thrown_h0 wrong_h0 lastEnd_h0 o_0_17 o_0_18 levels_h0 least_h0 found_h0)), ((am 5), .inr (8, [.ref a_all_m5, .int size_m5])), (a_all_m5, .inl (cI, n_a_all_m5, .inl b_a_all_m5)), ((am 20), .inr (8, [.ref a_all_m20, .int size_m20])), (a_all_m20, .inl (cI, n_a_all_m20, .inl ob_4))]) := by
  refine Ct.mk (by decide) (Nat.le_of_ble_eq_true rfl) ?_
  intro p e s m below meth c hr hnm
  refine j_norm (pc' := 0) (lv' := [(0, .ref h0)]) (st' := []) (ws' := [(h0, .inr (9, moF am known_h0 thrown_h0 wrong_h0 lastEnd_h0 at_h0 bad_h0 levels_h0 least_h0 found_h0)), ((am 5), .inr (8, [.ref a_all_m5, .int size_m5])), (a_all_m5, .inl (cI, n_a_all_m5, .inl b_a_all_m5)), ((am 20), .inr (8, [.ref a_all_m20, .int size_m20])), (a_all_m20, .inl (cI, n_a_all_m20, .inl b_a_all_m20))]) (cl' := 0) (sl' := 0) rfl rfl rfl rfl rfl rfl ?_
  unfold F_Mo_wholeColon at h
  refine j_aload_n d_Mo_wholeColon_0 rfl 0 rfl ?_
  replace h := bd_s h
  obtain ⟨_, k1, h⟩ := h
  refine j_callV (n := 0) (As := []) (rest := []) (wr := [((am 20), .inr (8, [.ref a_all_m20, .int size_m20])), (a_all_m20, .inl (cI, n_a_all_m20, .inl b_a_all_m20))]) (c_Mo_kind l D cI cB cJ cS h0 am a_all_m5 known_h0 thrown_h0 wrong_h0 lastEnd_h0 at_h0 bad_h0 levels_h0 least_h0 found_h0 size_m5 n_a_all_m5 b_a_all_m5  k1) k_Mo_275 (by decide) ⟨Nat.le_of_ble_eq_true rfl, Nat.le_of_ble_eq_true rfl⟩ rfl 0 rfl [0, 1, 2] [3, 4] rfl (by decide) rfl (by decide) (by decide) rfl rfl (Nat.le_of_ble_eq_true rfl) d_Mo_wholeColon_1 ⟨Nat.le_of_ble_eq_true rfl, Nat.le_of_ble_eq_true rfl⟩ (fun v w hq => ?_)
  obtain ⟨rfl, rfl⟩ := hq
  refine j_norm (pc' := 4) (st' := [.int (b_a_all_m5 (Int32.toNatClampNeg at_h0))]) (ws' := [((am 20), .inr (8, [.ref a_all_m20, .int size_m20])), (a_all_m20, .inl (cI, n_a_all_m20, .inl b_a_all_m20)), (h0, .inr (9, moF am known_h0 thrown_h0 wrong_h0 lastEnd_h0 at_h0 bad_h0 levels_h0 least_h0 found_h0)), ((am 5), .inr (8, [.ref a_all_m5, .int size_m5])), (a_all_m5, .inl (cI, n_a_all_m5, .inl b_a_all_m5))]) (cl' := 0) (sl' := 0) rfl rfl rfl rfl rfl rfl ?_
  refine j_bipush (v := 38) d_Mo_wholeColon_4 (by decide) ?_
  refine j_icmp_eq (tgt := 11) d_Mo_wholeColon_6 (by decide) (fun c2 => ?_) (fun c2 => ?_)
  · replace h := it_t c2 h
    refine j_aload_n d_Mo_wholeColon_11 rfl 0 rfl ?_
    replace h := bd_s h
    obtain ⟨⟨r3, r4, r5⟩, k7, h⟩ := h
    refine j_callV (n := 0) (As := []) (rest := []) (wr := [((am 5), .inr (8, [.ref a_all_m5, .int size_m5])), (a_all_m5, .inl (cI, n_a_all_m5, .inl b_a_all_m5))]) (c_Mo_mark l D cI cB cJ cS h0 am a_all_m20 known_h0 thrown_h0 wrong_h0 lastEnd_h0 at_h0 bad_h0 levels_h0 least_h0 found_h0 size_m20 n_a_all_m20 b_a_all_m20  r3 r4 r5 k7) k_Mo_291 (by decide) ⟨Nat.le_of_ble_eq_true rfl, Nat.le_of_ble_eq_true rfl⟩ rfl 0 rfl [2, 0, 1] [3, 4] rfl (by decide) rfl (by decide) (by decide) rfl rfl (Nat.le_of_ble_eq_true rfl) d_Mo_wholeColon_12 ⟨Nat.le_of_ble_eq_true rfl, Nat.le_of_ble_eq_true rfl⟩ (fun v w hq => ?_)
    obtain ⟨rfl, z6, rfl⟩ := hq
    refine j_norm (pc' := 15) (st' := [.int r3]) (ws' := [((am 5), .inr (8, [.ref a_all_m5, .int size_m5])), (a_all_m5, .inl (cI, n_a_all_m5, .inl b_a_all_m5)), (h0, .inr (9, moF am known_h0 thrown_h0 wrong_h0 lastEnd_h0 at_h0 r4 levels_h0 least_h0 found_h0)), ((am 20), .inr (8, [.ref a_all_m20, .int size_m20])), (a_all_m20, .inl (cI, n_a_all_m20, .inl r5))]) (cl' := 0) (sl' := 0) rfl rfl rfl rfl rfl rfl ?_
    refine j_if_ne (tgt := 20) d_Mo_wholeColon_15 (by decide) (fun c8 => ?_) (fun c8 => ?_)
    · replace h := it_f c8 h
      refine j_aload_n d_Mo_wholeColon_20 rfl 0 rfl ?_
      refine j_dup rfl d_Mo_wholeColon_21 ?_
      refine j_get ig_Mo rfl 2 rfl 17 (by decide) rfl m_1130 rfl d_Mo_wholeColon_22 ?_
      refine j_iconst (v := 1) d_Mo_wholeColon_25 (by decide) ?_
      refine j_iadd d_Mo_wholeColon_26 ?_
      refine j_put (ws' := [((am 5), .inr (8, [.ref a_all_m5, .int size_m5])), (a_all_m5, .inl (cI, n_a_all_m5, .inl b_a_all_m5)), (h0, .inr (9, moF am known_h0 thrown_h0 wrong_h0 lastEnd_h0 (at_h0 + 1) r4 levels_h0 least_h0 found_h0)), ((am 20), .inr (8, [.ref a_all_m20, .int size_m20])), (a_all_m20, .inl (cI, n_a_all_m20, .inl r5))]) ig_Mo tk_Mo nm_Mo rfl 2 rfl 17 (by decide) rfl m_1130 rfl (tk_Mo 17 (by decide)) rfl rfl (Nat.le_of_ble_eq_true rfl) d_Mo_wholeColon_27 rfl ?_
      refine j_aload_n d_Mo_wholeColon_30 rfl 0 rfl ?_
      replace h := bd_s h
      obtain ⟨_, k9, h⟩ := h
      refine j_callV (n := 0) (As := []) (rest := []) (wr := [((am 20), .inr (8, [.ref a_all_m20, .int size_m20])), (a_all_m20, .inl (cI, n_a_all_m20, .inl r5))]) (c_Mo_kind l D cI cB cJ cS h0 am a_all_m5 known_h0 thrown_h0 wrong_h0 lastEnd_h0 (at_h0 + 1) r4 levels_h0 least_h0 found_h0 size_m5 n_a_all_m5 b_a_all_m5  k9) k_Mo_275 (by decide) ⟨Nat.le_of_ble_eq_true rfl, Nat.le_of_ble_eq_true rfl⟩ rfl 0 rfl [2, 0, 1] [3, 4] rfl (by decide) rfl (by decide) (by decide) rfl rfl (Nat.le_of_ble_eq_true rfl) d_Mo_wholeColon_31 ⟨Nat.le_of_ble_eq_true rfl, Nat.le_of_ble_eq_true rfl⟩ (fun v w hq => ?_)
      obtain ⟨rfl, rfl⟩ := hq
      refine j_norm (pc' := 34) (st' := [.int (b_a_all_m5 (Int32.toNatClampNeg (at_h0 + 1)))]) (ws' := [((am 20), .inr (8, [.ref a_all_m20, .int size_m20])), (a_all_m20, .inl (cI, n_a_all_m20, .inl r5)), (h0, .inr (9, moF am known_h0 thrown_h0 wrong_h0 lastEnd_h0 (at_h0 + 1) r4 levels_h0 least_h0 found_h0)), ((am 5), .inr (8, [.ref a_all_m5, .int size_m5])), (a_all_m5, .inl (cI, n_a_all_m5, .inl b_a_all_m5))]) (cl' := 0) (sl' := 0) rfl rfl rfl rfl rfl rfl ?_
      refine j_bipush (v := 54) d_Mo_wholeColon_34 (by decide) ?_
      refine j_icmp_eq (tgt := 55) d_Mo_wholeColon_36 (by decide) (fun c10 => ?_) (fun c10 => ?_)
      · replace h := it_t c10 h
        refine j_iconst (v := 1) d_Mo_wholeColon_55 (by decide) ?_
        refine j_goto (tgt := 60) d_Mo_wholeColon_56 (by decide) ?_
        replace h := Option.some.inj h
        replace h := Prod.mk.inj h
        obtain ⟨h9, h⟩ := h
        subst h9
        replace h := Prod.mk.inj h
        obtain ⟨h9, h⟩ := h
        subst h9
        replace h := Prod.mk.inj h
        obtain ⟨h9, h⟩ := h
        subst h9
        subst h
        exact j_iret (w := [(h0, .inr (9, moF am known_h0 thrown_h0 wrong_h0 lastEnd_h0 (at_h0 + 1) r4 levels_h0 least_h0 found_h0)), ((am 5), .inr (8, [.ref a_all_m5, .int size_m5])), (a_all_m5, .inl (cI, n_a_all_m5, .inl b_a_all_m5)), ((am 20), .inr (8, [.ref a_all_m20, .int size_m20])), (a_all_m20, .inl (cI, n_a_all_m20, .inl r5))]) hr d_Mo_wholeColon_60 [2, 3, 4, 0, 1] rfl (by decide) ⟨rfl, rfl⟩
      · replace h := it_f c10 h
        refine j_aload_n d_Mo_wholeColon_39 rfl 0 rfl ?_
        replace h := bd_s h
        obtain ⟨_, k11, h⟩ := h
        refine j_callV (n := 0) (As := []) (rest := []) (wr := [((am 20), .inr (8, [.ref a_all_m20, .int size_m20])), (a_all_m20, .inl (cI, n_a_all_m20, .inl r5))]) (c_Mo_kind l D cI cB cJ cS h0 am a_all_m5 known_h0 thrown_h0 wrong_h0 lastEnd_h0 (at_h0 + 1) r4 levels_h0 least_h0 found_h0 size_m5 n_a_all_m5 b_a_all_m5  k11) k_Mo_275 (by decide) ⟨Nat.le_of_ble_eq_true rfl, Nat.le_of_ble_eq_true rfl⟩ rfl 0 rfl [2, 3, 4] [0, 1] rfl (by decide) rfl (by decide) (by decide) rfl rfl (Nat.le_of_ble_eq_true rfl) d_Mo_wholeColon_40 ⟨Nat.le_of_ble_eq_true rfl, Nat.le_of_ble_eq_true rfl⟩ (fun v w hq => ?_)
        obtain ⟨rfl, rfl⟩ := hq
        refine j_norm (pc' := 43) (st' := [.int (b_a_all_m5 (Int32.toNatClampNeg (at_h0 + 1)))]) (ws' := [((am 20), .inr (8, [.ref a_all_m20, .int size_m20])), (a_all_m20, .inl (cI, n_a_all_m20, .inl r5)), (h0, .inr (9, moF am known_h0 thrown_h0 wrong_h0 lastEnd_h0 (at_h0 + 1) r4 levels_h0 least_h0 found_h0)), ((am 5), .inr (8, [.ref a_all_m5, .int size_m5])), (a_all_m5, .inl (cI, n_a_all_m5, .inl b_a_all_m5))]) (cl' := 0) (sl' := 0) rfl rfl rfl rfl rfl rfl ?_
        refine j_bipush (v := 51) d_Mo_wholeColon_43 (by decide) ?_
        refine j_icmp_eq (tgt := 55) d_Mo_wholeColon_45 (by decide) (fun c12 => ?_) (fun c12 => ?_)
        · replace h := it_t c12 h
          refine j_iconst (v := 1) d_Mo_wholeColon_55 (by decide) ?_
          refine j_goto (tgt := 60) d_Mo_wholeColon_56 (by decide) ?_
          replace h := Option.some.inj h
          replace h := Prod.mk.inj h
          obtain ⟨h9, h⟩ := h
          subst h9
          replace h := Prod.mk.inj h
          obtain ⟨h9, h⟩ := h
          subst h9
          replace h := Prod.mk.inj h
          obtain ⟨h9, h⟩ := h
          subst h9
          subst h
          exact j_iret (w := [(h0, .inr (9, moF am known_h0 thrown_h0 wrong_h0 lastEnd_h0 (at_h0 + 1) r4 levels_h0 least_h0 found_h0)), ((am 5), .inr (8, [.ref a_all_m5, .int size_m5])), (a_all_m5, .inl (cI, n_a_all_m5, .inl b_a_all_m5)), ((am 20), .inr (8, [.ref a_all_m20, .int size_m20])), (a_all_m20, .inl (cI, n_a_all_m20, .inl r5))]) hr d_Mo_wholeColon_60 [2, 3, 4, 0, 1] rfl (by decide) ⟨rfl, rfl⟩
        · replace h := it_f c12 h
          refine j_aload_n d_Mo_wholeColon_48 rfl 0 rfl ?_
          refine j_callV (n := 0) (As := []) (rest := []) (wr := [((am 20), .inr (8, [.ref a_all_m20, .int size_m20])), (a_all_m20, .inl (cI, n_a_all_m20, .inl r5)), ((am 5), .inr (8, [.ref a_all_m5, .int size_m5])), (a_all_m5, .inl (cI, n_a_all_m5, .inl b_a_all_m5))]) (c_Mo_failed l D cI cB cJ cS h0 am known_h0 thrown_h0 wrong_h0 lastEnd_h0 (at_h0 + 1) r4 levels_h0 least_h0 found_h0  ) k_Mo_294 (by decide) ⟨Nat.le_of_ble_eq_true rfl, Nat.le_of_ble_eq_true rfl⟩ rfl 0 rfl [2] [0, 1, 3, 4] rfl (by decide) rfl (by decide) (by decide) rfl rfl (Nat.le_of_ble_eq_true rfl) d_Mo_wholeColon_49 ⟨Nat.le_of_ble_eq_true rfl, Nat.le_of_ble_eq_true rfl⟩ (fun v w hq => ?_)
          obtain ⟨rfl, _, rfl⟩ := hq
          refine j_norm (pc' := 52) (st' := [.int 1]) (ws' := [((am 20), .inr (8, [.ref a_all_m20, .int size_m20])), (a_all_m20, .inl (cI, n_a_all_m20, .inl r5)), ((am 5), .inr (8, [.ref a_all_m5, .int size_m5])), (a_all_m5, .inl (cI, n_a_all_m5, .inl b_a_all_m5)), (h0, .inr (9, moF am known_h0 thrown_h0 wrong_h0 lastEnd_h0 (at_h0 + 1) (at_h0 + 1) levels_h0 least_h0 found_h0))]) (cl' := 0) (sl' := 0) rfl rfl rfl rfl rfl rfl ?_
          refine j_if_ne (tgt := 59) d_Mo_wholeColon_52 (by decide) (fun c14 => ?_) (fun c14 => absurd c14 (by decide))
          refine j_iconst (v := (-1)) d_Mo_wholeColon_59 (by decide) ?_
          replace h := Option.some.inj h
          replace h := Prod.mk.inj h
          obtain ⟨h9, h⟩ := h
          subst h9
          replace h := Prod.mk.inj h
          obtain ⟨h9, h⟩ := h
          subst h9
          replace h := Prod.mk.inj h
          obtain ⟨h9, h⟩ := h
          subst h9
          subst h
          exact j_iret (w := [(h0, .inr (9, moF am known_h0 thrown_h0 wrong_h0 lastEnd_h0 (at_h0 + 1) (at_h0 + 1) levels_h0 least_h0 found_h0)), ((am 5), .inr (8, [.ref a_all_m5, .int size_m5])), (a_all_m5, .inl (cI, n_a_all_m5, .inl b_a_all_m5)), ((am 20), .inr (8, [.ref a_all_m20, .int size_m20])), (a_all_m20, .inl (cI, n_a_all_m20, .inl r5))]) hr d_Mo_wholeColon_60 [4, 2, 3, 0, 1] rfl (by decide) ⟨rfl, rfl⟩
    · replace h := it_t c8 h
      refine j_iconst (v := (-1)) d_Mo_wholeColon_18 (by decide) ?_
      replace h := Option.some.inj h
      replace h := Prod.mk.inj h
      obtain ⟨h9, h⟩ := h
      subst h9
      replace h := Prod.mk.inj h
      obtain ⟨h9, h⟩ := h
      subst h9
      replace h := Prod.mk.inj h
      obtain ⟨h9, h⟩ := h
      subst h9
      subst h
      exact j_iret (w := [(h0, .inr (9, moF am known_h0 thrown_h0 wrong_h0 lastEnd_h0 at_h0 r4 levels_h0 least_h0 found_h0)), ((am 5), .inr (8, [.ref a_all_m5, .int size_m5])), (a_all_m5, .inl (cI, n_a_all_m5, .inl b_a_all_m5)), ((am 20), .inr (8, [.ref a_all_m20, .int size_m20])), (a_all_m20, .inl (cI, n_a_all_m20, .inl r5))]) hr d_Mo_wholeColon_19 [2, 0, 1, 3, 4] rfl (by decide) ⟨rfl, rfl⟩
  · replace h := it_f c2 h
    refine j_iconst (v := 0) d_Mo_wholeColon_9 (by decide) ?_
    replace h := Option.some.inj h
    replace h := Prod.mk.inj h
    obtain ⟨h9, h⟩ := h
    subst h9
    replace h := Prod.mk.inj h
    obtain ⟨h9, h⟩ := h
    subst h9
    replace h := Prod.mk.inj h
    obtain ⟨h9, h⟩ := h
    subst h9
    subst h
    exact j_iret (w := [(h0, .inr (9, moF am known_h0 thrown_h0 wrong_h0 lastEnd_h0 at_h0 bad_h0 levels_h0 least_h0 found_h0)), ((am 5), .inr (8, [.ref a_all_m5, .int size_m5])), (a_all_m5, .inl (cI, n_a_all_m5, .inl b_a_all_m5)), ((am 20), .inr (8, [.ref a_all_m20, .int size_m20])), (a_all_m20, .inl (cI, n_a_all_m20, .inl b_a_all_m20))]) hr d_Mo_wholeColon_10 [2, 3, 4, 0, 1] rfl (by decide) ⟨rfl, rfl⟩
def F_Mo_inBracket_193 (v4_193 : Int32) (v3_193 : Int32) (f0_17_193 : Int32) (f0_18_193 : Int32) (b4_193 : Nat → Int32) : Option (Int32 × Int32 × Int32 × (Nat → Int32)) :=
    if 0 ≤ v4_193 then (if v4_193 = 1 then (some (2, f0_17_193, f0_18_193, b4_193))
      else (some (1, f0_17_193, f0_18_193, b4_193)))
    else (some ((-1), f0_17_193, f0_18_193, b4_193))
def F_Mo_inBracket_163 (known_h0 : Int32) (thrown_h0 : Int32) (wrong_h0 : Int32) (lastEnd_h0 : Int32) (at_h0 : Int32) (bad_h0 : Int32) (levels_h0 : Int32) (least_h0 : Int32) (found_h0 : Int32) (size_m5 : Int32) (n_a_all_m5 : Nat) (b_a_all_m5 : Nat → Int32) (size_m20 : Int32) (n_a_all_m20 : Nat) (v3_163 : Int32) (b4_163 : Nat → Int32) : Option (Int32 × Int32 × Int32 × (Nat → Int32)) :=
    Option.bind (F_Mo_wholeColon known_h0 thrown_h0 wrong_h0 lastEnd_h0 (at_h0 + 1) bad_h0 levels_h0 least_h0 found_h0 size_m5 n_a_all_m5 b_a_all_m5 size_m20 n_a_all_m20 b4_163) fun ⟨r3, r4, r5, r6⟩ =>
    if r3 = 1 then (Option.bind (F_Mo_setTop 1 (v3_163 + 1) known_h0 thrown_h0 wrong_h0 lastEnd_h0 r4 r5 levels_h0 least_h0 found_h0 size_m20 n_a_all_m20 r6) fun _ =>
      F_Mo_inBracket_193    r3 v3_163 r4 r5 (upd r6 (Int32.toNatClampNeg ((size_m20 - 5) + 1)) (v3_163 + 1)))
    else (F_Mo_inBracket_193    r3 v3_163 r4 r5 r6)
def F_Mo_inBracket_123 (p2 : Int32) (known_h0 : Int32) (thrown_h0 : Int32) (wrong_h0 : Int32) (lastEnd_h0 : Int32) (at_h0 : Int32) (bad_h0 : Int32) (levels_h0 : Int32) (least_h0 : Int32) (found_h0 : Int32) (size_m5 : Int32) (n_a_all_m5 : Nat) (b_a_all_m5 : Nat → Int32) (size_m20 : Int32) (n_a_all_m20 : Nat) (b_a_all_m20 : Nat → Int32) (t0_123 : Int32) : Option (Int32 × Int32 × Int32 × (Nat → Int32)) :=
    Option.bind (F_Mo_setTop 1 t0_123 known_h0 thrown_h0 wrong_h0 lastEnd_h0 at_h0 bad_h0 levels_h0 least_h0 found_h0 size_m20 n_a_all_m20 b_a_all_m20) fun _ =>
    if p2 = 54 then (if t0_123 = 8 then (some ((-1), at_h0, at_h0, upd b_a_all_m20 (Int32.toNatClampNeg ((size_m20 - 5) + 1)) t0_123))
      else if t0_123 ≤ 1 then (F_Mo_inBracket_163 known_h0 thrown_h0 wrong_h0 lastEnd_h0 at_h0 bad_h0 levels_h0 least_h0 found_h0 size_m5 n_a_all_m5 b_a_all_m5 size_m20 n_a_all_m20   t0_123 (upd b_a_all_m20 (Int32.toNatClampNeg ((size_m20 - 5) + 1)) t0_123))
      else (Option.bind (F_Mo_top 2 known_h0 thrown_h0 wrong_h0 lastEnd_h0 at_h0 bad_h0 levels_h0 least_h0 found_h0 size_m20 n_a_all_m20 (upd b_a_all_m20 (Int32.toNatClampNeg ((size_m20 - 5) + 1)) t0_123)) fun _ =>
        if ((upd b_a_all_m20 (Int32.toNatClampNeg ((size_m20 - 5) + 1)) t0_123) (Int32.toNatClampNeg ((size_m20 - 5) + 2))) = 1 then (some ((-1), at_h0, at_h0, (upd b_a_all_m20 (Int32.toNatClampNeg ((size_m20 - 5) + 1)) t0_123)))
        else (F_Mo_inBracket_163 known_h0 thrown_h0 wrong_h0 lastEnd_h0 at_h0 bad_h0 levels_h0 least_h0 found_h0 size_m5 n_a_all_m5 b_a_all_m5 size_m20 n_a_all_m20   t0_123 (upd b_a_all_m20 (Int32.toNatClampNeg ((size_m20 - 5) + 1)) t0_123))))
    else (some ((-1), at_h0, at_h0, upd b_a_all_m20 (Int32.toNatClampNeg ((size_m20 - 5) + 1)) t0_123))
def F_Mo_inBracket_57 (known_h0 : Int32) (thrown_h0 : Int32) (wrong_h0 : Int32) (lastEnd_h0 : Int32) (at_h0 : Int32) (bad_h0 : Int32) (levels_h0 : Int32) (least_h0 : Int32) (found_h0 : Int32) (size_m5 : Int32) (n_a_all_m5 : Nat) (b_a_all_m5 : Nat → Int32) (b_a_all_m20 : Nat → Int32) : Option (Int32 × Int32 × Int32 × (Nat → Int32)) :=
    Option.bind (F_Mo_isEmptyOpen known_h0 thrown_h0 wrong_h0 lastEnd_h0 at_h0 bad_h0 levels_h0 least_h0 found_h0 size_m5 n_a_all_m5 b_a_all_m5) fun r19 =>
    if r19 = 0 then (some (1, at_h0 + 1, bad_h0, b_a_all_m20))
    else (some ((-1), at_h0, at_h0, b_a_all_m20))
def F_Mo_inBracket (p1 : Int32) (p2 : Int32) (known_h0 : Int32) (thrown_h0 : Int32) (wrong_h0 : Int32) (lastEnd_h0 : Int32) (at_h0 : Int32) (bad_h0 : Int32) (levels_h0 : Int32) (least_h0 : Int32) (found_h0 : Int32) (size_m5 : Int32) (n_a_all_m5 : Nat) (b_a_all_m5 : Nat → Int32) (size_m20 : Int32) (n_a_all_m20 : Nat) (b_a_all_m20 : Nat → Int32) : Option (Int32 × Int32 × Int32 × (Nat → Int32)) :=
  if p1 = 50 then (Option.bind (F_Mo_take 51 known_h0 thrown_h0 wrong_h0 lastEnd_h0 at_h0 bad_h0 levels_h0 least_h0 found_h0 size_m5 n_a_all_m5 b_a_all_m5) fun ⟨r37, r38, r39⟩ =>
    if r37 = 0 then (some ((-1), r38, r39, b_a_all_m20))
    else (some (0, r38, r39, b_a_all_m20)))
  else if p1 = 52 then (if p2 = 53 then (some (0, at_h0 + 1, bad_h0, b_a_all_m20))
    else if p2 = 54 then (F_Mo_inBracket_57 known_h0 thrown_h0 wrong_h0 lastEnd_h0 at_h0 bad_h0 levels_h0 least_h0 found_h0 size_m5 n_a_all_m5 b_a_all_m5 b_a_all_m20   )
    else if p2 = 55 then (F_Mo_inBracket_57 known_h0 thrown_h0 wrong_h0 lastEnd_h0 at_h0 bad_h0 levels_h0 least_h0 found_h0 size_m5 n_a_all_m5 b_a_all_m5 b_a_all_m20   )
    else (some ((-1), at_h0, at_h0, b_a_all_m20)))
  else if p2 = 51 then (some (0, at_h0 + 1, bad_h0, b_a_all_m20))
  else (Option.bind (F_Mo_isColonBefore known_h0 thrown_h0 wrong_h0 lastEnd_h0 at_h0 bad_h0 levels_h0 least_h0 found_h0 size_m5 n_a_all_m5 b_a_all_m5) fun r27 =>
    if r27 = 0 then (Option.bind (F_Mo_top 1 known_h0 thrown_h0 wrong_h0 lastEnd_h0 at_h0 bad_h0 levels_h0 least_h0 found_h0 size_m20 n_a_all_m20 b_a_all_m20) fun _ =>
      F_Mo_inBracket_123 p2 known_h0 thrown_h0 wrong_h0 lastEnd_h0 at_h0 bad_h0 levels_h0 least_h0 found_h0 size_m5 n_a_all_m5 b_a_all_m5 size_m20 n_a_all_m20 b_a_all_m20   ((b_a_all_m20 (Int32.toNatClampNeg ((size_m20 - 5) + 1))) + 1))
    else (Option.bind (F_Mo_top 1 known_h0 thrown_h0 wrong_h0 lastEnd_h0 at_h0 bad_h0 levels_h0 least_h0 found_h0 size_m20 n_a_all_m20 b_a_all_m20) fun _ =>
      F_Mo_inBracket_123 p2 known_h0 thrown_h0 wrong_h0 lastEnd_h0 at_h0 bad_h0 levels_h0 least_h0 found_h0 size_m5 n_a_all_m5 b_a_all_m5 size_m20 n_a_all_m20 b_a_all_m20   (b_a_all_m20 (Int32.toNatClampNeg ((size_m20 - 5) + 1)))))
theorem d_Mo_inBracket_0 : decode prog_12_method_33_code 0 = .ok (.iload_n 1, 1) := by decide +kernel
theorem d_Mo_inBracket_1 : decode prog_12_method_33_code 1 = .ok (.bipush 50, 2) := by decide +kernel
theorem d_Mo_inBracket_3 : decode prog_12_method_33_code 3 = .ok (.if_icmp .ne 18, 3) := by decide +kernel
theorem d_Mo_inBracket_6 : decode prog_12_method_33_code 6 = .ok (.aload_n 0, 1) := by decide +kernel
theorem d_Mo_inBracket_7 : decode prog_12_method_33_code 7 = .ok (.bipush 51, 2) := by decide +kernel
theorem d_Mo_inBracket_9 : decode prog_12_method_33_code 9 = .ok (.invokevirtual 285, 3) := by decide +kernel
theorem d_Mo_inBracket_12 : decode prog_12_method_33_code 12 = .ok (.ifCond .eq 7, 3) := by decide +kernel
theorem d_Mo_inBracket_15 : decode prog_12_method_33_code 15 = .ok (.iconst 0, 1) := by decide +kernel
theorem d_Mo_inBracket_16 : decode prog_12_method_33_code 16 = .ok (.goto 4, 3) := by decide +kernel
theorem d_Mo_inBracket_19 : decode prog_12_method_33_code 19 = .ok (.iconst (-1), 1) := by decide +kernel
theorem d_Mo_inBracket_20 : decode prog_12_method_33_code 20 = .ok (.ireturn, 1) := by decide +kernel
theorem d_Mo_inBracket_21 : decode prog_12_method_33_code 21 = .ok (.iload_n 1, 1) := by decide +kernel
theorem d_Mo_inBracket_22 : decode prog_12_method_33_code 22 = .ok (.bipush 52, 2) := by decide +kernel
theorem d_Mo_inBracket_24 : decode prog_12_method_33_code 24 = .ok (.if_icmp .ne 59, 3) := by decide +kernel
theorem d_Mo_inBracket_27 : decode prog_12_method_33_code 27 = .ok (.iload_n 2, 1) := by decide +kernel
theorem d_Mo_inBracket_28 : decode prog_12_method_33_code 28 = .ok (.bipush 53, 2) := by decide +kernel
theorem d_Mo_inBracket_30 : decode prog_12_method_33_code 30 = .ok (.if_icmp .ne 15, 3) := by decide +kernel
theorem d_Mo_inBracket_33 : decode prog_12_method_33_code 33 = .ok (.aload_n 0, 1) := by decide +kernel
theorem d_Mo_inBracket_34 : decode prog_12_method_33_code 34 = .ok (.dup, 1) := by decide +kernel
theorem d_Mo_inBracket_35 : decode prog_12_method_33_code 35 = .ok (.getfield 270, 3) := by decide +kernel
theorem d_Mo_inBracket_38 : decode prog_12_method_33_code 38 = .ok (.iconst 1, 1) := by decide +kernel
theorem d_Mo_inBracket_39 : decode prog_12_method_33_code 39 = .ok (.iadd, 1) := by decide +kernel
theorem d_Mo_inBracket_40 : decode prog_12_method_33_code 40 = .ok (.putfield 270, 3) := by decide +kernel
theorem d_Mo_inBracket_43 : decode prog_12_method_33_code 43 = .ok (.iconst 0, 1) := by decide +kernel
theorem d_Mo_inBracket_44 : decode prog_12_method_33_code 44 = .ok (.ireturn, 1) := by decide +kernel
theorem d_Mo_inBracket_45 : decode prog_12_method_33_code 45 = .ok (.iload_n 2, 1) := by decide +kernel
theorem d_Mo_inBracket_46 : decode prog_12_method_33_code 46 = .ok (.bipush 54, 2) := by decide +kernel
theorem d_Mo_inBracket_48 : decode prog_12_method_33_code 48 = .ok (.if_icmp .eq 9, 3) := by decide +kernel
theorem d_Mo_inBracket_51 : decode prog_12_method_33_code 51 = .ok (.iload_n 2, 1) := by decide +kernel
theorem d_Mo_inBracket_52 : decode prog_12_method_33_code 52 = .ok (.bipush 55, 2) := by decide +kernel
theorem d_Mo_inBracket_54 : decode prog_12_method_33_code 54 = .ok (.if_icmp .ne 10, 3) := by decide +kernel
theorem d_Mo_inBracket_57 : decode prog_12_method_33_code 57 = .ok (.aload_n 0, 1) := by decide +kernel
theorem d_Mo_inBracket_58 : decode prog_12_method_33_code 58 = .ok (.invokevirtual 316, 3) := by decide +kernel
theorem d_Mo_inBracket_61 : decode prog_12_method_33_code 61 = .ok (.ifCond .eq 10, 3) := by decide +kernel
theorem d_Mo_inBracket_64 : decode prog_12_method_33_code 64 = .ok (.aload_n 0, 1) := by decide +kernel
theorem d_Mo_inBracket_65 : decode prog_12_method_33_code 65 = .ok (.invokevirtual 278, 3) := by decide +kernel
theorem d_Mo_inBracket_68 : decode prog_12_method_33_code 68 = .ok (.pop, 1) := by decide +kernel
theorem d_Mo_inBracket_69 : decode prog_12_method_33_code 69 = .ok (.iconst (-1), 1) := by decide +kernel
theorem d_Mo_inBracket_70 : decode prog_12_method_33_code 70 = .ok (.ireturn, 1) := by decide +kernel
theorem d_Mo_inBracket_71 : decode prog_12_method_33_code 71 = .ok (.aload_n 0, 1) := by decide +kernel
theorem d_Mo_inBracket_72 : decode prog_12_method_33_code 72 = .ok (.dup, 1) := by decide +kernel
theorem d_Mo_inBracket_73 : decode prog_12_method_33_code 73 = .ok (.getfield 270, 3) := by decide +kernel
theorem d_Mo_inBracket_76 : decode prog_12_method_33_code 76 = .ok (.iconst 1, 1) := by decide +kernel
theorem d_Mo_inBracket_77 : decode prog_12_method_33_code 77 = .ok (.iadd, 1) := by decide +kernel
theorem d_Mo_inBracket_78 : decode prog_12_method_33_code 78 = .ok (.putfield 270, 3) := by decide +kernel
theorem d_Mo_inBracket_81 : decode prog_12_method_33_code 81 = .ok (.iconst 1, 1) := by decide +kernel
theorem d_Mo_inBracket_82 : decode prog_12_method_33_code 82 = .ok (.ireturn, 1) := by decide +kernel
theorem d_Mo_inBracket_83 : decode prog_12_method_33_code 83 = .ok (.iload_n 2, 1) := by decide +kernel
theorem d_Mo_inBracket_84 : decode prog_12_method_33_code 84 = .ok (.bipush 51, 2) := by decide +kernel
theorem d_Mo_inBracket_86 : decode prog_12_method_33_code 86 = .ok (.if_icmp .ne 15, 3) := by decide +kernel
theorem d_Mo_inBracket_89 : decode prog_12_method_33_code 89 = .ok (.aload_n 0, 1) := by decide +kernel
theorem d_Mo_inBracket_90 : decode prog_12_method_33_code 90 = .ok (.dup, 1) := by decide +kernel
theorem d_Mo_inBracket_91 : decode prog_12_method_33_code 91 = .ok (.getfield 270, 3) := by decide +kernel
theorem d_Mo_inBracket_94 : decode prog_12_method_33_code 94 = .ok (.iconst 1, 1) := by decide +kernel
theorem d_Mo_inBracket_95 : decode prog_12_method_33_code 95 = .ok (.iadd, 1) := by decide +kernel
theorem d_Mo_inBracket_96 : decode prog_12_method_33_code 96 = .ok (.putfield 270, 3) := by decide +kernel
theorem d_Mo_inBracket_99 : decode prog_12_method_33_code 99 = .ok (.iconst 0, 1) := by decide +kernel
theorem d_Mo_inBracket_100 : decode prog_12_method_33_code 100 = .ok (.ireturn, 1) := by decide +kernel
theorem d_Mo_inBracket_101 : decode prog_12_method_33_code 101 = .ok (.aload_n 0, 1) := by decide +kernel
theorem d_Mo_inBracket_102 : decode prog_12_method_33_code 102 = .ok (.invokevirtual 310, 3) := by decide +kernel
theorem d_Mo_inBracket_105 : decode prog_12_method_33_code 105 = .ok (.ifCond .eq 11, 3) := by decide +kernel
theorem d_Mo_inBracket_108 : decode prog_12_method_33_code 108 = .ok (.aload_n 0, 1) := by decide +kernel
theorem d_Mo_inBracket_109 : decode prog_12_method_33_code 109 = .ok (.iconst 1, 1) := by decide +kernel
theorem d_Mo_inBracket_110 : decode prog_12_method_33_code 110 = .ok (.invokevirtual 319, 3) := by decide +kernel
theorem d_Mo_inBracket_113 : decode prog_12_method_33_code 113 = .ok (.goto 10, 3) := by decide +kernel
theorem d_Mo_inBracket_116 : decode prog_12_method_33_code 116 = .ok (.aload_n 0, 1) := by decide +kernel
theorem d_Mo_inBracket_117 : decode prog_12_method_33_code 117 = .ok (.iconst 1, 1) := by decide +kernel
theorem d_Mo_inBracket_118 : decode prog_12_method_33_code 118 = .ok (.invokevirtual 319, 3) := by decide +kernel
theorem d_Mo_inBracket_121 : decode prog_12_method_33_code 121 = .ok (.iconst 1, 1) := by decide +kernel
theorem d_Mo_inBracket_122 : decode prog_12_method_33_code 122 = .ok (.iadd, 1) := by decide +kernel
theorem d_Mo_inBracket_123 : decode prog_12_method_33_code 123 = .ok (.istore_n 3, 1) := by decide +kernel
theorem d_Mo_inBracket_124 : decode prog_12_method_33_code 124 = .ok (.aload_n 0, 1) := by decide +kernel
theorem d_Mo_inBracket_125 : decode prog_12_method_33_code 125 = .ok (.iconst 1, 1) := by decide +kernel
theorem d_Mo_inBracket_126 : decode prog_12_method_33_code 126 = .ok (.iload_n 3, 1) := by decide +kernel
theorem d_Mo_inBracket_127 : decode prog_12_method_33_code 127 = .ok (.invokevirtual 304, 3) := by decide +kernel
theorem d_Mo_inBracket_130 : decode prog_12_method_33_code 130 = .ok (.iload_n 2, 1) := by decide +kernel
theorem d_Mo_inBracket_131 : decode prog_12_method_33_code 131 = .ok (.bipush 54, 2) := by decide +kernel
theorem d_Mo_inBracket_133 : decode prog_12_method_33_code 133 = .ok (.if_icmp .ne 23, 3) := by decide +kernel
theorem d_Mo_inBracket_136 : decode prog_12_method_33_code 136 = .ok (.iload_n 3, 1) := by decide +kernel
theorem d_Mo_inBracket_137 : decode prog_12_method_33_code 137 = .ok (.bipush 8, 2) := by decide +kernel
theorem d_Mo_inBracket_139 : decode prog_12_method_33_code 139 = .ok (.if_icmp .eq 17, 3) := by decide +kernel
theorem d_Mo_inBracket_142 : decode prog_12_method_33_code 142 = .ok (.iload_n 3, 1) := by decide +kernel
theorem d_Mo_inBracket_143 : decode prog_12_method_33_code 143 = .ok (.iconst 1, 1) := by decide +kernel
theorem d_Mo_inBracket_144 : decode prog_12_method_33_code 144 = .ok (.if_icmp .le 19, 3) := by decide +kernel
theorem d_Mo_inBracket_147 : decode prog_12_method_33_code 147 = .ok (.aload_n 0, 1) := by decide +kernel
theorem d_Mo_inBracket_148 : decode prog_12_method_33_code 148 = .ok (.iconst 2, 1) := by decide +kernel
theorem d_Mo_inBracket_149 : decode prog_12_method_33_code 149 = .ok (.invokevirtual 319, 3) := by decide +kernel
theorem d_Mo_inBracket_152 : decode prog_12_method_33_code 152 = .ok (.iconst 1, 1) := by decide +kernel
theorem d_Mo_inBracket_153 : decode prog_12_method_33_code 153 = .ok (.if_icmp .ne 10, 3) := by decide +kernel
theorem d_Mo_inBracket_156 : decode prog_12_method_33_code 156 = .ok (.aload_n 0, 1) := by decide +kernel
theorem d_Mo_inBracket_157 : decode prog_12_method_33_code 157 = .ok (.invokevirtual 278, 3) := by decide +kernel
theorem d_Mo_inBracket_160 : decode prog_12_method_33_code 160 = .ok (.pop, 1) := by decide +kernel
theorem d_Mo_inBracket_161 : decode prog_12_method_33_code 161 = .ok (.iconst (-1), 1) := by decide +kernel
theorem d_Mo_inBracket_162 : decode prog_12_method_33_code 162 = .ok (.ireturn, 1) := by decide +kernel
theorem d_Mo_inBracket_163 : decode prog_12_method_33_code 163 = .ok (.aload_n 0, 1) := by decide +kernel
theorem d_Mo_inBracket_164 : decode prog_12_method_33_code 164 = .ok (.dup, 1) := by decide +kernel
theorem d_Mo_inBracket_165 : decode prog_12_method_33_code 165 = .ok (.getfield 270, 3) := by decide +kernel
theorem d_Mo_inBracket_168 : decode prog_12_method_33_code 168 = .ok (.iconst 1, 1) := by decide +kernel
theorem d_Mo_inBracket_169 : decode prog_12_method_33_code 169 = .ok (.iadd, 1) := by decide +kernel
theorem d_Mo_inBracket_170 : decode prog_12_method_33_code 170 = .ok (.putfield 270, 3) := by decide +kernel
theorem d_Mo_inBracket_173 : decode prog_12_method_33_code 173 = .ok (.aload_n 0, 1) := by decide +kernel
theorem d_Mo_inBracket_174 : decode prog_12_method_33_code 174 = .ok (.invokevirtual 307, 3) := by decide +kernel
theorem d_Mo_inBracket_177 : decode prog_12_method_33_code 177 = .ok (.istore 4, 2) := by decide +kernel
theorem d_Mo_inBracket_179 : decode prog_12_method_33_code 179 = .ok (.iload 4, 2) := by decide +kernel
theorem d_Mo_inBracket_181 : decode prog_12_method_33_code 181 = .ok (.iconst 1, 1) := by decide +kernel
theorem d_Mo_inBracket_182 : decode prog_12_method_33_code 182 = .ok (.if_icmp .ne 11, 3) := by decide +kernel
theorem d_Mo_inBracket_185 : decode prog_12_method_33_code 185 = .ok (.aload_n 0, 1) := by decide +kernel
theorem d_Mo_inBracket_186 : decode prog_12_method_33_code 186 = .ok (.iconst 1, 1) := by decide +kernel
theorem d_Mo_inBracket_187 : decode prog_12_method_33_code 187 = .ok (.iload_n 3, 1) := by decide +kernel
theorem d_Mo_inBracket_188 : decode prog_12_method_33_code 188 = .ok (.iconst 1, 1) := by decide +kernel
theorem d_Mo_inBracket_189 : decode prog_12_method_33_code 189 = .ok (.iadd, 1) := by decide +kernel
theorem d_Mo_inBracket_190 : decode prog_12_method_33_code 190 = .ok (.invokevirtual 304, 3) := by decide +kernel
theorem d_Mo_inBracket_193 : decode prog_12_method_33_code 193 = .ok (.iload 4, 2) := by decide +kernel
theorem d_Mo_inBracket_195 : decode prog_12_method_33_code 195 = .ok (.ifCond .ge 7, 3) := by decide +kernel
theorem d_Mo_inBracket_198 : decode prog_12_method_33_code 198 = .ok (.iconst (-1), 1) := by decide +kernel
theorem d_Mo_inBracket_199 : decode prog_12_method_33_code 199 = .ok (.goto 14, 3) := by decide +kernel
theorem d_Mo_inBracket_202 : decode prog_12_method_33_code 202 = .ok (.iload 4, 2) := by decide +kernel
theorem d_Mo_inBracket_204 : decode prog_12_method_33_code 204 = .ok (.iconst 1, 1) := by decide +kernel
theorem d_Mo_inBracket_205 : decode prog_12_method_33_code 205 = .ok (.if_icmp .ne 7, 3) := by decide +kernel
theorem d_Mo_inBracket_208 : decode prog_12_method_33_code 208 = .ok (.iconst 2, 1) := by decide +kernel
theorem d_Mo_inBracket_209 : decode prog_12_method_33_code 209 = .ok (.goto 4, 3) := by decide +kernel
theorem d_Mo_inBracket_212 : decode prog_12_method_33_code 212 = .ok (.iconst 1, 1) := by decide +kernel
theorem d_Mo_inBracket_213 : decode prog_12_method_33_code 213 = .ok (.ireturn, 1) := by decide +kernel
set_option maxHeartbeats 4000000 in
set_option maxRecDepth 100000 in
theorem L_Mo_inBracket_193 (l : Launch) (D : va_G) (cI cB cJ cS : ClassId) (h0 : Nat) (am : Nat → Nat) (a_all_m5 : Nat) (a_all_m20 : Nat) (p1 : Int32) (p2 : Int32) (known_h0 : Int32) (thrown_h0 : Int32) (wrong_h0 : Int32) (lastEnd_h0 : Int32) (at_h0 : Int32) (bad_h0 : Int32) (levels_h0 : Int32) (least_h0 : Int32) (found_h0 : Int32) (size_m5 : Int32) (n_a_all_m5 : Nat) (b_a_all_m5 : Nat → Int32) (size_m20 : Int32) (n_a_all_m20 : Nat) (b_a_all_m20 : Nat → Int32) (ret : Int32) (o_0_17 : Int32) (o_0_18 : Int32) (ob_4 : Nat → Int32) (p : Program) (e : Env) (s : State) (m : MethodId) (below : List Frame) (meth : Method) (c : Code) (hr : meth.sig.returnType = (Option.some Jvm.ClassFile.FieldType.int)) (hnm : meth.name = y_Mo_inBracket.name) : ∀ (v4_193 : Int32) (v3_193 : Int32) (f0_17_193 : Int32) (f0_18_193 : Int32) (b4_193 : Nat → Int32), F_Mo_inBracket_193    v4_193 v3_193 f0_17_193 f0_18_193 b4_193 = some (ret, o_0_17, o_0_18, ob_4) → J (KxOf p l e { frames := 3, cells := 0, slots := 0, locals := 62 } s m [.ref h0, .int p1, .int p2].toArray below meth c D (gT cI cB cJ cS) [(h0, .inr (9, moF am known_h0 thrown_h0 wrong_h0 lastEnd_h0 at_h0 bad_h0 levels_h0 least_h0 found_h0)), ((am 5), .inr (8, [.ref a_all_m5, .int size_m5])), (a_all_m5, .inl (cI, n_a_all_m5, .inl b_a_all_m5)), ((am 20), .inr (8, [.ref a_all_m20, .int size_m20])), (a_all_m20, .inl (cI, n_a_all_m20, .inl b_a_all_m20))] (fun v w => v = some (.int ret) ∧ w = [(h0, .inr (9, moF am known_h0 thrown_h0 wrong_h0 lastEnd_h0 o_0_17 o_0_18 levels_h0 least_h0 found_h0)), ((am 5), .inr (8, [.ref a_all_m5, .int size_m5])), (a_all_m5, .inl (cI, n_a_all_m5, .inl b_a_all_m5)), ((am 20), .inr (8, [.ref a_all_m20, .int size_m20])), (a_all_m20, .inl (cI, n_a_all_m20, .inl ob_4))]) 0 0) prog_12_method_33_code 5 R_Mo 193 [(4, .int v4_193), (3, .int v3_193), (0, .ref h0), (1, .int p1), (2, .int p2)] [] [(h0, .inr (9, moF am known_h0 thrown_h0 wrong_h0 lastEnd_h0 f0_17_193 f0_18_193 levels_h0 least_h0 found_h0)), ((am 5), .inr (8, [.ref a_all_m5, .int size_m5])), (a_all_m5, .inl (cI, n_a_all_m5, .inl b_a_all_m5)), ((am 20), .inr (8, [.ref a_all_m20, .int size_m20])), (a_all_m20, .inl (cI, n_a_all_m20, .inl b4_193))] 0 0 := by
  intro v4_193 v3_193 f0_17_193 f0_18_193 b4_193 h
  unfold F_Mo_inBracket_193 at h
  refine j_iload d_Mo_inBracket_193 0 rfl ?_
  refine j_if_ge (tgt := 202) d_Mo_inBracket_195 (by decide) (fun c1 => ?_) (fun c1 => ?_)
  · replace h := it_t c1 h
    refine j_iload d_Mo_inBracket_202 0 rfl ?_
    refine j_iconst (v := 1) d_Mo_inBracket_204 (by decide) ?_
    refine j_icmp_ne (tgt := 212) d_Mo_inBracket_205 (by decide) (fun c2 => ?_) (fun c2 => ?_)
    · replace h := it_f c2 h
      refine j_iconst (v := 1) d_Mo_inBracket_212 (by decide) ?_
      replace h := Option.some.inj h
      replace h := Prod.mk.inj h
      obtain ⟨h9, h⟩ := h
      subst h9
      replace h := Prod.mk.inj h
      obtain ⟨h9, h⟩ := h
      subst h9
      replace h := Prod.mk.inj h
      obtain ⟨h9, h⟩ := h
      subst h9
      subst h
      exact j_iret (w := [(h0, .inr (9, moF am known_h0 thrown_h0 wrong_h0 lastEnd_h0 f0_17_193 f0_18_193 levels_h0 least_h0 found_h0)), ((am 5), .inr (8, [.ref a_all_m5, .int size_m5])), (a_all_m5, .inl (cI, n_a_all_m5, .inl b_a_all_m5)), ((am 20), .inr (8, [.ref a_all_m20, .int size_m20])), (a_all_m20, .inl (cI, n_a_all_m20, .inl b4_193))]) hr d_Mo_inBracket_213 [0, 1, 2, 3, 4] rfl (by decide) ⟨rfl, rfl⟩
    · replace h := it_t c2 h
      refine j_iconst (v := 2) d_Mo_inBracket_208 (by decide) ?_
      refine j_goto (tgt := 213) d_Mo_inBracket_209 (by decide) ?_
      replace h := Option.some.inj h
      replace h := Prod.mk.inj h
      obtain ⟨h9, h⟩ := h
      subst h9
      replace h := Prod.mk.inj h
      obtain ⟨h9, h⟩ := h
      subst h9
      replace h := Prod.mk.inj h
      obtain ⟨h9, h⟩ := h
      subst h9
      subst h
      exact j_iret (w := [(h0, .inr (9, moF am known_h0 thrown_h0 wrong_h0 lastEnd_h0 f0_17_193 f0_18_193 levels_h0 least_h0 found_h0)), ((am 5), .inr (8, [.ref a_all_m5, .int size_m5])), (a_all_m5, .inl (cI, n_a_all_m5, .inl b_a_all_m5)), ((am 20), .inr (8, [.ref a_all_m20, .int size_m20])), (a_all_m20, .inl (cI, n_a_all_m20, .inl b4_193))]) hr d_Mo_inBracket_213 [0, 1, 2, 3, 4] rfl (by decide) ⟨rfl, rfl⟩
  · replace h := it_f c1 h
    refine j_iconst (v := (-1)) d_Mo_inBracket_198 (by decide) ?_
    refine j_goto (tgt := 213) d_Mo_inBracket_199 (by decide) ?_
    replace h := Option.some.inj h
    replace h := Prod.mk.inj h
    obtain ⟨h9, h⟩ := h
    subst h9
    replace h := Prod.mk.inj h
    obtain ⟨h9, h⟩ := h
    subst h9
    replace h := Prod.mk.inj h
    obtain ⟨h9, h⟩ := h
    subst h9
    subst h
    exact j_iret (w := [(h0, .inr (9, moF am known_h0 thrown_h0 wrong_h0 lastEnd_h0 f0_17_193 f0_18_193 levels_h0 least_h0 found_h0)), ((am 5), .inr (8, [.ref a_all_m5, .int size_m5])), (a_all_m5, .inl (cI, n_a_all_m5, .inl b_a_all_m5)), ((am 20), .inr (8, [.ref a_all_m20, .int size_m20])), (a_all_m20, .inl (cI, n_a_all_m20, .inl b4_193))]) hr d_Mo_inBracket_213 [0, 1, 2, 3, 4] rfl (by decide) ⟨rfl, rfl⟩
set_option maxHeartbeats 4000000 in
set_option maxRecDepth 100000 in
theorem L_Mo_inBracket_163 (l : Launch) (D : va_G) (cI cB cJ cS : ClassId) (h0 : Nat) (am : Nat → Nat) (a_all_m5 : Nat) (a_all_m20 : Nat) (p1 : Int32) (p2 : Int32) (known_h0 : Int32) (thrown_h0 : Int32) (wrong_h0 : Int32) (lastEnd_h0 : Int32) (at_h0 : Int32) (bad_h0 : Int32) (levels_h0 : Int32) (least_h0 : Int32) (found_h0 : Int32) (size_m5 : Int32) (n_a_all_m5 : Nat) (b_a_all_m5 : Nat → Int32) (size_m20 : Int32) (n_a_all_m20 : Nat) (b_a_all_m20 : Nat → Int32) (ret : Int32) (o_0_17 : Int32) (o_0_18 : Int32) (ob_4 : Nat → Int32) (p : Program) (e : Env) (s : State) (m : MethodId) (below : List Frame) (meth : Method) (c : Code) (hr : meth.sig.returnType = (Option.some Jvm.ClassFile.FieldType.int)) (hnm : meth.name = y_Mo_inBracket.name) : ∀ (v3_163 : Int32) (b4_163 : Nat → Int32), F_Mo_inBracket_163 known_h0 thrown_h0 wrong_h0 lastEnd_h0 at_h0 bad_h0 levels_h0 least_h0 found_h0 size_m5 n_a_all_m5 b_a_all_m5 size_m20 n_a_all_m20   v3_163 b4_163 = some (ret, o_0_17, o_0_18, ob_4) → J (KxOf p l e { frames := 3, cells := 0, slots := 0, locals := 62 } s m [.ref h0, .int p1, .int p2].toArray below meth c D (gT cI cB cJ cS) [(h0, .inr (9, moF am known_h0 thrown_h0 wrong_h0 lastEnd_h0 at_h0 bad_h0 levels_h0 least_h0 found_h0)), ((am 5), .inr (8, [.ref a_all_m5, .int size_m5])), (a_all_m5, .inl (cI, n_a_all_m5, .inl b_a_all_m5)), ((am 20), .inr (8, [.ref a_all_m20, .int size_m20])), (a_all_m20, .inl (cI, n_a_all_m20, .inl b_a_all_m20))] (fun v w => v = some (.int ret) ∧ w = [(h0, .inr (9, moF am known_h0 thrown_h0 wrong_h0 lastEnd_h0 o_0_17 o_0_18 levels_h0 least_h0 found_h0)), ((am 5), .inr (8, [.ref a_all_m5, .int size_m5])), (a_all_m5, .inl (cI, n_a_all_m5, .inl b_a_all_m5)), ((am 20), .inr (8, [.ref a_all_m20, .int size_m20])), (a_all_m20, .inl (cI, n_a_all_m20, .inl ob_4))]) 0 0) prog_12_method_33_code 5 R_Mo 163 [(3, .int v3_163), (0, .ref h0), (1, .int p1), (2, .int p2)] [] [((am 5), .inr (8, [.ref a_all_m5, .int size_m5])), (a_all_m5, .inl (cI, n_a_all_m5, .inl b_a_all_m5)), (h0, .inr (9, moF am known_h0 thrown_h0 wrong_h0 lastEnd_h0 at_h0 bad_h0 levels_h0 least_h0 found_h0)), ((am 20), .inr (8, [.ref a_all_m20, .int size_m20])), (a_all_m20, .inl (cI, n_a_all_m20, .inl b4_163))] 0 0 := by
  intro v3_163 b4_163 h
  unfold F_Mo_inBracket_163 at h
  refine j_aload_n d_Mo_inBracket_163 rfl 1 rfl ?_
  refine j_dup rfl d_Mo_inBracket_164 ?_
  refine j_get ig_Mo rfl 2 rfl 17 (by decide) rfl m_1130 rfl d_Mo_inBracket_165 ?_
  refine j_iconst (v := 1) d_Mo_inBracket_168 (by decide) ?_
  refine j_iadd d_Mo_inBracket_169 ?_
  refine j_put (ws' := [((am 5), .inr (8, [.ref a_all_m5, .int size_m5])), (a_all_m5, .inl (cI, n_a_all_m5, .inl b_a_all_m5)), (h0, .inr (9, moF am known_h0 thrown_h0 wrong_h0 lastEnd_h0 (at_h0 + 1) bad_h0 levels_h0 least_h0 found_h0)), ((am 20), .inr (8, [.ref a_all_m20, .int size_m20])), (a_all_m20, .inl (cI, n_a_all_m20, .inl b4_163))]) ig_Mo tk_Mo nm_Mo rfl 2 rfl 17 (by decide) rfl m_1130 rfl (tk_Mo 17 (by decide)) rfl rfl (Nat.le_of_ble_eq_true rfl) d_Mo_inBracket_170 rfl ?_
  refine j_aload_n d_Mo_inBracket_173 rfl 1 rfl ?_
  replace h := bd_s h
  obtain ⟨⟨r3, r4, r5, r6⟩, k7, h⟩ := h
  refine j_callV (n := 0) (As := []) (rest := []) (wr := []) (c_Mo_wholeColon l D cI cB cJ cS h0 am a_all_m5 a_all_m20 known_h0 thrown_h0 wrong_h0 lastEnd_h0 (at_h0 + 1) bad_h0 levels_h0 least_h0 found_h0 size_m5 n_a_all_m5 b_a_all_m5 size_m20 n_a_all_m20 b4_163  r3 r4 r5 r6 k7) k_Mo_307 (by decide) ⟨Nat.le_of_ble_eq_true rfl, Nat.le_of_ble_eq_true rfl⟩ rfl 0 rfl [2, 0, 1, 3, 4] [] rfl (by decide) rfl (by decide) (by decide) rfl rfl (Nat.le_of_ble_eq_true rfl) d_Mo_inBracket_174 ⟨Nat.le_of_ble_eq_true rfl, Nat.le_of_ble_eq_true rfl⟩ (fun v w hq => ?_)
  obtain ⟨rfl, rfl⟩ := hq
  refine j_norm (pc' := 177) (st' := [.int r3]) (ws' := [(h0, .inr (9, moF am known_h0 thrown_h0 wrong_h0 lastEnd_h0 r4 r5 levels_h0 least_h0 found_h0)), ((am 5), .inr (8, [.ref a_all_m5, .int size_m5])), (a_all_m5, .inl (cI, n_a_all_m5, .inl b_a_all_m5)), ((am 20), .inr (8, [.ref a_all_m20, .int size_m20])), (a_all_m20, .inl (cI, n_a_all_m20, .inl r6))]) (cl' := 0) (sl' := 0) rfl rfl rfl rfl rfl rfl ?_
  refine j_istore (lv' := [(4, .int r3), (3, .int v3_163), (0, .ref h0), (1, .int p1), (2, .int p2)]) d_Mo_inBracket_177 (by decide) rfl ?_
  refine j_iload d_Mo_inBracket_179 0 rfl ?_
  refine j_iconst (v := 1) d_Mo_inBracket_181 (by decide) ?_
  refine j_icmp_ne (tgt := 193) d_Mo_inBracket_182 (by decide) (fun c8 => ?_) (fun c8 => ?_)
  · replace h := it_f c8 h
    refine j_sub (w := [(h0, .inr (9, moF am known_h0 thrown_h0 wrong_h0 lastEnd_h0 r4 r5 levels_h0 least_h0 found_h0)), ((am 5), .inr (8, [.ref a_all_m5, .int size_m5])), (a_all_m5, .inl (cI, n_a_all_m5, .inl b_a_all_m5)), ((am 20), .inr (8, [.ref a_all_m20, .int size_m20])), (a_all_m20, .inl (cI, n_a_all_m20, .inl r6))]) (lv' := [(4, .int r3), (3, .int v3_163), (0, .ref h0), (1, .int p1), (2, .int p2)]) [0, 1, 2, 3, 4] rfl (by decide) [0, 1, 2, 3, 4] rfl ?_
    exact L_Mo_inBracket_193 l D cI cB cJ cS h0 am a_all_m5 a_all_m20 p1 p2 known_h0 thrown_h0 wrong_h0 lastEnd_h0 at_h0 bad_h0 levels_h0 least_h0 found_h0 size_m5 n_a_all_m5 b_a_all_m5 size_m20 n_a_all_m20 b_a_all_m20 ret o_0_17 o_0_18 ob_4 p e s m below meth c hr hnm r3 v3_163 r4 r5 r6 h
  · replace h := it_t c8 h
    refine j_aload_n d_Mo_inBracket_185 rfl 2 rfl ?_
    refine j_iconst (v := 1) d_Mo_inBracket_186 (by decide) ?_
    refine j_iload_n d_Mo_inBracket_187 rfl 1 rfl ?_
    refine j_iconst (v := 1) d_Mo_inBracket_188 (by decide) ?_
    refine j_iadd d_Mo_inBracket_189 ?_
    replace h := bd_s h
    obtain ⟨_, k9, h⟩ := h
    refine j_callV (n := 2) (As := [.int 1, .int (v3_163 + 1)]) (rest := []) (wr := [((am 5), .inr (8, [.ref a_all_m5, .int size_m5])), (a_all_m5, .inl (cI, n_a_all_m5, .inl b_a_all_m5))]) (c_Mo_setTop l D cI cB cJ cS h0 am a_all_m20 1 (v3_163 + 1) known_h0 thrown_h0 wrong_h0 lastEnd_h0 r4 r5 levels_h0 least_h0 found_h0 size_m20 n_a_all_m20 r6  k9) k_Mo_304 (by decide) ⟨Nat.le_of_ble_eq_true rfl, Nat.le_of_ble_eq_true rfl⟩ rfl 0 rfl [0, 3, 4] [1, 2] rfl (by decide) rfl (by decide) (by decide) rfl rfl (Nat.le_of_ble_eq_true rfl) d_Mo_inBracket_190 ⟨Nat.le_of_ble_eq_true rfl, Nat.le_of_ble_eq_true rfl⟩ (fun v w hq => ?_)
    obtain ⟨rfl, rfl⟩ := hq
    refine j_norm (pc' := 193) (st' := []) (ws' := [((am 5), .inr (8, [.ref a_all_m5, .int size_m5])), (a_all_m5, .inl (cI, n_a_all_m5, .inl b_a_all_m5)), (h0, .inr (9, moF am known_h0 thrown_h0 wrong_h0 lastEnd_h0 r4 r5 levels_h0 least_h0 found_h0)), ((am 20), .inr (8, [.ref a_all_m20, .int size_m20])), (a_all_m20, .inl (cI, n_a_all_m20, .inl (upd r6 (Int32.toNatClampNeg ((size_m20 - 5) + 1)) (v3_163 + 1))))]) (cl' := 0) (sl' := 0) rfl rfl rfl rfl rfl rfl ?_
    refine j_sub (w := [(h0, .inr (9, moF am known_h0 thrown_h0 wrong_h0 lastEnd_h0 r4 r5 levels_h0 least_h0 found_h0)), ((am 5), .inr (8, [.ref a_all_m5, .int size_m5])), (a_all_m5, .inl (cI, n_a_all_m5, .inl b_a_all_m5)), ((am 20), .inr (8, [.ref a_all_m20, .int size_m20])), (a_all_m20, .inl (cI, n_a_all_m20, .inl (upd r6 (Int32.toNatClampNeg ((size_m20 - 5) + 1)) (v3_163 + 1))))]) (lv' := [(4, .int r3), (3, .int v3_163), (0, .ref h0), (1, .int p1), (2, .int p2)]) [2, 0, 1, 3, 4] rfl (by decide) [0, 1, 2, 3, 4] rfl ?_
    exact L_Mo_inBracket_193 l D cI cB cJ cS h0 am a_all_m5 a_all_m20 p1 p2 known_h0 thrown_h0 wrong_h0 lastEnd_h0 at_h0 bad_h0 levels_h0 least_h0 found_h0 size_m5 n_a_all_m5 b_a_all_m5 size_m20 n_a_all_m20 b_a_all_m20 ret o_0_17 o_0_18 ob_4 p e s m below meth c hr hnm r3 v3_163 r4 r5 (upd r6 (Int32.toNatClampNeg ((size_m20 - 5) + 1)) (v3_163 + 1)) h
set_option maxHeartbeats 4000000 in
set_option maxRecDepth 100000 in
theorem L_Mo_inBracket_123 (l : Launch) (D : va_G) (cI cB cJ cS : ClassId) (h0 : Nat) (am : Nat → Nat) (a_all_m5 : Nat) (a_all_m20 : Nat) (p1 : Int32) (p2 : Int32) (known_h0 : Int32) (thrown_h0 : Int32) (wrong_h0 : Int32) (lastEnd_h0 : Int32) (at_h0 : Int32) (bad_h0 : Int32) (levels_h0 : Int32) (least_h0 : Int32) (found_h0 : Int32) (size_m5 : Int32) (n_a_all_m5 : Nat) (b_a_all_m5 : Nat → Int32) (size_m20 : Int32) (n_a_all_m20 : Nat) (b_a_all_m20 : Nat → Int32) (ret : Int32) (o_0_17 : Int32) (o_0_18 : Int32) (ob_4 : Nat → Int32) (p : Program) (e : Env) (s : State) (m : MethodId) (below : List Frame) (meth : Method) (c : Code) (hr : meth.sig.returnType = (Option.some Jvm.ClassFile.FieldType.int)) (hnm : meth.name = y_Mo_inBracket.name) : ∀ (t0_123 : Int32), F_Mo_inBracket_123 p2 known_h0 thrown_h0 wrong_h0 lastEnd_h0 at_h0 bad_h0 levels_h0 least_h0 found_h0 size_m5 n_a_all_m5 b_a_all_m5 size_m20 n_a_all_m20 b_a_all_m20   t0_123 = some (ret, o_0_17, o_0_18, ob_4) → J (KxOf p l e { frames := 3, cells := 0, slots := 0, locals := 62 } s m [.ref h0, .int p1, .int p2].toArray below meth c D (gT cI cB cJ cS) [(h0, .inr (9, moF am known_h0 thrown_h0 wrong_h0 lastEnd_h0 at_h0 bad_h0 levels_h0 least_h0 found_h0)), ((am 5), .inr (8, [.ref a_all_m5, .int size_m5])), (a_all_m5, .inl (cI, n_a_all_m5, .inl b_a_all_m5)), ((am 20), .inr (8, [.ref a_all_m20, .int size_m20])), (a_all_m20, .inl (cI, n_a_all_m20, .inl b_a_all_m20))] (fun v w => v = some (.int ret) ∧ w = [(h0, .inr (9, moF am known_h0 thrown_h0 wrong_h0 lastEnd_h0 o_0_17 o_0_18 levels_h0 least_h0 found_h0)), ((am 5), .inr (8, [.ref a_all_m5, .int size_m5])), (a_all_m5, .inl (cI, n_a_all_m5, .inl b_a_all_m5)), ((am 20), .inr (8, [.ref a_all_m20, .int size_m20])), (a_all_m20, .inl (cI, n_a_all_m20, .inl ob_4))]) 0 0) prog_12_method_33_code 5 R_Mo 123 [(0, .ref h0), (1, .int p1), (2, .int p2)] [.int t0_123] [((am 5), .inr (8, [.ref a_all_m5, .int size_m5])), (a_all_m5, .inl (cI, n_a_all_m5, .inl b_a_all_m5)), (h0, .inr (9, moF am known_h0 thrown_h0 wrong_h0 lastEnd_h0 at_h0 bad_h0 levels_h0 least_h0 found_h0)), ((am 20), .inr (8, [.ref a_all_m20, .int size_m20])), (a_all_m20, .inl (cI, n_a_all_m20, .inl b_a_all_m20))] 0 0 := by
  intro t0_123 h
  unfold F_Mo_inBracket_123 at h
  refine j_istore_n (lv' := [(3, .int t0_123), (0, .ref h0), (1, .int p1), (2, .int p2)]) d_Mo_inBracket_123 rfl (by decide) rfl ?_
  refine j_aload_n d_Mo_inBracket_124 rfl 1 rfl ?_
  refine j_iconst (v := 1) d_Mo_inBracket_125 (by decide) ?_
  refine j_iload_n d_Mo_inBracket_126 rfl 0 rfl ?_
  replace h := bd_s h
  obtain ⟨_, k10, h⟩ := h
  refine j_callV (n := 2) (As := [.int 1, .int t0_123]) (rest := []) (wr := [((am 5), .inr (8, [.ref a_all_m5, .int size_m5])), (a_all_m5, .inl (cI, n_a_all_m5, .inl b_a_all_m5))]) (c_Mo_setTop l D cI cB cJ cS h0 am a_all_m20 1 t0_123 known_h0 thrown_h0 wrong_h0 lastEnd_h0 at_h0 bad_h0 levels_h0 least_h0 found_h0 size_m20 n_a_all_m20 b_a_all_m20  k10) k_Mo_304 (by decide) ⟨Nat.le_of_ble_eq_true rfl, Nat.le_of_ble_eq_true rfl⟩ rfl 0 rfl [2, 3, 4] [0, 1] rfl (by decide) rfl (by decide) (by decide) rfl rfl (Nat.le_of_ble_eq_true rfl) d_Mo_inBracket_127 ⟨Nat.le_of_ble_eq_true rfl, Nat.le_of_ble_eq_true rfl⟩ (fun v w hq => ?_)
  obtain ⟨rfl, rfl⟩ := hq
  refine j_norm (pc' := 130) (st' := []) (ws' := [((am 5), .inr (8, [.ref a_all_m5, .int size_m5])), (a_all_m5, .inl (cI, n_a_all_m5, .inl b_a_all_m5)), (h0, .inr (9, moF am known_h0 thrown_h0 wrong_h0 lastEnd_h0 at_h0 bad_h0 levels_h0 least_h0 found_h0)), ((am 20), .inr (8, [.ref a_all_m20, .int size_m20])), (a_all_m20, .inl (cI, n_a_all_m20, .inl (upd b_a_all_m20 (Int32.toNatClampNeg ((size_m20 - 5) + 1)) t0_123)))]) (cl' := 0) (sl' := 0) rfl rfl rfl rfl rfl rfl ?_
  refine j_iload_n d_Mo_inBracket_130 rfl 3 rfl ?_
  refine j_bipush (v := 54) d_Mo_inBracket_131 (by decide) ?_
  refine j_icmp_ne (tgt := 156) d_Mo_inBracket_133 (by decide) (fun c11 => ?_) (fun c11 => ?_)
  · replace h := it_f c11 h
    refine j_aload_n d_Mo_inBracket_156 rfl 1 rfl ?_
    refine j_callV (n := 0) (As := []) (rest := []) (wr := [((am 5), .inr (8, [.ref a_all_m5, .int size_m5])), (a_all_m5, .inl (cI, n_a_all_m5, .inl b_a_all_m5)), ((am 20), .inr (8, [.ref a_all_m20, .int size_m20])), (a_all_m20, .inl (cI, n_a_all_m20, .inl (upd b_a_all_m20 (Int32.toNatClampNeg ((size_m20 - 5) + 1)) t0_123)))]) (c_Mo_fail l D cI cB cJ cS h0 am known_h0 thrown_h0 wrong_h0 lastEnd_h0 at_h0 bad_h0 levels_h0 least_h0 found_h0  ) k_Mo_278 (by decide) ⟨Nat.le_of_ble_eq_true rfl, Nat.le_of_ble_eq_true rfl⟩ rfl 0 rfl [2] [0, 1, 3, 4] rfl (by decide) rfl (by decide) (by decide) rfl rfl (Nat.le_of_ble_eq_true rfl) d_Mo_inBracket_157 ⟨Nat.le_of_ble_eq_true rfl, Nat.le_of_ble_eq_true rfl⟩ (fun v w hq => ?_)
    obtain ⟨rfl, _, rfl⟩ := hq
    refine j_norm (pc' := 160) (st' := [.int 0]) (ws' := [((am 5), .inr (8, [.ref a_all_m5, .int size_m5])), (a_all_m5, .inl (cI, n_a_all_m5, .inl b_a_all_m5)), ((am 20), .inr (8, [.ref a_all_m20, .int size_m20])), (a_all_m20, .inl (cI, n_a_all_m20, .inl (upd b_a_all_m20 (Int32.toNatClampNeg ((size_m20 - 5) + 1)) t0_123))), (h0, .inr (9, moF am known_h0 thrown_h0 wrong_h0 lastEnd_h0 at_h0 at_h0 levels_h0 least_h0 found_h0))]) (cl' := 0) (sl' := 0) rfl rfl rfl rfl rfl rfl ?_
    refine j_pop rfl d_Mo_inBracket_160 ?_
    refine j_iconst (v := (-1)) d_Mo_inBracket_161 (by decide) ?_
    replace h := Option.some.inj h
    replace h := Prod.mk.inj h
    obtain ⟨h9, h⟩ := h
    subst h9
    replace h := Prod.mk.inj h
    obtain ⟨h9, h⟩ := h
    subst h9
    replace h := Prod.mk.inj h
    obtain ⟨h9, h⟩ := h
    subst h9
    subst h
    exact j_iret (w := [(h0, .inr (9, moF am known_h0 thrown_h0 wrong_h0 lastEnd_h0 at_h0 at_h0 levels_h0 least_h0 found_h0)), ((am 5), .inr (8, [.ref a_all_m5, .int size_m5])), (a_all_m5, .inl (cI, n_a_all_m5, .inl b_a_all_m5)), ((am 20), .inr (8, [.ref a_all_m20, .int size_m20])), (a_all_m20, .inl (cI, n_a_all_m20, .inl (upd b_a_all_m20 (Int32.toNatClampNeg ((size_m20 - 5) + 1)) t0_123)))]) hr d_Mo_inBracket_162 [4, 0, 1, 2, 3] rfl (by decide) ⟨rfl, rfl⟩
  · replace h := it_t c11 h
    refine j_iload_n d_Mo_inBracket_136 rfl 0 rfl ?_
    refine j_bipush (v := 8) d_Mo_inBracket_137 (by decide) ?_
    refine j_icmp_eq (tgt := 156) d_Mo_inBracket_139 (by decide) (fun c13 => ?_) (fun c13 => ?_)
    · replace h := it_t c13 h
      refine j_aload_n d_Mo_inBracket_156 rfl 1 rfl ?_
      refine j_callV (n := 0) (As := []) (rest := []) (wr := [((am 5), .inr (8, [.ref a_all_m5, .int size_m5])), (a_all_m5, .inl (cI, n_a_all_m5, .inl b_a_all_m5)), ((am 20), .inr (8, [.ref a_all_m20, .int size_m20])), (a_all_m20, .inl (cI, n_a_all_m20, .inl (upd b_a_all_m20 (Int32.toNatClampNeg ((size_m20 - 5) + 1)) t0_123)))]) (c_Mo_fail l D cI cB cJ cS h0 am known_h0 thrown_h0 wrong_h0 lastEnd_h0 at_h0 bad_h0 levels_h0 least_h0 found_h0  ) k_Mo_278 (by decide) ⟨Nat.le_of_ble_eq_true rfl, Nat.le_of_ble_eq_true rfl⟩ rfl 0 rfl [2] [0, 1, 3, 4] rfl (by decide) rfl (by decide) (by decide) rfl rfl (Nat.le_of_ble_eq_true rfl) d_Mo_inBracket_157 ⟨Nat.le_of_ble_eq_true rfl, Nat.le_of_ble_eq_true rfl⟩ (fun v w hq => ?_)
      obtain ⟨rfl, _, rfl⟩ := hq
      refine j_norm (pc' := 160) (st' := [.int 0]) (ws' := [((am 5), .inr (8, [.ref a_all_m5, .int size_m5])), (a_all_m5, .inl (cI, n_a_all_m5, .inl b_a_all_m5)), ((am 20), .inr (8, [.ref a_all_m20, .int size_m20])), (a_all_m20, .inl (cI, n_a_all_m20, .inl (upd b_a_all_m20 (Int32.toNatClampNeg ((size_m20 - 5) + 1)) t0_123))), (h0, .inr (9, moF am known_h0 thrown_h0 wrong_h0 lastEnd_h0 at_h0 at_h0 levels_h0 least_h0 found_h0))]) (cl' := 0) (sl' := 0) rfl rfl rfl rfl rfl rfl ?_
      refine j_pop rfl d_Mo_inBracket_160 ?_
      refine j_iconst (v := (-1)) d_Mo_inBracket_161 (by decide) ?_
      replace h := Option.some.inj h
      replace h := Prod.mk.inj h
      obtain ⟨h9, h⟩ := h
      subst h9
      replace h := Prod.mk.inj h
      obtain ⟨h9, h⟩ := h
      subst h9
      replace h := Prod.mk.inj h
      obtain ⟨h9, h⟩ := h
      subst h9
      subst h
      exact j_iret (w := [(h0, .inr (9, moF am known_h0 thrown_h0 wrong_h0 lastEnd_h0 at_h0 at_h0 levels_h0 least_h0 found_h0)), ((am 5), .inr (8, [.ref a_all_m5, .int size_m5])), (a_all_m5, .inl (cI, n_a_all_m5, .inl b_a_all_m5)), ((am 20), .inr (8, [.ref a_all_m20, .int size_m20])), (a_all_m20, .inl (cI, n_a_all_m20, .inl (upd b_a_all_m20 (Int32.toNatClampNeg ((size_m20 - 5) + 1)) t0_123)))]) hr d_Mo_inBracket_162 [4, 0, 1, 2, 3] rfl (by decide) ⟨rfl, rfl⟩
    · replace h := it_f c13 h
      refine j_iload_n d_Mo_inBracket_142 rfl 0 rfl ?_
      refine j_iconst (v := 1) d_Mo_inBracket_143 (by decide) ?_
      refine j_icmp_le (tgt := 163) d_Mo_inBracket_144 (by decide) (fun c15 => ?_) (fun c15 => ?_)
      · replace h := it_t c15 h
        refine j_sub (w := [((am 5), .inr (8, [.ref a_all_m5, .int size_m5])), (a_all_m5, .inl (cI, n_a_all_m5, .inl b_a_all_m5)), (h0, .inr (9, moF am known_h0 thrown_h0 wrong_h0 lastEnd_h0 at_h0 bad_h0 levels_h0 least_h0 found_h0)), ((am 20), .inr (8, [.ref a_all_m20, .int size_m20])), (a_all_m20, .inl (cI, n_a_all_m20, .inl (upd b_a_all_m20 (Int32.toNatClampNeg ((size_m20 - 5) + 1)) t0_123)))]) (lv' := [(3, .int t0_123), (0, .ref h0), (1, .int p1), (2, .int p2)]) [0, 1, 2, 3, 4] rfl (by decide) [0, 1, 2, 3] rfl ?_
        exact L_Mo_inBracket_163 l D cI cB cJ cS h0 am a_all_m5 a_all_m20 p1 p2 known_h0 thrown_h0 wrong_h0 lastEnd_h0 at_h0 bad_h0 levels_h0 least_h0 found_h0 size_m5 n_a_all_m5 b_a_all_m5 size_m20 n_a_all_m20 b_a_all_m20 ret o_0_17 o_0_18 ob_4 p e s m below meth c hr hnm t0_123 (upd b_a_all_m20 (Int32.toNatClampNeg ((size_m20 - 5) + 1)) t0_123) h
      · replace h := it_f c15 h
        refine j_aload_n d_Mo_inBracket_147 rfl 1 rfl ?_
        refine j_iconst (v := 2) d_Mo_inBracket_148 (by decide) ?_
        replace h := bd_s h
        obtain ⟨_, k16, h⟩ := h
        refine j_callV (n := 1) (As := [.int 2]) (rest := []) (wr := [((am 5), .inr (8, [.ref a_all_m5, .int size_m5])), (a_all_m5, .inl (cI, n_a_all_m5, .inl b_a_all_m5))]) (c_Mo_top l D cI cB cJ cS h0 am a_all_m20 2 known_h0 thrown_h0 wrong_h0 lastEnd_h0 at_h0 bad_h0 levels_h0 least_h0 found_h0 size_m20 n_a_all_m20 (upd b_a_all_m20 (Int32.toNatClampNeg ((size_m20 - 5) + 1)) t0_123)  k16) k_Mo_319 (by decide) ⟨Nat.le_of_ble_eq_true rfl, Nat.le_of_ble_eq_true rfl⟩ rfl 0 rfl [2, 3, 4] [0, 1] rfl (by decide) rfl (by decide) (by decide) rfl rfl (Nat.le_of_ble_eq_true rfl) d_Mo_inBracket_149 ⟨Nat.le_of_ble_eq_true rfl, Nat.le_of_ble_eq_true rfl⟩ (fun v w hq => ?_)
        obtain ⟨rfl, rfl⟩ := hq
        refine j_norm (pc' := 152) (st' := [.int ((upd b_a_all_m20 (Int32.toNatClampNeg ((size_m20 - 5) + 1)) t0_123) (Int32.toNatClampNeg ((size_m20 - 5) + 2)))]) (ws' := [((am 5), .inr (8, [.ref a_all_m5, .int size_m5])), (a_all_m5, .inl (cI, n_a_all_m5, .inl b_a_all_m5)), (h0, .inr (9, moF am known_h0 thrown_h0 wrong_h0 lastEnd_h0 at_h0 bad_h0 levels_h0 least_h0 found_h0)), ((am 20), .inr (8, [.ref a_all_m20, .int size_m20])), (a_all_m20, .inl (cI, n_a_all_m20, .inl (upd b_a_all_m20 (Int32.toNatClampNeg ((size_m20 - 5) + 1)) t0_123)))]) (cl' := 0) (sl' := 0) rfl rfl rfl rfl rfl rfl ?_
        refine j_iconst (v := 1) d_Mo_inBracket_152 (by decide) ?_
        refine j_icmp_ne (tgt := 163) d_Mo_inBracket_153 (by decide) (fun c17 => ?_) (fun c17 => ?_)
        · replace h := it_f c17 h
          refine j_sub (w := [((am 5), .inr (8, [.ref a_all_m5, .int size_m5])), (a_all_m5, .inl (cI, n_a_all_m5, .inl b_a_all_m5)), (h0, .inr (9, moF am known_h0 thrown_h0 wrong_h0 lastEnd_h0 at_h0 bad_h0 levels_h0 least_h0 found_h0)), ((am 20), .inr (8, [.ref a_all_m20, .int size_m20])), (a_all_m20, .inl (cI, n_a_all_m20, .inl (upd b_a_all_m20 (Int32.toNatClampNeg ((size_m20 - 5) + 1)) t0_123)))]) (lv' := [(3, .int t0_123), (0, .ref h0), (1, .int p1), (2, .int p2)]) [0, 1, 2, 3, 4] rfl (by decide) [0, 1, 2, 3] rfl ?_
          exact L_Mo_inBracket_163 l D cI cB cJ cS h0 am a_all_m5 a_all_m20 p1 p2 known_h0 thrown_h0 wrong_h0 lastEnd_h0 at_h0 bad_h0 levels_h0 least_h0 found_h0 size_m5 n_a_all_m5 b_a_all_m5 size_m20 n_a_all_m20 b_a_all_m20 ret o_0_17 o_0_18 ob_4 p e s m below meth c hr hnm t0_123 (upd b_a_all_m20 (Int32.toNatClampNeg ((size_m20 - 5) + 1)) t0_123) h
        · replace h := it_t c17 h
          refine j_aload_n d_Mo_inBracket_156 rfl 1 rfl ?_
          refine j_callV (n := 0) (As := []) (rest := []) (wr := [((am 5), .inr (8, [.ref a_all_m5, .int size_m5])), (a_all_m5, .inl (cI, n_a_all_m5, .inl b_a_all_m5)), ((am 20), .inr (8, [.ref a_all_m20, .int size_m20])), (a_all_m20, .inl (cI, n_a_all_m20, .inl (upd b_a_all_m20 (Int32.toNatClampNeg ((size_m20 - 5) + 1)) t0_123)))]) (c_Mo_fail l D cI cB cJ cS h0 am known_h0 thrown_h0 wrong_h0 lastEnd_h0 at_h0 bad_h0 levels_h0 least_h0 found_h0  ) k_Mo_278 (by decide) ⟨Nat.le_of_ble_eq_true rfl, Nat.le_of_ble_eq_true rfl⟩ rfl 0 rfl [2] [0, 1, 3, 4] rfl (by decide) rfl (by decide) (by decide) rfl rfl (Nat.le_of_ble_eq_true rfl) d_Mo_inBracket_157 ⟨Nat.le_of_ble_eq_true rfl, Nat.le_of_ble_eq_true rfl⟩ (fun v w hq => ?_)
          obtain ⟨rfl, _, rfl⟩ := hq
          refine j_norm (pc' := 160) (st' := [.int 0]) (ws' := [((am 5), .inr (8, [.ref a_all_m5, .int size_m5])), (a_all_m5, .inl (cI, n_a_all_m5, .inl b_a_all_m5)), ((am 20), .inr (8, [.ref a_all_m20, .int size_m20])), (a_all_m20, .inl (cI, n_a_all_m20, .inl (upd b_a_all_m20 (Int32.toNatClampNeg ((size_m20 - 5) + 1)) t0_123))), (h0, .inr (9, moF am known_h0 thrown_h0 wrong_h0 lastEnd_h0 at_h0 at_h0 levels_h0 least_h0 found_h0))]) (cl' := 0) (sl' := 0) rfl rfl rfl rfl rfl rfl ?_
          refine j_pop rfl d_Mo_inBracket_160 ?_
          refine j_iconst (v := (-1)) d_Mo_inBracket_161 (by decide) ?_
          replace h := Option.some.inj h
          replace h := Prod.mk.inj h
          obtain ⟨h9, h⟩ := h
          subst h9
          replace h := Prod.mk.inj h
          obtain ⟨h9, h⟩ := h
          subst h9
          replace h := Prod.mk.inj h
          obtain ⟨h9, h⟩ := h
          subst h9
          subst h
          exact j_iret (w := [(h0, .inr (9, moF am known_h0 thrown_h0 wrong_h0 lastEnd_h0 at_h0 at_h0 levels_h0 least_h0 found_h0)), ((am 5), .inr (8, [.ref a_all_m5, .int size_m5])), (a_all_m5, .inl (cI, n_a_all_m5, .inl b_a_all_m5)), ((am 20), .inr (8, [.ref a_all_m20, .int size_m20])), (a_all_m20, .inl (cI, n_a_all_m20, .inl (upd b_a_all_m20 (Int32.toNatClampNeg ((size_m20 - 5) + 1)) t0_123)))]) hr d_Mo_inBracket_162 [4, 0, 1, 2, 3] rfl (by decide) ⟨rfl, rfl⟩
set_option maxHeartbeats 4000000 in
set_option maxRecDepth 100000 in
theorem L_Mo_inBracket_57 (l : Launch) (D : va_G) (cI cB cJ cS : ClassId) (h0 : Nat) (am : Nat → Nat) (a_all_m5 : Nat) (a_all_m20 : Nat) (p1 : Int32) (p2 : Int32) (known_h0 : Int32) (thrown_h0 : Int32) (wrong_h0 : Int32) (lastEnd_h0 : Int32) (at_h0 : Int32) (bad_h0 : Int32) (levels_h0 : Int32) (least_h0 : Int32) (found_h0 : Int32) (size_m5 : Int32) (n_a_all_m5 : Nat) (b_a_all_m5 : Nat → Int32) (size_m20 : Int32) (n_a_all_m20 : Nat) (b_a_all_m20 : Nat → Int32) (ret : Int32) (o_0_17 : Int32) (o_0_18 : Int32) (ob_4 : Nat → Int32) (p : Program) (e : Env) (s : State) (m : MethodId) (below : List Frame) (meth : Method) (c : Code) (hr : meth.sig.returnType = (Option.some Jvm.ClassFile.FieldType.int)) (hnm : meth.name = y_Mo_inBracket.name) : F_Mo_inBracket_57 known_h0 thrown_h0 wrong_h0 lastEnd_h0 at_h0 bad_h0 levels_h0 least_h0 found_h0 size_m5 n_a_all_m5 b_a_all_m5 b_a_all_m20    = some (ret, o_0_17, o_0_18, ob_4) → J (KxOf p l e { frames := 3, cells := 0, slots := 0, locals := 62 } s m [.ref h0, .int p1, .int p2].toArray below meth c D (gT cI cB cJ cS) [(h0, .inr (9, moF am known_h0 thrown_h0 wrong_h0 lastEnd_h0 at_h0 bad_h0 levels_h0 least_h0 found_h0)), ((am 5), .inr (8, [.ref a_all_m5, .int size_m5])), (a_all_m5, .inl (cI, n_a_all_m5, .inl b_a_all_m5)), ((am 20), .inr (8, [.ref a_all_m20, .int size_m20])), (a_all_m20, .inl (cI, n_a_all_m20, .inl b_a_all_m20))] (fun v w => v = some (.int ret) ∧ w = [(h0, .inr (9, moF am known_h0 thrown_h0 wrong_h0 lastEnd_h0 o_0_17 o_0_18 levels_h0 least_h0 found_h0)), ((am 5), .inr (8, [.ref a_all_m5, .int size_m5])), (a_all_m5, .inl (cI, n_a_all_m5, .inl b_a_all_m5)), ((am 20), .inr (8, [.ref a_all_m20, .int size_m20])), (a_all_m20, .inl (cI, n_a_all_m20, .inl ob_4))]) 0 0) prog_12_method_33_code 5 R_Mo 57 [(0, .ref h0), (1, .int p1), (2, .int p2)] [] [(h0, .inr (9, moF am known_h0 thrown_h0 wrong_h0 lastEnd_h0 at_h0 bad_h0 levels_h0 least_h0 found_h0)), ((am 5), .inr (8, [.ref a_all_m5, .int size_m5])), (a_all_m5, .inl (cI, n_a_all_m5, .inl b_a_all_m5)), ((am 20), .inr (8, [.ref a_all_m20, .int size_m20])), (a_all_m20, .inl (cI, n_a_all_m20, .inl b_a_all_m20))] 0 0 := by
  intro  h
  unfold F_Mo_inBracket_57 at h
  refine j_aload_n d_Mo_inBracket_57 rfl 0 rfl ?_
  replace h := bd_s h
  obtain ⟨r19, k21, h⟩ := h
  refine j_callV (n := 0) (As := []) (rest := []) (wr := [((am 20), .inr (8, [.ref a_all_m20, .int size_m20])), (a_all_m20, .inl (cI, n_a_all_m20, .inl b_a_all_m20))]) (c_Mo_isEmptyOpen l D cI cB cJ cS h0 am a_all_m5 known_h0 thrown_h0 wrong_h0 lastEnd_h0 at_h0 bad_h0 levels_h0 least_h0 found_h0 size_m5 n_a_all_m5 b_a_all_m5  r19 k21) k_Mo_316 (by decide) ⟨Nat.le_of_ble_eq_true rfl, Nat.le_of_ble_eq_true rfl⟩ rfl 0 rfl [0, 1, 2] [3, 4] rfl (by decide) rfl (by decide) (by decide) rfl rfl (Nat.le_of_ble_eq_true rfl) d_Mo_inBracket_58 ⟨Nat.le_of_ble_eq_true rfl, Nat.le_of_ble_eq_true rfl⟩ (fun v w hq => ?_)
  obtain ⟨rfl, z20, rfl⟩ := hq
  refine j_norm (pc' := 61) (st' := [.int r19]) (ws' := [((am 20), .inr (8, [.ref a_all_m20, .int size_m20])), (a_all_m20, .inl (cI, n_a_all_m20, .inl b_a_all_m20)), (h0, .inr (9, moF am known_h0 thrown_h0 wrong_h0 lastEnd_h0 at_h0 bad_h0 levels_h0 least_h0 found_h0)), ((am 5), .inr (8, [.ref a_all_m5, .int size_m5])), (a_all_m5, .inl (cI, n_a_all_m5, .inl b_a_all_m5))]) (cl' := 0) (sl' := 0) rfl rfl rfl rfl rfl rfl ?_
  refine j_if_eq (tgt := 71) d_Mo_inBracket_61 (by decide) (fun c22 => ?_) (fun c22 => ?_)
  · replace h := it_t c22 h
    refine j_aload_n d_Mo_inBracket_71 rfl 0 rfl ?_
    refine j_dup rfl d_Mo_inBracket_72 ?_
    refine j_get ig_Mo rfl 2 rfl 17 (by decide) rfl m_1130 rfl d_Mo_inBracket_73 ?_
    refine j_iconst (v := 1) d_Mo_inBracket_76 (by decide) ?_
    refine j_iadd d_Mo_inBracket_77 ?_
    refine j_put (ws' := [((am 20), .inr (8, [.ref a_all_m20, .int size_m20])), (a_all_m20, .inl (cI, n_a_all_m20, .inl b_a_all_m20)), (h0, .inr (9, moF am known_h0 thrown_h0 wrong_h0 lastEnd_h0 (at_h0 + 1) bad_h0 levels_h0 least_h0 found_h0)), ((am 5), .inr (8, [.ref a_all_m5, .int size_m5])), (a_all_m5, .inl (cI, n_a_all_m5, .inl b_a_all_m5))]) ig_Mo tk_Mo nm_Mo rfl 2 rfl 17 (by decide) rfl m_1130 rfl (tk_Mo 17 (by decide)) rfl rfl (Nat.le_of_ble_eq_true rfl) d_Mo_inBracket_78 rfl ?_
    refine j_iconst (v := 1) d_Mo_inBracket_81 (by decide) ?_
    replace h := Option.some.inj h
    replace h := Prod.mk.inj h
    obtain ⟨h9, h⟩ := h
    subst h9
    replace h := Prod.mk.inj h
    obtain ⟨h9, h⟩ := h
    subst h9
    replace h := Prod.mk.inj h
    obtain ⟨h9, h⟩ := h
    subst h9
    subst h
    exact j_iret (w := [(h0, .inr (9, moF am known_h0 thrown_h0 wrong_h0 lastEnd_h0 (at_h0 + 1) bad_h0 levels_h0 least_h0 found_h0)), ((am 5), .inr (8, [.ref a_all_m5, .int size_m5])), (a_all_m5, .inl (cI, n_a_all_m5, .inl b_a_all_m5)), ((am 20), .inr (8, [.ref a_all_m20, .int size_m20])), (a_all_m20, .inl (cI, n_a_all_m20, .inl b_a_all_m20))]) hr d_Mo_inBracket_82 [2, 3, 4, 0, 1] rfl (by decide) ⟨rfl, rfl⟩
  · replace h := it_f c22 h
    refine j_aload_n d_Mo_inBracket_64 rfl 0 rfl ?_
    refine j_callV (n := 0) (As := []) (rest := []) (wr := [((am 20), .inr (8, [.ref a_all_m20, .int size_m20])), (a_all_m20, .inl (cI, n_a_all_m20, .inl b_a_all_m20)), ((am 5), .inr (8, [.ref a_all_m5, .int size_m5])), (a_all_m5, .inl (cI, n_a_all_m5, .inl b_a_all_m5))]) (c_Mo_fail l D cI cB cJ cS h0 am known_h0 thrown_h0 wrong_h0 lastEnd_h0 at_h0 bad_h0 levels_h0 least_h0 found_h0  ) k_Mo_278 (by decide) ⟨Nat.le_of_ble_eq_true rfl, Nat.le_of_ble_eq_true rfl⟩ rfl 0 rfl [2] [0, 1, 3, 4] rfl (by decide) rfl (by decide) (by decide) rfl rfl (Nat.le_of_ble_eq_true rfl) d_Mo_inBracket_65 ⟨Nat.le_of_ble_eq_true rfl, Nat.le_of_ble_eq_true rfl⟩ (fun v w hq => ?_)
    obtain ⟨rfl, _, rfl⟩ := hq
    refine j_norm (pc' := 68) (st' := [.int 0]) (ws' := [((am 20), .inr (8, [.ref a_all_m20, .int size_m20])), (a_all_m20, .inl (cI, n_a_all_m20, .inl b_a_all_m20)), ((am 5), .inr (8, [.ref a_all_m5, .int size_m5])), (a_all_m5, .inl (cI, n_a_all_m5, .inl b_a_all_m5)), (h0, .inr (9, moF am known_h0 thrown_h0 wrong_h0 lastEnd_h0 at_h0 at_h0 levels_h0 least_h0 found_h0))]) (cl' := 0) (sl' := 0) rfl rfl rfl rfl rfl rfl ?_
    refine j_pop rfl d_Mo_inBracket_68 ?_
    refine j_iconst (v := (-1)) d_Mo_inBracket_69 (by decide) ?_
    replace h := Option.some.inj h
    replace h := Prod.mk.inj h
    obtain ⟨h9, h⟩ := h
    subst h9
    replace h := Prod.mk.inj h
    obtain ⟨h9, h⟩ := h
    subst h9
    replace h := Prod.mk.inj h
    obtain ⟨h9, h⟩ := h
    subst h9
    subst h
    exact j_iret (w := [(h0, .inr (9, moF am known_h0 thrown_h0 wrong_h0 lastEnd_h0 at_h0 at_h0 levels_h0 least_h0 found_h0)), ((am 5), .inr (8, [.ref a_all_m5, .int size_m5])), (a_all_m5, .inl (cI, n_a_all_m5, .inl b_a_all_m5)), ((am 20), .inr (8, [.ref a_all_m20, .int size_m20])), (a_all_m20, .inl (cI, n_a_all_m20, .inl b_a_all_m20))]) hr d_Mo_inBracket_70 [4, 2, 3, 0, 1] rfl (by decide) ⟨rfl, rfl⟩
set_option maxHeartbeats 4000000 in
set_option maxRecDepth 100000 in
theorem c_Mo_inBracket (l : Launch) (D : va_G) (cI cB cJ cS : ClassId) (h0 : Nat) (am : Nat → Nat) (a_all_m5 : Nat) (a_all_m20 : Nat) (p1 : Int32) (p2 : Int32) (known_h0 : Int32) (thrown_h0 : Int32) (wrong_h0 : Int32) (lastEnd_h0 : Int32) (at_h0 : Int32) (bad_h0 : Int32) (levels_h0 : Int32) (least_h0 : Int32) (found_h0 : Int32) (size_m5 : Int32) (n_a_all_m5 : Nat) (b_a_all_m5 : Nat → Int32) (size_m20 : Int32) (n_a_all_m20 : Nat) (b_a_all_m20 : Nat → Int32) (ret : Int32) (o_0_17 : Int32) (o_0_18 : Int32) (ob_4 : Nat → Int32) (h : F_Mo_inBracket p1 p2 known_h0 thrown_h0 wrong_h0 lastEnd_h0 at_h0 bad_h0 levels_h0 least_h0 found_h0 size_m5 n_a_all_m5 b_a_all_m5 size_m20 n_a_all_m20 b_a_all_m20 = some (ret, o_0_17, o_0_18, ob_4)) : Ct l D (gT cI cB cJ cS) y_Mo_inBracket prog_12_method_33_code 5 (Option.some Jvm.ClassFile.FieldType.int) 3 62 0 0 [.ref h0, .int p1, .int p2] [(h0, .inr (9, moF am known_h0 thrown_h0 wrong_h0 lastEnd_h0 at_h0 bad_h0 levels_h0 least_h0 found_h0)), ((am 5), .inr (8, [.ref a_all_m5, .int size_m5])), (a_all_m5, .inl (cI, n_a_all_m5, .inl b_a_all_m5)), ((am 20), .inr (8, [.ref a_all_m20, .int size_m20])), (a_all_m20, .inl (cI, n_a_all_m20, .inl b_a_all_m20))] (fun v w => v = some (.int ret) ∧ w = [(h0, .inr (9, moF am known_h0 thrown_h0 wrong_h0 lastEnd_h0 o_0_17 o_0_18 levels_h0 least_h0 found_h0)), ((am 5), .inr (8, [.ref a_all_m5, .int size_m5])), (a_all_m5, .inl (cI, n_a_all_m5, .inl b_a_all_m5)), ((am 20), .inr (8, [.ref a_all_m20, .int size_m20])), (a_all_m20, .inl (cI, n_a_all_m20, .inl ob_4))]) := by
  refine Ct.mk (by decide) (Nat.le_of_ble_eq_true rfl) ?_
  intro p e s m below meth c hr hnm
  refine j_norm (pc' := 0) (lv' := [(0, .ref h0), (1, .int p1), (2, .int p2)]) (st' := []) (ws' := [(h0, .inr (9, moF am known_h0 thrown_h0 wrong_h0 lastEnd_h0 at_h0 bad_h0 levels_h0 least_h0 found_h0)), ((am 5), .inr (8, [.ref a_all_m5, .int size_m5])), (a_all_m5, .inl (cI, n_a_all_m5, .inl b_a_all_m5)), ((am 20), .inr (8, [.ref a_all_m20, .int size_m20])), (a_all_m20, .inl (cI, n_a_all_m20, .inl b_a_all_m20))]) (cl' := 0) (sl' := 0) rfl rfl rfl rfl rfl rfl ?_
  unfold F_Mo_inBracket at h
  refine j_iload_n d_Mo_inBracket_0 rfl 1 rfl ?_
  refine j_bipush (v := 50) d_Mo_inBracket_1 (by decide) ?_
  refine j_icmp_ne (tgt := 21) d_Mo_inBracket_3 (by decide) (fun c24 => ?_) (fun c24 => ?_)
  · replace h := it_f c24 h
    refine j_iload_n d_Mo_inBracket_21 rfl 1 rfl ?_
    refine j_bipush (v := 52) d_Mo_inBracket_22 (by decide) ?_
    refine j_icmp_ne (tgt := 83) d_Mo_inBracket_24 (by decide) (fun c25 => ?_) (fun c25 => ?_)
    · replace h := it_f c25 h
      refine j_iload_n d_Mo_inBracket_83 rfl 2 rfl ?_
      refine j_bipush (v := 51) d_Mo_inBracket_84 (by decide) ?_
      refine j_icmp_ne (tgt := 101) d_Mo_inBracket_86 (by decide) (fun c26 => ?_) (fun c26 => ?_)
      · replace h := it_f c26 h
        refine j_aload_n d_Mo_inBracket_101 rfl 0 rfl ?_
        replace h := bd_s h
        obtain ⟨r27, k29, h⟩ := h
        refine j_callV (n := 0) (As := []) (rest := []) (wr := [((am 20), .inr (8, [.ref a_all_m20, .int size_m20])), (a_all_m20, .inl (cI, n_a_all_m20, .inl b_a_all_m20))]) (c_Mo_isColonBefore l D cI cB cJ cS h0 am a_all_m5 known_h0 thrown_h0 wrong_h0 lastEnd_h0 at_h0 bad_h0 levels_h0 least_h0 found_h0 size_m5 n_a_all_m5 b_a_all_m5  r27 k29) k_Mo_310 (by decide) ⟨Nat.le_of_ble_eq_true rfl, Nat.le_of_ble_eq_true rfl⟩ rfl 0 rfl [0, 1, 2] [3, 4] rfl (by decide) rfl (by decide) (by decide) rfl rfl (Nat.le_of_ble_eq_true rfl) d_Mo_inBracket_102 ⟨Nat.le_of_ble_eq_true rfl, Nat.le_of_ble_eq_true rfl⟩ (fun v w hq => ?_)
        obtain ⟨rfl, z28, rfl⟩ := hq
        refine j_norm (pc' := 105) (st' := [.int r27]) (ws' := [((am 20), .inr (8, [.ref a_all_m20, .int size_m20])), (a_all_m20, .inl (cI, n_a_all_m20, .inl b_a_all_m20)), (h0, .inr (9, moF am known_h0 thrown_h0 wrong_h0 lastEnd_h0 at_h0 bad_h0 levels_h0 least_h0 found_h0)), ((am 5), .inr (8, [.ref a_all_m5, .int size_m5])), (a_all_m5, .inl (cI, n_a_all_m5, .inl b_a_all_m5))]) (cl' := 0) (sl' := 0) rfl rfl rfl rfl rfl rfl ?_
        refine j_if_eq (tgt := 116) d_Mo_inBracket_105 (by decide) (fun c30 => ?_) (fun c30 => ?_)
        · replace h := it_t c30 h
          refine j_aload_n d_Mo_inBracket_116 rfl 0 rfl ?_
          refine j_iconst (v := 1) d_Mo_inBracket_117 (by decide) ?_
          replace h := bd_s h
          obtain ⟨_, k31, h⟩ := h
          refine j_callV (n := 1) (As := [.int 1]) (rest := []) (wr := [((am 5), .inr (8, [.ref a_all_m5, .int size_m5])), (a_all_m5, .inl (cI, n_a_all_m5, .inl b_a_all_m5))]) (c_Mo_top l D cI cB cJ cS h0 am a_all_m20 1 known_h0 thrown_h0 wrong_h0 lastEnd_h0 at_h0 bad_h0 levels_h0 least_h0 found_h0 size_m20 n_a_all_m20 b_a_all_m20  k31) k_Mo_319 (by decide) ⟨Nat.le_of_ble_eq_true rfl, Nat.le_of_ble_eq_true rfl⟩ rfl 0 rfl [2, 0, 1] [3, 4] rfl (by decide) rfl (by decide) (by decide) rfl rfl (Nat.le_of_ble_eq_true rfl) d_Mo_inBracket_118 ⟨Nat.le_of_ble_eq_true rfl, Nat.le_of_ble_eq_true rfl⟩ (fun v w hq => ?_)
          obtain ⟨rfl, rfl⟩ := hq
          refine j_norm (pc' := 121) (st' := [.int (b_a_all_m20 (Int32.toNatClampNeg ((size_m20 - 5) + 1)))]) (ws' := [((am 5), .inr (8, [.ref a_all_m5, .int size_m5])), (a_all_m5, .inl (cI, n_a_all_m5, .inl b_a_all_m5)), (h0, .inr (9, moF am known_h0 thrown_h0 wrong_h0 lastEnd_h0 at_h0 bad_h0 levels_h0 least_h0 found_h0)), ((am 20), .inr (8, [.ref a_all_m20, .int size_m20])), (a_all_m20, .inl (cI, n_a_all_m20, .inl b_a_all_m20))]) (cl' := 0) (sl' := 0) rfl rfl rfl rfl rfl rfl ?_
          refine j_iconst (v := 1) d_Mo_inBracket_121 (by decide) ?_
          refine j_iadd d_Mo_inBracket_122 ?_
          refine j_sub (w := [((am 5), .inr (8, [.ref a_all_m5, .int size_m5])), (a_all_m5, .inl (cI, n_a_all_m5, .inl b_a_all_m5)), (h0, .inr (9, moF am known_h0 thrown_h0 wrong_h0 lastEnd_h0 at_h0 bad_h0 levels_h0 least_h0 found_h0)), ((am 20), .inr (8, [.ref a_all_m20, .int size_m20])), (a_all_m20, .inl (cI, n_a_all_m20, .inl b_a_all_m20))]) (lv' := [(0, .ref h0), (1, .int p1), (2, .int p2)]) [0, 1, 2, 3, 4] rfl (by decide) [0, 1, 2] rfl ?_
          exact L_Mo_inBracket_123 l D cI cB cJ cS h0 am a_all_m5 a_all_m20 p1 p2 known_h0 thrown_h0 wrong_h0 lastEnd_h0 at_h0 bad_h0 levels_h0 least_h0 found_h0 size_m5 n_a_all_m5 b_a_all_m5 size_m20 n_a_all_m20 b_a_all_m20 ret o_0_17 o_0_18 ob_4 p e s m below meth c hr hnm ((b_a_all_m20 (Int32.toNatClampNeg ((size_m20 - 5) + 1))) + 1) h
        · replace h := it_f c30 h
          refine j_aload_n d_Mo_inBracket_108 rfl 0 rfl ?_
          refine j_iconst (v := 1) d_Mo_inBracket_109 (by decide) ?_
          replace h := bd_s h
          obtain ⟨_, k32, h⟩ := h
          refine j_callV (n := 1) (As := [.int 1]) (rest := []) (wr := [((am 5), .inr (8, [.ref a_all_m5, .int size_m5])), (a_all_m5, .inl (cI, n_a_all_m5, .inl b_a_all_m5))]) (c_Mo_top l D cI cB cJ cS h0 am a_all_m20 1 known_h0 thrown_h0 wrong_h0 lastEnd_h0 at_h0 bad_h0 levels_h0 least_h0 found_h0 size_m20 n_a_all_m20 b_a_all_m20  k32) k_Mo_319 (by decide) ⟨Nat.le_of_ble_eq_true rfl, Nat.le_of_ble_eq_true rfl⟩ rfl 0 rfl [2, 0, 1] [3, 4] rfl (by decide) rfl (by decide) (by decide) rfl rfl (Nat.le_of_ble_eq_true rfl) d_Mo_inBracket_110 ⟨Nat.le_of_ble_eq_true rfl, Nat.le_of_ble_eq_true rfl⟩ (fun v w hq => ?_)
          obtain ⟨rfl, rfl⟩ := hq
          refine j_norm (pc' := 113) (st' := [.int (b_a_all_m20 (Int32.toNatClampNeg ((size_m20 - 5) + 1)))]) (ws' := [((am 5), .inr (8, [.ref a_all_m5, .int size_m5])), (a_all_m5, .inl (cI, n_a_all_m5, .inl b_a_all_m5)), (h0, .inr (9, moF am known_h0 thrown_h0 wrong_h0 lastEnd_h0 at_h0 bad_h0 levels_h0 least_h0 found_h0)), ((am 20), .inr (8, [.ref a_all_m20, .int size_m20])), (a_all_m20, .inl (cI, n_a_all_m20, .inl b_a_all_m20))]) (cl' := 0) (sl' := 0) rfl rfl rfl rfl rfl rfl ?_
          refine j_goto (tgt := 123) d_Mo_inBracket_113 (by decide) ?_
          refine j_sub (w := [((am 5), .inr (8, [.ref a_all_m5, .int size_m5])), (a_all_m5, .inl (cI, n_a_all_m5, .inl b_a_all_m5)), (h0, .inr (9, moF am known_h0 thrown_h0 wrong_h0 lastEnd_h0 at_h0 bad_h0 levels_h0 least_h0 found_h0)), ((am 20), .inr (8, [.ref a_all_m20, .int size_m20])), (a_all_m20, .inl (cI, n_a_all_m20, .inl b_a_all_m20))]) (lv' := [(0, .ref h0), (1, .int p1), (2, .int p2)]) [0, 1, 2, 3, 4] rfl (by decide) [0, 1, 2] rfl ?_
          exact L_Mo_inBracket_123 l D cI cB cJ cS h0 am a_all_m5 a_all_m20 p1 p2 known_h0 thrown_h0 wrong_h0 lastEnd_h0 at_h0 bad_h0 levels_h0 least_h0 found_h0 size_m5 n_a_all_m5 b_a_all_m5 size_m20 n_a_all_m20 b_a_all_m20 ret o_0_17 o_0_18 ob_4 p e s m below meth c hr hnm (b_a_all_m20 (Int32.toNatClampNeg ((size_m20 - 5) + 1))) h
      · replace h := it_t c26 h
        refine j_aload_n d_Mo_inBracket_89 rfl 0 rfl ?_
        refine j_dup rfl d_Mo_inBracket_90 ?_
        refine j_get ig_Mo rfl 0 rfl 17 (by decide) rfl m_1130 rfl d_Mo_inBracket_91 ?_
        refine j_iconst (v := 1) d_Mo_inBracket_94 (by decide) ?_
        refine j_iadd d_Mo_inBracket_95 ?_
        refine j_put (ws' := [(h0, .inr (9, moF am known_h0 thrown_h0 wrong_h0 lastEnd_h0 (at_h0 + 1) bad_h0 levels_h0 least_h0 found_h0)), ((am 5), .inr (8, [.ref a_all_m5, .int size_m5])), (a_all_m5, .inl (cI, n_a_all_m5, .inl b_a_all_m5)), ((am 20), .inr (8, [.ref a_all_m20, .int size_m20])), (a_all_m20, .inl (cI, n_a_all_m20, .inl b_a_all_m20))]) ig_Mo tk_Mo nm_Mo rfl 0 rfl 17 (by decide) rfl m_1130 rfl (tk_Mo 17 (by decide)) rfl rfl (Nat.le_of_ble_eq_true rfl) d_Mo_inBracket_96 rfl ?_
        refine j_iconst (v := 0) d_Mo_inBracket_99 (by decide) ?_
        replace h := Option.some.inj h
        replace h := Prod.mk.inj h
        obtain ⟨h9, h⟩ := h
        subst h9
        replace h := Prod.mk.inj h
        obtain ⟨h9, h⟩ := h
        subst h9
        replace h := Prod.mk.inj h
        obtain ⟨h9, h⟩ := h
        subst h9
        subst h
        exact j_iret (w := [(h0, .inr (9, moF am known_h0 thrown_h0 wrong_h0 lastEnd_h0 (at_h0 + 1) bad_h0 levels_h0 least_h0 found_h0)), ((am 5), .inr (8, [.ref a_all_m5, .int size_m5])), (a_all_m5, .inl (cI, n_a_all_m5, .inl b_a_all_m5)), ((am 20), .inr (8, [.ref a_all_m20, .int size_m20])), (a_all_m20, .inl (cI, n_a_all_m20, .inl b_a_all_m20))]) hr d_Mo_inBracket_100 [0, 1, 2, 3, 4] rfl (by decide) ⟨rfl, rfl⟩
    · replace h := it_t c25 h
      refine j_iload_n d_Mo_inBracket_27 rfl 2 rfl ?_
      refine j_bipush (v := 53) d_Mo_inBracket_28 (by decide) ?_
      refine j_icmp_ne (tgt := 45) d_Mo_inBracket_30 (by decide) (fun c33 => ?_) (fun c33 => ?_)
      · replace h := it_f c33 h
        refine j_iload_n d_Mo_inBracket_45 rfl 2 rfl ?_
        refine j_bipush (v := 54) d_Mo_inBracket_46 (by decide) ?_
        refine j_icmp_eq (tgt := 57) d_Mo_inBracket_48 (by decide) (fun c34 => ?_) (fun c34 => ?_)
        · replace h := it_t c34 h
          refine j_sub (w := [(h0, .inr (9, moF am known_h0 thrown_h0 wrong_h0 lastEnd_h0 at_h0 bad_h0 levels_h0 least_h0 found_h0)), ((am 5), .inr (8, [.ref a_all_m5, .int size_m5])), (a_all_m5, .inl (cI, n_a_all_m5, .inl b_a_all_m5)), ((am 20), .inr (8, [.ref a_all_m20, .int size_m20])), (a_all_m20, .inl (cI, n_a_all_m20, .inl b_a_all_m20))]) (lv' := [(0, .ref h0), (1, .int p1), (2, .int p2)]) [0, 1, 2, 3, 4] rfl (by decide) [0, 1, 2] rfl ?_
          exact L_Mo_inBracket_57 l D cI cB cJ cS h0 am a_all_m5 a_all_m20 p1 p2 known_h0 thrown_h0 wrong_h0 lastEnd_h0 at_h0 bad_h0 levels_h0 least_h0 found_h0 size_m5 n_a_all_m5 b_a_all_m5 size_m20 n_a_all_m20 b_a_all_m20 ret o_0_17 o_0_18 ob_4 p e s m below meth c hr hnm  h
        · replace h := it_f c34 h
          refine j_iload_n d_Mo_inBracket_51 rfl 2 rfl ?_
          refine j_bipush (v := 55) d_Mo_inBracket_52 (by decide) ?_
          refine j_icmp_ne (tgt := 64) d_Mo_inBracket_54 (by decide) (fun c35 => ?_) (fun c35 => ?_)
          · replace h := it_f c35 h
            refine j_aload_n d_Mo_inBracket_64 rfl 0 rfl ?_
            refine j_callV (n := 0) (As := []) (rest := []) (wr := [((am 5), .inr (8, [.ref a_all_m5, .int size_m5])), (a_all_m5, .inl (cI, n_a_all_m5, .inl b_a_all_m5)), ((am 20), .inr (8, [.ref a_all_m20, .int size_m20])), (a_all_m20, .inl (cI, n_a_all_m20, .inl b_a_all_m20))]) (c_Mo_fail l D cI cB cJ cS h0 am known_h0 thrown_h0 wrong_h0 lastEnd_h0 at_h0 bad_h0 levels_h0 least_h0 found_h0  ) k_Mo_278 (by decide) ⟨Nat.le_of_ble_eq_true rfl, Nat.le_of_ble_eq_true rfl⟩ rfl 0 rfl [0] [1, 2, 3, 4] rfl (by decide) rfl (by decide) (by decide) rfl rfl (Nat.le_of_ble_eq_true rfl) d_Mo_inBracket_65 ⟨Nat.le_of_ble_eq_true rfl, Nat.le_of_ble_eq_true rfl⟩ (fun v w hq => ?_)
            obtain ⟨rfl, _, rfl⟩ := hq
            refine j_norm (pc' := 68) (st' := [.int 0]) (ws' := [((am 5), .inr (8, [.ref a_all_m5, .int size_m5])), (a_all_m5, .inl (cI, n_a_all_m5, .inl b_a_all_m5)), ((am 20), .inr (8, [.ref a_all_m20, .int size_m20])), (a_all_m20, .inl (cI, n_a_all_m20, .inl b_a_all_m20)), (h0, .inr (9, moF am known_h0 thrown_h0 wrong_h0 lastEnd_h0 at_h0 at_h0 levels_h0 least_h0 found_h0))]) (cl' := 0) (sl' := 0) rfl rfl rfl rfl rfl rfl ?_
            refine j_pop rfl d_Mo_inBracket_68 ?_
            refine j_iconst (v := (-1)) d_Mo_inBracket_69 (by decide) ?_
            replace h := Option.some.inj h
            replace h := Prod.mk.inj h
            obtain ⟨h9, h⟩ := h
            subst h9
            replace h := Prod.mk.inj h
            obtain ⟨h9, h⟩ := h
            subst h9
            replace h := Prod.mk.inj h
            obtain ⟨h9, h⟩ := h
            subst h9
            subst h
            exact j_iret (w := [(h0, .inr (9, moF am known_h0 thrown_h0 wrong_h0 lastEnd_h0 at_h0 at_h0 levels_h0 least_h0 found_h0)), ((am 5), .inr (8, [.ref a_all_m5, .int size_m5])), (a_all_m5, .inl (cI, n_a_all_m5, .inl b_a_all_m5)), ((am 20), .inr (8, [.ref a_all_m20, .int size_m20])), (a_all_m20, .inl (cI, n_a_all_m20, .inl b_a_all_m20))]) hr d_Mo_inBracket_70 [4, 0, 1, 2, 3] rfl (by decide) ⟨rfl, rfl⟩
          · replace h := it_t c35 h
            refine j_sub (w := [(h0, .inr (9, moF am known_h0 thrown_h0 wrong_h0 lastEnd_h0 at_h0 bad_h0 levels_h0 least_h0 found_h0)), ((am 5), .inr (8, [.ref a_all_m5, .int size_m5])), (a_all_m5, .inl (cI, n_a_all_m5, .inl b_a_all_m5)), ((am 20), .inr (8, [.ref a_all_m20, .int size_m20])), (a_all_m20, .inl (cI, n_a_all_m20, .inl b_a_all_m20))]) (lv' := [(0, .ref h0), (1, .int p1), (2, .int p2)]) [0, 1, 2, 3, 4] rfl (by decide) [0, 1, 2] rfl ?_
            exact L_Mo_inBracket_57 l D cI cB cJ cS h0 am a_all_m5 a_all_m20 p1 p2 known_h0 thrown_h0 wrong_h0 lastEnd_h0 at_h0 bad_h0 levels_h0 least_h0 found_h0 size_m5 n_a_all_m5 b_a_all_m5 size_m20 n_a_all_m20 b_a_all_m20 ret o_0_17 o_0_18 ob_4 p e s m below meth c hr hnm  h
      · replace h := it_t c33 h
        refine j_aload_n d_Mo_inBracket_33 rfl 0 rfl ?_
        refine j_dup rfl d_Mo_inBracket_34 ?_
        refine j_get ig_Mo rfl 0 rfl 17 (by decide) rfl m_1130 rfl d_Mo_inBracket_35 ?_
        refine j_iconst (v := 1) d_Mo_inBracket_38 (by decide) ?_
        refine j_iadd d_Mo_inBracket_39 ?_
        refine j_put (ws' := [(h0, .inr (9, moF am known_h0 thrown_h0 wrong_h0 lastEnd_h0 (at_h0 + 1) bad_h0 levels_h0 least_h0 found_h0)), ((am 5), .inr (8, [.ref a_all_m5, .int size_m5])), (a_all_m5, .inl (cI, n_a_all_m5, .inl b_a_all_m5)), ((am 20), .inr (8, [.ref a_all_m20, .int size_m20])), (a_all_m20, .inl (cI, n_a_all_m20, .inl b_a_all_m20))]) ig_Mo tk_Mo nm_Mo rfl 0 rfl 17 (by decide) rfl m_1130 rfl (tk_Mo 17 (by decide)) rfl rfl (Nat.le_of_ble_eq_true rfl) d_Mo_inBracket_40 rfl ?_
        refine j_iconst (v := 0) d_Mo_inBracket_43 (by decide) ?_
        replace h := Option.some.inj h
        replace h := Prod.mk.inj h
        obtain ⟨h9, h⟩ := h
        subst h9
        replace h := Prod.mk.inj h
        obtain ⟨h9, h⟩ := h
        subst h9
        replace h := Prod.mk.inj h
        obtain ⟨h9, h⟩ := h
        subst h9
        subst h
        exact j_iret (w := [(h0, .inr (9, moF am known_h0 thrown_h0 wrong_h0 lastEnd_h0 (at_h0 + 1) bad_h0 levels_h0 least_h0 found_h0)), ((am 5), .inr (8, [.ref a_all_m5, .int size_m5])), (a_all_m5, .inl (cI, n_a_all_m5, .inl b_a_all_m5)), ((am 20), .inr (8, [.ref a_all_m20, .int size_m20])), (a_all_m20, .inl (cI, n_a_all_m20, .inl b_a_all_m20))]) hr d_Mo_inBracket_44 [0, 1, 2, 3, 4] rfl (by decide) ⟨rfl, rfl⟩
  · replace h := it_t c24 h
    refine j_aload_n d_Mo_inBracket_6 rfl 0 rfl ?_
    refine j_bipush (v := 51) d_Mo_inBracket_7 (by decide) ?_
    replace h := bd_s h
    obtain ⟨⟨r37, r38, r39⟩, k41, h⟩ := h
    refine j_callV (n := 1) (As := [.int 51]) (rest := []) (wr := [((am 20), .inr (8, [.ref a_all_m20, .int size_m20])), (a_all_m20, .inl (cI, n_a_all_m20, .inl b_a_all_m20))]) (c_Mo_take l D cI cB cJ cS h0 am a_all_m5 51 known_h0 thrown_h0 wrong_h0 lastEnd_h0 at_h0 bad_h0 levels_h0 least_h0 found_h0 size_m5 n_a_all_m5 b_a_all_m5  r37 r38 r39 k41) k_Mo_285 (by decide) ⟨Nat.le_of_ble_eq_true rfl, Nat.le_of_ble_eq_true rfl⟩ rfl 0 rfl [0, 1, 2] [3, 4] rfl (by decide) rfl (by decide) (by decide) rfl rfl (Nat.le_of_ble_eq_true rfl) d_Mo_inBracket_9 ⟨Nat.le_of_ble_eq_true rfl, Nat.le_of_ble_eq_true rfl⟩ (fun v w hq => ?_)
    obtain ⟨rfl, z40, rfl⟩ := hq
    refine j_norm (pc' := 12) (st' := [.int r37]) (ws' := [((am 20), .inr (8, [.ref a_all_m20, .int size_m20])), (a_all_m20, .inl (cI, n_a_all_m20, .inl b_a_all_m20)), (h0, .inr (9, moF am known_h0 thrown_h0 wrong_h0 lastEnd_h0 r38 r39 levels_h0 least_h0 found_h0)), ((am 5), .inr (8, [.ref a_all_m5, .int size_m5])), (a_all_m5, .inl (cI, n_a_all_m5, .inl b_a_all_m5))]) (cl' := 0) (sl' := 0) rfl rfl rfl rfl rfl rfl ?_
    refine j_if_eq (tgt := 19) d_Mo_inBracket_12 (by decide) (fun c42 => ?_) (fun c42 => ?_)
    · replace h := it_t c42 h
      refine j_iconst (v := (-1)) d_Mo_inBracket_19 (by decide) ?_
      replace h := Option.some.inj h
      replace h := Prod.mk.inj h
      obtain ⟨h9, h⟩ := h
      subst h9
      replace h := Prod.mk.inj h
      obtain ⟨h9, h⟩ := h
      subst h9
      replace h := Prod.mk.inj h
      obtain ⟨h9, h⟩ := h
      subst h9
      subst h
      exact j_iret (w := [(h0, .inr (9, moF am known_h0 thrown_h0 wrong_h0 lastEnd_h0 r38 r39 levels_h0 least_h0 found_h0)), ((am 5), .inr (8, [.ref a_all_m5, .int size_m5])), (a_all_m5, .inl (cI, n_a_all_m5, .inl b_a_all_m5)), ((am 20), .inr (8, [.ref a_all_m20, .int size_m20])), (a_all_m20, .inl (cI, n_a_all_m20, .inl b_a_all_m20))]) hr d_Mo_inBracket_20 [2, 3, 4, 0, 1] rfl (by decide) ⟨rfl, rfl⟩
    · replace h := it_f c42 h
      refine j_iconst (v := 0) d_Mo_inBracket_15 (by decide) ?_
      refine j_goto (tgt := 20) d_Mo_inBracket_16 (by decide) ?_
      replace h := Option.some.inj h
      replace h := Prod.mk.inj h
      obtain ⟨h9, h⟩ := h
      subst h9
      replace h := Prod.mk.inj h
      obtain ⟨h9, h⟩ := h
      subst h9
      replace h := Prod.mk.inj h
      obtain ⟨h9, h⟩ := h
      subst h9
      subst h
      exact j_iret (w := [(h0, .inr (9, moF am known_h0 thrown_h0 wrong_h0 lastEnd_h0 r38 r39 levels_h0 least_h0 found_h0)), ((am 5), .inr (8, [.ref a_all_m5, .int size_m5])), (a_all_m5, .inl (cI, n_a_all_m5, .inl b_a_all_m5)), ((am 20), .inr (8, [.ref a_all_m20, .int size_m20])), (a_all_m20, .inl (cI, n_a_all_m20, .inl b_a_all_m20))]) hr d_Mo_inBracket_20 [2, 3, 4, 0, 1] rfl (by decide) ⟨rfl, rfl⟩
def F_Mo_isTarget_131 (b_a_all_m5 : Nat → Int32) (v5_70 : Int32) (v3_70 : Int32) (K_70 : Int32 → Int32 → Int32 → Option (Int32)) (t0_131 : Int32) : Option (Int32) :=
    if (b_a_all_m5 (Int32.toNatClampNeg v5_70)) = 54 then (if t0_131 = 1 then (K_70 (v5_70 + 1) t0_131 (v3_70 + 1))
      else (K_70 (v5_70 + 1) t0_131 v3_70))
    else (K_70 (v5_70 + 1) t0_131 v3_70)
def F_Mo_isTarget_70 (p2 : Int32) (size_m5 : Int32) (n_a_all_m5 : Nat) (b_a_all_m5 : Nat → Int32) : Nat → Int32 → Int32 → Int32 → Option (Int32)
  | 0, _, _, _ => none
  | k_70 + 1, v5_70, v4_70, v3_70 =>
    if p2 ≤ v5_70 then (if 2 ≤ v3_70 then (some 0)
      else (some 1))
    else (Option.bind (F_Nm_at v5_70 size_m5 n_a_all_m5 b_a_all_m5) fun _ =>
      if (b_a_all_m5 (Int32.toNatClampNeg v5_70)) = 50 then (F_Mo_isTarget_131 b_a_all_m5 v5_70 v3_70 (F_Mo_isTarget_70 p2 size_m5 n_a_all_m5 b_a_all_m5  k_70)  (v4_70 + 1))
      else if (b_a_all_m5 (Int32.toNatClampNeg v5_70)) = 52 then (F_Mo_isTarget_131 b_a_all_m5 v5_70 v3_70 (F_Mo_isTarget_70 p2 size_m5 n_a_all_m5 b_a_all_m5  k_70)  (v4_70 + 1))
      else if (b_a_all_m5 (Int32.toNatClampNeg v5_70)) = 51 then (F_Mo_isTarget_131 b_a_all_m5 v5_70 v3_70 (F_Mo_isTarget_70 p2 size_m5 n_a_all_m5 b_a_all_m5  k_70)  (v4_70 - 1))
      else if (b_a_all_m5 (Int32.toNatClampNeg v5_70)) = 53 then (F_Mo_isTarget_131 b_a_all_m5 v5_70 v3_70 (F_Mo_isTarget_70 p2 size_m5 n_a_all_m5 b_a_all_m5  k_70)  (v4_70 - 1))
      else (F_Mo_isTarget_131 b_a_all_m5 v5_70 v3_70 (F_Mo_isTarget_70 p2 size_m5 n_a_all_m5 b_a_all_m5  k_70)  v4_70))
def F_Mo_isTarget (p1 : Int32) (p2 : Int32) (known_h0 : Int32) (thrown_h0 : Int32) (wrong_h0 : Int32) (lastEnd_h0 : Int32) (at_h0 : Int32) (bad_h0 : Int32) (levels_h0 : Int32) (least_h0 : Int32) (found_h0 : Int32) (size_m5 : Int32) (n_a_all_m5 : Nat) (b_a_all_m5 : Nat → Int32) : Option (Int32) :=
  Option.bind (F_Nm_at p1 size_m5 n_a_all_m5 b_a_all_m5) fun _ =>
  if (b_a_all_m5 (Int32.toNatClampNeg p1)) = 2 then (if p2 = (p1 + 1) then (some 1)
    else (Option.bind (F_Nm_at (p1 + 1) size_m5 n_a_all_m5 b_a_all_m5) fun _ =>
      if (b_a_all_m5 (Int32.toNatClampNeg (p1 + 1))) = 50 then (Option.bind (F_Mo_closing (p1 + 1) known_h0 thrown_h0 wrong_h0 lastEnd_h0 at_h0 bad_h0 levels_h0 least_h0 found_h0 size_m5 n_a_all_m5 b_a_all_m5) fun r15 =>
        if r15 = (p2 - 1) then (if p2 = (p1 + 3) then (some 0)
          else (F_Mo_isTarget_70 p2 size_m5 n_a_all_m5 b_a_all_m5  FU (p1 + 1) 0 0))
        else (some 0))
      else (some 0)))
  else (some 0)
theorem d_Mo_isTarget_0 : decode prog_12_method_45_code 0 = .ok (.aload_n 0, 1) := by decide +kernel
theorem d_Mo_isTarget_1 : decode prog_12_method_45_code 1 = .ok (.getfield 114, 3) := by decide +kernel
theorem d_Mo_isTarget_4 : decode prog_12_method_45_code 4 = .ok (.iload_n 1, 1) := by decide +kernel
theorem d_Mo_isTarget_5 : decode prog_12_method_45_code 5 = .ok (.invokevirtual 214, 3) := by decide +kernel
theorem d_Mo_isTarget_8 : decode prog_12_method_45_code 8 = .ok (.iconst 2, 1) := by decide +kernel
theorem d_Mo_isTarget_9 : decode prog_12_method_45_code 9 = .ok (.if_icmp .eq 5, 3) := by decide +kernel
theorem d_Mo_isTarget_12 : decode prog_12_method_45_code 12 = .ok (.iconst 0, 1) := by decide +kernel
theorem d_Mo_isTarget_13 : decode prog_12_method_45_code 13 = .ok (.ireturn, 1) := by decide +kernel
theorem d_Mo_isTarget_14 : decode prog_12_method_45_code 14 = .ok (.iload_n 2, 1) := by decide +kernel
theorem d_Mo_isTarget_15 : decode prog_12_method_45_code 15 = .ok (.iload_n 1, 1) := by decide +kernel
theorem d_Mo_isTarget_16 : decode prog_12_method_45_code 16 = .ok (.iconst 1, 1) := by decide +kernel
theorem d_Mo_isTarget_17 : decode prog_12_method_45_code 17 = .ok (.iadd, 1) := by decide +kernel
theorem d_Mo_isTarget_18 : decode prog_12_method_45_code 18 = .ok (.if_icmp .ne 5, 3) := by decide +kernel
theorem d_Mo_isTarget_21 : decode prog_12_method_45_code 21 = .ok (.iconst 1, 1) := by decide +kernel
theorem d_Mo_isTarget_22 : decode prog_12_method_45_code 22 = .ok (.ireturn, 1) := by decide +kernel
theorem d_Mo_isTarget_23 : decode prog_12_method_45_code 23 = .ok (.aload_n 0, 1) := by decide +kernel
theorem d_Mo_isTarget_24 : decode prog_12_method_45_code 24 = .ok (.getfield 114, 3) := by decide +kernel
theorem d_Mo_isTarget_27 : decode prog_12_method_45_code 27 = .ok (.iload_n 1, 1) := by decide +kernel
theorem d_Mo_isTarget_28 : decode prog_12_method_45_code 28 = .ok (.iconst 1, 1) := by decide +kernel
theorem d_Mo_isTarget_29 : decode prog_12_method_45_code 29 = .ok (.iadd, 1) := by decide +kernel
theorem d_Mo_isTarget_30 : decode prog_12_method_45_code 30 = .ok (.invokevirtual 214, 3) := by decide +kernel
theorem d_Mo_isTarget_33 : decode prog_12_method_45_code 33 = .ok (.bipush 50, 2) := by decide +kernel
theorem d_Mo_isTarget_35 : decode prog_12_method_45_code 35 = .ok (.if_icmp .ne 23, 3) := by decide +kernel
theorem d_Mo_isTarget_38 : decode prog_12_method_45_code 38 = .ok (.aload_n 0, 1) := by decide +kernel
theorem d_Mo_isTarget_39 : decode prog_12_method_45_code 39 = .ok (.iload_n 1, 1) := by decide +kernel
theorem d_Mo_isTarget_40 : decode prog_12_method_45_code 40 = .ok (.iconst 1, 1) := by decide +kernel
theorem d_Mo_isTarget_41 : decode prog_12_method_45_code 41 = .ok (.iadd, 1) := by decide +kernel
theorem d_Mo_isTarget_42 : decode prog_12_method_45_code 42 = .ok (.invokevirtual 350, 3) := by decide +kernel
theorem d_Mo_isTarget_45 : decode prog_12_method_45_code 45 = .ok (.iload_n 2, 1) := by decide +kernel
theorem d_Mo_isTarget_46 : decode prog_12_method_45_code 46 = .ok (.iconst 1, 1) := by decide +kernel
theorem d_Mo_isTarget_47 : decode prog_12_method_45_code 47 = .ok (.isub, 1) := by decide +kernel
theorem d_Mo_isTarget_48 : decode prog_12_method_45_code 48 = .ok (.if_icmp .ne 10, 3) := by decide +kernel
theorem d_Mo_isTarget_51 : decode prog_12_method_45_code 51 = .ok (.iload_n 2, 1) := by decide +kernel
theorem d_Mo_isTarget_52 : decode prog_12_method_45_code 52 = .ok (.iload_n 1, 1) := by decide +kernel
theorem d_Mo_isTarget_53 : decode prog_12_method_45_code 53 = .ok (.iconst 3, 1) := by decide +kernel
theorem d_Mo_isTarget_54 : decode prog_12_method_45_code 54 = .ok (.iadd, 1) := by decide +kernel
theorem d_Mo_isTarget_55 : decode prog_12_method_45_code 55 = .ok (.if_icmp .ne 5, 3) := by decide +kernel
theorem d_Mo_isTarget_58 : decode prog_12_method_45_code 58 = .ok (.iconst 0, 1) := by decide +kernel
theorem d_Mo_isTarget_59 : decode prog_12_method_45_code 59 = .ok (.ireturn, 1) := by decide +kernel
theorem d_Mo_isTarget_60 : decode prog_12_method_45_code 60 = .ok (.iconst 0, 1) := by decide +kernel
theorem d_Mo_isTarget_61 : decode prog_12_method_45_code 61 = .ok (.istore_n 3, 1) := by decide +kernel
theorem d_Mo_isTarget_62 : decode prog_12_method_45_code 62 = .ok (.iconst 0, 1) := by decide +kernel
theorem d_Mo_isTarget_63 : decode prog_12_method_45_code 63 = .ok (.istore 4, 2) := by decide +kernel
theorem d_Mo_isTarget_65 : decode prog_12_method_45_code 65 = .ok (.iload_n 1, 1) := by decide +kernel
theorem d_Mo_isTarget_66 : decode prog_12_method_45_code 66 = .ok (.iconst 1, 1) := by decide +kernel
theorem d_Mo_isTarget_67 : decode prog_12_method_45_code 67 = .ok (.iadd, 1) := by decide +kernel
theorem d_Mo_isTarget_68 : decode prog_12_method_45_code 68 = .ok (.istore 5, 2) := by decide +kernel
theorem d_Mo_isTarget_70 : decode prog_12_method_45_code 70 = .ok (.iload 5, 2) := by decide +kernel
theorem d_Mo_isTarget_72 : decode prog_12_method_45_code 72 = .ok (.iload_n 2, 1) := by decide +kernel
theorem d_Mo_isTarget_73 : decode prog_12_method_45_code 73 = .ok (.if_icmp .ge 87, 3) := by decide +kernel
theorem d_Mo_isTarget_76 : decode prog_12_method_45_code 76 = .ok (.aload_n 0, 1) := by decide +kernel
theorem d_Mo_isTarget_77 : decode prog_12_method_45_code 77 = .ok (.getfield 114, 3) := by decide +kernel
theorem d_Mo_isTarget_80 : decode prog_12_method_45_code 80 = .ok (.iload 5, 2) := by decide +kernel
theorem d_Mo_isTarget_82 : decode prog_12_method_45_code 82 = .ok (.invokevirtual 214, 3) := by decide +kernel
theorem d_Mo_isTarget_85 : decode prog_12_method_45_code 85 = .ok (.istore 6, 2) := by decide +kernel
theorem d_Mo_isTarget_87 : decode prog_12_method_45_code 87 = .ok (.iload 6, 2) := by decide +kernel
theorem d_Mo_isTarget_89 : decode prog_12_method_45_code 89 = .ok (.bipush 50, 2) := by decide +kernel
theorem d_Mo_isTarget_91 : decode prog_12_method_45_code 91 = .ok (.if_icmp .eq 10, 3) := by decide +kernel
theorem d_Mo_isTarget_94 : decode prog_12_method_45_code 94 = .ok (.iload 6, 2) := by decide +kernel
theorem d_Mo_isTarget_96 : decode prog_12_method_45_code 96 = .ok (.bipush 52, 2) := by decide +kernel
theorem d_Mo_isTarget_98 : decode prog_12_method_45_code 98 = .ok (.if_icmp .ne 10, 3) := by decide +kernel
theorem d_Mo_isTarget_101 : decode prog_12_method_45_code 101 = .ok (.iload 4, 2) := by decide +kernel
theorem d_Mo_isTarget_103 : decode prog_12_method_45_code 103 = .ok (.iconst 1, 1) := by decide +kernel
theorem d_Mo_isTarget_104 : decode prog_12_method_45_code 104 = .ok (.iadd, 1) := by decide +kernel
theorem d_Mo_isTarget_105 : decode prog_12_method_45_code 105 = .ok (.goto 26, 3) := by decide +kernel
theorem d_Mo_isTarget_108 : decode prog_12_method_45_code 108 = .ok (.iload 6, 2) := by decide +kernel
theorem d_Mo_isTarget_110 : decode prog_12_method_45_code 110 = .ok (.bipush 51, 2) := by decide +kernel
theorem d_Mo_isTarget_112 : decode prog_12_method_45_code 112 = .ok (.if_icmp .eq 10, 3) := by decide +kernel
theorem d_Mo_isTarget_115 : decode prog_12_method_45_code 115 = .ok (.iload 6, 2) := by decide +kernel
theorem d_Mo_isTarget_117 : decode prog_12_method_45_code 117 = .ok (.bipush 53, 2) := by decide +kernel
theorem d_Mo_isTarget_119 : decode prog_12_method_45_code 119 = .ok (.if_icmp .ne 10, 3) := by decide +kernel
theorem d_Mo_isTarget_122 : decode prog_12_method_45_code 122 = .ok (.iload 4, 2) := by decide +kernel
theorem d_Mo_isTarget_124 : decode prog_12_method_45_code 124 = .ok (.iconst 1, 1) := by decide +kernel
theorem d_Mo_isTarget_125 : decode prog_12_method_45_code 125 = .ok (.isub, 1) := by decide +kernel
theorem d_Mo_isTarget_126 : decode prog_12_method_45_code 126 = .ok (.goto 5, 3) := by decide +kernel
theorem d_Mo_isTarget_129 : decode prog_12_method_45_code 129 = .ok (.iload 4, 2) := by decide +kernel
theorem d_Mo_isTarget_131 : decode prog_12_method_45_code 131 = .ok (.istore 4, 2) := by decide +kernel
theorem d_Mo_isTarget_133 : decode prog_12_method_45_code 133 = .ok (.iload 6, 2) := by decide +kernel
theorem d_Mo_isTarget_135 : decode prog_12_method_45_code 135 = .ok (.bipush 54, 2) := by decide +kernel
theorem d_Mo_isTarget_137 : decode prog_12_method_45_code 137 = .ok (.if_icmp .ne 15, 3) := by decide +kernel
theorem d_Mo_isTarget_140 : decode prog_12_method_45_code 140 = .ok (.iload 4, 2) := by decide +kernel
theorem d_Mo_isTarget_142 : decode prog_12_method_45_code 142 = .ok (.iconst 1, 1) := by decide +kernel
theorem d_Mo_isTarget_143 : decode prog_12_method_45_code 143 = .ok (.if_icmp .ne 9, 3) := by decide +kernel
theorem d_Mo_isTarget_146 : decode prog_12_method_45_code 146 = .ok (.iload_n 3, 1) := by decide +kernel
theorem d_Mo_isTarget_147 : decode prog_12_method_45_code 147 = .ok (.iconst 1, 1) := by decide +kernel
theorem d_Mo_isTarget_148 : decode prog_12_method_45_code 148 = .ok (.iadd, 1) := by decide +kernel
theorem d_Mo_isTarget_149 : decode prog_12_method_45_code 149 = .ok (.goto 4, 3) := by decide +kernel
theorem d_Mo_isTarget_152 : decode prog_12_method_45_code 152 = .ok (.iload_n 3, 1) := by decide +kernel
theorem d_Mo_isTarget_153 : decode prog_12_method_45_code 153 = .ok (.istore_n 3, 1) := by decide +kernel
theorem d_Mo_isTarget_154 : decode prog_12_method_45_code 154 = .ok (.iinc 5 1, 3) := by decide +kernel
theorem d_Mo_isTarget_157 : decode prog_12_method_45_code 157 = .ok (.goto (-87), 3) := by decide +kernel
theorem d_Mo_isTarget_160 : decode prog_12_method_45_code 160 = .ok (.iload_n 3, 1) := by decide +kernel
theorem d_Mo_isTarget_161 : decode prog_12_method_45_code 161 = .ok (.iconst 2, 1) := by decide +kernel
theorem d_Mo_isTarget_162 : decode prog_12_method_45_code 162 = .ok (.if_icmp .ge 7, 3) := by decide +kernel
theorem d_Mo_isTarget_165 : decode prog_12_method_45_code 165 = .ok (.iconst 1, 1) := by decide +kernel
theorem d_Mo_isTarget_166 : decode prog_12_method_45_code 166 = .ok (.goto 4, 3) := by decide +kernel
theorem d_Mo_isTarget_169 : decode prog_12_method_45_code 169 = .ok (.iconst 0, 1) := by decide +kernel
theorem d_Mo_isTarget_170 : decode prog_12_method_45_code 170 = .ok (.ireturn, 1) := by decide +kernel
set_option maxHeartbeats 4000000 in
set_option maxRecDepth 100000 in
theorem L_Mo_isTarget_70 (l : Launch) (D : va_G) (cI cB cJ cS : ClassId) (h0 : Nat) (am : Nat → Nat) (a_all_m5 : Nat) (p1 : Int32) (p2 : Int32) (known_h0 : Int32) (thrown_h0 : Int32) (wrong_h0 : Int32) (lastEnd_h0 : Int32) (at_h0 : Int32) (bad_h0 : Int32) (levels_h0 : Int32) (least_h0 : Int32) (found_h0 : Int32) (size_m5 : Int32) (n_a_all_m5 : Nat) (b_a_all_m5 : Nat → Int32) (ret : Int32) (p : Program) (e : Env) (s : State) (m : MethodId) (below : List Frame) (meth : Method) (c : Code) (hr : meth.sig.returnType = (Option.some Jvm.ClassFile.FieldType.boolean)) (hnm : meth.name = y_Mo_isTarget.name) : ∀ (k_70 : Nat) (v5_70 : Int32) (v4_70 : Int32) (v3_70 : Int32), F_Mo_isTarget_70 p2 size_m5 n_a_all_m5 b_a_all_m5  k_70 v5_70 v4_70 v3_70 = some ret → J (KxOf p l e { frames := 2, cells := 0, slots := 0, locals := 45 } s m [.ref h0, .int p1, .int p2].toArray below meth c D (gT cI cB cJ cS) [(h0, .inr (9, moF am known_h0 thrown_h0 wrong_h0 lastEnd_h0 at_h0 bad_h0 levels_h0 least_h0 found_h0)), ((am 5), .inr (8, [.ref a_all_m5, .int size_m5])), (a_all_m5, .inl (cI, n_a_all_m5, .inl b_a_all_m5))] (fun v w => v = some (.int ret) ∧ zb ret ∧ w = [(h0, .inr (9, moF am known_h0 thrown_h0 wrong_h0 lastEnd_h0 at_h0 bad_h0 levels_h0 least_h0 found_h0)), ((am 5), .inr (8, [.ref a_all_m5, .int size_m5])), (a_all_m5, .inl (cI, n_a_all_m5, .inl b_a_all_m5))]) 0 0) prog_12_method_45_code 7 R_Mo 70 [(5, .int v5_70), (4, .int v4_70), (3, .int v3_70), (0, .ref h0), (1, .int p1), (2, .int p2)] [] [(h0, .inr (9, moF am known_h0 thrown_h0 wrong_h0 lastEnd_h0 at_h0 bad_h0 levels_h0 least_h0 found_h0)), ((am 5), .inr (8, [.ref a_all_m5, .int size_m5])), (a_all_m5, .inl (cI, n_a_all_m5, .inl b_a_all_m5))] 0 0 := by
  intro k_70
  induction k_70 with
  | zero => intro v5_70 v4_70 v3_70 h; rw [F_Mo_isTarget_70] at h; cases h
  | succ k_70 ih_70 =>
    intro v5_70 v4_70 v3_70 h
    rw [F_Mo_isTarget_70] at h
    have L_131 : ∀ (t0_131 : Int32), F_Mo_isTarget_131 b_a_all_m5 v5_70 v3_70 (F_Mo_isTarget_70 p2 size_m5 n_a_all_m5 b_a_all_m5  k_70)  t0_131 = some ret → J (KxOf p l e { frames := 2, cells := 0, slots := 0, locals := 45 } s m [.ref h0, .int p1, .int p2].toArray below meth c D (gT cI cB cJ cS) [(h0, .inr (9, moF am known_h0 thrown_h0 wrong_h0 lastEnd_h0 at_h0 bad_h0 levels_h0 least_h0 found_h0)), ((am 5), .inr (8, [.ref a_all_m5, .int size_m5])), (a_all_m5, .inl (cI, n_a_all_m5, .inl b_a_all_m5))] (fun v w => v = some (.int ret) ∧ zb ret ∧ w = [(h0, .inr (9, moF am known_h0 thrown_h0 wrong_h0 lastEnd_h0 at_h0 bad_h0 levels_h0 least_h0 found_h0)), ((am 5), .inr (8, [.ref a_all_m5, .int size_m5])), (a_all_m5, .inl (cI, n_a_all_m5, .inl b_a_all_m5))]) 0 0) prog_12_method_45_code 7 R_Mo 131 [(6, .int (b_a_all_m5 (Int32.toNatClampNeg v5_70))), (5, .int v5_70), (4, .int v4_70), (3, .int v3_70), (0, .ref h0), (1, .int p1), (2, .int p2)] [.int t0_131] [(h0, .inr (9, moF am known_h0 thrown_h0 wrong_h0 lastEnd_h0 at_h0 bad_h0 levels_h0 least_h0 found_h0)), ((am 5), .inr (8, [.ref a_all_m5, .int size_m5])), (a_all_m5, .inl (cI, n_a_all_m5, .inl b_a_all_m5))] 0 0 := by
      clear h
      intro t0_131 h
      unfold F_Mo_isTarget_131 at h
      refine j_istore (lv' := [(4, .int t0_131), (6, .int (b_a_all_m5 (Int32.toNatClampNeg v5_70))), (5, .int v5_70), (3, .int v3_70), (0, .ref h0), (1, .int p1), (2, .int p2)]) d_Mo_isTarget_131 (by decide) rfl ?_
      refine j_iload d_Mo_isTarget_133 1 rfl ?_
      refine j_bipush (v := 54) d_Mo_isTarget_135 (by decide) ?_
      refine j_icmp_ne (tgt := 152) d_Mo_isTarget_137 (by decide) (fun c1 => ?_) (fun c1 => ?_)
      · replace h := it_f c1 h
        refine j_iload_n d_Mo_isTarget_152 rfl 3 rfl ?_
        refine j_istore_n (lv' := [(3, .int v3_70), (4, .int t0_131), (6, .int (b_a_all_m5 (Int32.toNatClampNeg v5_70))), (5, .int v5_70), (0, .ref h0), (1, .int p1), (2, .int p2)]) d_Mo_isTarget_153 rfl (by decide) rfl ?_
        refine j_iinc (v := v5_70 + 1) (lv' := [(5, .int (v5_70 + 1)), (3, .int v3_70), (4, .int t0_131), (6, .int (b_a_all_m5 (Int32.toNatClampNeg v5_70))), (0, .ref h0), (1, .int p1), (2, .int p2)]) d_Mo_isTarget_154 3 rfl rfl (by decide) rfl ?_
        refine j_goto (tgt := 70) d_Mo_isTarget_157 (by decide) ?_
        refine j_sub (w := [(h0, .inr (9, moF am known_h0 thrown_h0 wrong_h0 lastEnd_h0 at_h0 bad_h0 levels_h0 least_h0 found_h0)), ((am 5), .inr (8, [.ref a_all_m5, .int size_m5])), (a_all_m5, .inl (cI, n_a_all_m5, .inl b_a_all_m5))]) (lv' := [(5, .int (v5_70 + 1)), (4, .int t0_131), (3, .int v3_70), (0, .ref h0), (1, .int p1), (2, .int p2)]) [0, 1, 2] rfl (by decide) [0, 2, 1, 4, 5, 6] rfl ?_
        exact ih_70 (v5_70 + 1) t0_131 v3_70 h
      · replace h := it_t c1 h
        refine j_iload d_Mo_isTarget_140 0 rfl ?_
        refine j_iconst (v := 1) d_Mo_isTarget_142 (by decide) ?_
        refine j_icmp_ne (tgt := 152) d_Mo_isTarget_143 (by decide) (fun c2 => ?_) (fun c2 => ?_)
        · replace h := it_f c2 h
          refine j_iload_n d_Mo_isTarget_152 rfl 3 rfl ?_
          refine j_istore_n (lv' := [(3, .int v3_70), (4, .int t0_131), (6, .int (b_a_all_m5 (Int32.toNatClampNeg v5_70))), (5, .int v5_70), (0, .ref h0), (1, .int p1), (2, .int p2)]) d_Mo_isTarget_153 rfl (by decide) rfl ?_
          refine j_iinc (v := v5_70 + 1) (lv' := [(5, .int (v5_70 + 1)), (3, .int v3_70), (4, .int t0_131), (6, .int (b_a_all_m5 (Int32.toNatClampNeg v5_70))), (0, .ref h0), (1, .int p1), (2, .int p2)]) d_Mo_isTarget_154 3 rfl rfl (by decide) rfl ?_
          refine j_goto (tgt := 70) d_Mo_isTarget_157 (by decide) ?_
          refine j_sub (w := [(h0, .inr (9, moF am known_h0 thrown_h0 wrong_h0 lastEnd_h0 at_h0 bad_h0 levels_h0 least_h0 found_h0)), ((am 5), .inr (8, [.ref a_all_m5, .int size_m5])), (a_all_m5, .inl (cI, n_a_all_m5, .inl b_a_all_m5))]) (lv' := [(5, .int (v5_70 + 1)), (4, .int t0_131), (3, .int v3_70), (0, .ref h0), (1, .int p1), (2, .int p2)]) [0, 1, 2] rfl (by decide) [0, 2, 1, 4, 5, 6] rfl ?_
          exact ih_70 (v5_70 + 1) t0_131 v3_70 h
        · replace h := it_t c2 h
          refine j_iload_n d_Mo_isTarget_146 rfl 3 rfl ?_
          refine j_iconst (v := 1) d_Mo_isTarget_147 (by decide) ?_
          refine j_iadd d_Mo_isTarget_148 ?_
          refine j_goto (tgt := 153) d_Mo_isTarget_149 (by decide) ?_
          refine j_istore_n (lv' := [(3, .int (v3_70 + 1)), (4, .int t0_131), (6, .int (b_a_all_m5 (Int32.toNatClampNeg v5_70))), (5, .int v5_70), (0, .ref h0), (1, .int p1), (2, .int p2)]) d_Mo_isTarget_153 rfl (by decide) rfl ?_
          refine j_iinc (v := v5_70 + 1) (lv' := [(5, .int (v5_70 + 1)), (3, .int (v3_70 + 1)), (4, .int t0_131), (6, .int (b_a_all_m5 (Int32.toNatClampNeg v5_70))), (0, .ref h0), (1, .int p1), (2, .int p2)]) d_Mo_isTarget_154 3 rfl rfl (by decide) rfl ?_
          refine j_goto (tgt := 70) d_Mo_isTarget_157 (by decide) ?_
          refine j_sub (w := [(h0, .inr (9, moF am known_h0 thrown_h0 wrong_h0 lastEnd_h0 at_h0 bad_h0 levels_h0 least_h0 found_h0)), ((am 5), .inr (8, [.ref a_all_m5, .int size_m5])), (a_all_m5, .inl (cI, n_a_all_m5, .inl b_a_all_m5))]) (lv' := [(5, .int (v5_70 + 1)), (4, .int t0_131), (3, .int (v3_70 + 1)), (0, .ref h0), (1, .int p1), (2, .int p2)]) [0, 1, 2] rfl (by decide) [0, 2, 1, 4, 5, 6] rfl ?_
          exact ih_70 (v5_70 + 1) t0_131 (v3_70 + 1) h
    refine j_iload d_Mo_isTarget_70 0 rfl ?_
    refine j_iload_n d_Mo_isTarget_72 rfl 5 rfl ?_
    refine j_icmp_ge (tgt := 160) d_Mo_isTarget_73 (by decide) (fun c3 => ?_) (fun c3 => ?_)
    · replace h := it_t c3 h
      refine j_iload_n d_Mo_isTarget_160 rfl 2 rfl ?_
      refine j_iconst (v := 2) d_Mo_isTarget_161 (by decide) ?_
      refine j_icmp_ge (tgt := 169) d_Mo_isTarget_162 (by decide) (fun c4 => ?_) (fun c4 => ?_)
      · replace h := it_t c4 h
        refine j_iconst (v := 0) d_Mo_isTarget_169 (by decide) ?_
        replace h := Option.some.inj h
        subst h
        exact j_zret (w := [(h0, .inr (9, moF am known_h0 thrown_h0 wrong_h0 lastEnd_h0 at_h0 bad_h0 levels_h0 least_h0 found_h0)), ((am 5), .inr (8, [.ref a_all_m5, .int size_m5])), (a_all_m5, .inl (cI, n_a_all_m5, .inl b_a_all_m5))]) hr (zb_n zb0) d_Mo_isTarget_170 [0, 1, 2] rfl (by decide) ⟨rfl, zb0, rfl⟩
      · replace h := it_f c4 h
        refine j_iconst (v := 1) d_Mo_isTarget_165 (by decide) ?_
        refine j_goto (tgt := 170) d_Mo_isTarget_166 (by decide) ?_
        replace h := Option.some.inj h
        subst h
        exact j_zret (w := [(h0, .inr (9, moF am known_h0 thrown_h0 wrong_h0 lastEnd_h0 at_h0 bad_h0 levels_h0 least_h0 found_h0)), ((am 5), .inr (8, [.ref a_all_m5, .int size_m5])), (a_all_m5, .inl (cI, n_a_all_m5, .inl b_a_all_m5))]) hr (zb_n zb1) d_Mo_isTarget_170 [0, 1, 2] rfl (by decide) ⟨rfl, zb1, rfl⟩
    · replace h := it_f c3 h
      refine j_aload_n d_Mo_isTarget_76 rfl 3 rfl ?_
      refine j_get ig_Mo rfl 0 rfl 5 (by decide) rfl m_1118 rfl d_Mo_isTarget_77 ?_
      refine j_iload d_Mo_isTarget_80 0 rfl ?_
      replace h := bd_s h
      obtain ⟨_, k5, h⟩ := h
      refine j_callV (n := 1) (As := [.int v5_70]) (rest := []) (wr := [(h0, .inr (9, moF am known_h0 thrown_h0 wrong_h0 lastEnd_h0 at_h0 bad_h0 levels_h0 least_h0 found_h0))]) (c_Nm_at l D cI cB cJ cS (am 5) a_all_m5 v5_70 size_m5 n_a_all_m5 b_a_all_m5  k5) k_Mo_214 (by decide) ⟨Nat.le_of_ble_eq_true rfl, Nat.le_of_ble_eq_true rfl⟩ rfl 0 rfl [1, 2] [0] rfl (by decide) rfl (by decide) (by decide) rfl rfl (Nat.le_of_ble_eq_true rfl) d_Mo_isTarget_82 ⟨Nat.le_of_ble_eq_true rfl, Nat.le_of_ble_eq_true rfl⟩ (fun v w hq => ?_)
      obtain ⟨rfl, rfl⟩ := hq
      refine j_norm (pc' := 85) (st' := [.int (b_a_all_m5 (Int32.toNatClampNeg v5_70))]) (ws' := [(h0, .inr (9, moF am known_h0 thrown_h0 wrong_h0 lastEnd_h0 at_h0 bad_h0 levels_h0 least_h0 found_h0)), ((am 5), .inr (8, [.ref a_all_m5, .int size_m5])), (a_all_m5, .inl (cI, n_a_all_m5, .inl b_a_all_m5))]) (cl' := 0) (sl' := 0) rfl rfl rfl rfl rfl rfl ?_
      refine j_istore (lv' := [(6, .int (b_a_all_m5 (Int32.toNatClampNeg v5_70))), (5, .int v5_70), (4, .int v4_70), (3, .int v3_70), (0, .ref h0), (1, .int p1), (2, .int p2)]) d_Mo_isTarget_85 (by decide) rfl ?_
      refine j_iload d_Mo_isTarget_87 0 rfl ?_
      refine j_bipush (v := 50) d_Mo_isTarget_89 (by decide) ?_
      refine j_icmp_eq (tgt := 101) d_Mo_isTarget_91 (by decide) (fun c6 => ?_) (fun c6 => ?_)
      · replace h := it_t c6 h
        refine j_iload d_Mo_isTarget_101 2 rfl ?_
        refine j_iconst (v := 1) d_Mo_isTarget_103 (by decide) ?_
        refine j_iadd d_Mo_isTarget_104 ?_
        refine j_goto (tgt := 131) d_Mo_isTarget_105 (by decide) ?_
        refine j_sub (w := [(h0, .inr (9, moF am known_h0 thrown_h0 wrong_h0 lastEnd_h0 at_h0 bad_h0 levels_h0 least_h0 found_h0)), ((am 5), .inr (8, [.ref a_all_m5, .int size_m5])), (a_all_m5, .inl (cI, n_a_all_m5, .inl b_a_all_m5))]) (lv' := [(6, .int (b_a_all_m5 (Int32.toNatClampNeg v5_70))), (5, .int v5_70), (4, .int v4_70), (3, .int v3_70), (0, .ref h0), (1, .int p1), (2, .int p2)]) [0, 1, 2] rfl (by decide) [0, 1, 2, 3, 4, 5, 6] rfl ?_
        exact L_131 (v4_70 + 1) h
      · replace h := it_f c6 h
        refine j_iload d_Mo_isTarget_94 0 rfl ?_
        refine j_bipush (v := 52) d_Mo_isTarget_96 (by decide) ?_
        refine j_icmp_ne (tgt := 108) d_Mo_isTarget_98 (by decide) (fun c7 => ?_) (fun c7 => ?_)
        · replace h := it_f c7 h
          refine j_iload d_Mo_isTarget_108 0 rfl ?_
          refine j_bipush (v := 51) d_Mo_isTarget_110 (by decide) ?_
          refine j_icmp_eq (tgt := 122) d_Mo_isTarget_112 (by decide) (fun c8 => ?_) (fun c8 => ?_)
          · replace h := it_t c8 h
            refine j_iload d_Mo_isTarget_122 2 rfl ?_
            refine j_iconst (v := 1) d_Mo_isTarget_124 (by decide) ?_
            refine j_isub d_Mo_isTarget_125 ?_
            refine j_goto (tgt := 131) d_Mo_isTarget_126 (by decide) ?_
            refine j_sub (w := [(h0, .inr (9, moF am known_h0 thrown_h0 wrong_h0 lastEnd_h0 at_h0 bad_h0 levels_h0 least_h0 found_h0)), ((am 5), .inr (8, [.ref a_all_m5, .int size_m5])), (a_all_m5, .inl (cI, n_a_all_m5, .inl b_a_all_m5))]) (lv' := [(6, .int (b_a_all_m5 (Int32.toNatClampNeg v5_70))), (5, .int v5_70), (4, .int v4_70), (3, .int v3_70), (0, .ref h0), (1, .int p1), (2, .int p2)]) [0, 1, 2] rfl (by decide) [0, 1, 2, 3, 4, 5, 6] rfl ?_
            exact L_131 (v4_70 - 1) h
          · replace h := it_f c8 h
            refine j_iload d_Mo_isTarget_115 0 rfl ?_
            refine j_bipush (v := 53) d_Mo_isTarget_117 (by decide) ?_
            refine j_icmp_ne (tgt := 129) d_Mo_isTarget_119 (by decide) (fun c9 => ?_) (fun c9 => ?_)
            · replace h := it_f c9 h
              refine j_iload d_Mo_isTarget_129 2 rfl ?_
              refine j_sub (w := [(h0, .inr (9, moF am known_h0 thrown_h0 wrong_h0 lastEnd_h0 at_h0 bad_h0 levels_h0 least_h0 found_h0)), ((am 5), .inr (8, [.ref a_all_m5, .int size_m5])), (a_all_m5, .inl (cI, n_a_all_m5, .inl b_a_all_m5))]) (lv' := [(6, .int (b_a_all_m5 (Int32.toNatClampNeg v5_70))), (5, .int v5_70), (4, .int v4_70), (3, .int v3_70), (0, .ref h0), (1, .int p1), (2, .int p2)]) [0, 1, 2] rfl (by decide) [0, 1, 2, 3, 4, 5, 6] rfl ?_
              exact L_131 v4_70 h
            · replace h := it_t c9 h
              refine j_iload d_Mo_isTarget_122 2 rfl ?_
              refine j_iconst (v := 1) d_Mo_isTarget_124 (by decide) ?_
              refine j_isub d_Mo_isTarget_125 ?_
              refine j_goto (tgt := 131) d_Mo_isTarget_126 (by decide) ?_
              refine j_sub (w := [(h0, .inr (9, moF am known_h0 thrown_h0 wrong_h0 lastEnd_h0 at_h0 bad_h0 levels_h0 least_h0 found_h0)), ((am 5), .inr (8, [.ref a_all_m5, .int size_m5])), (a_all_m5, .inl (cI, n_a_all_m5, .inl b_a_all_m5))]) (lv' := [(6, .int (b_a_all_m5 (Int32.toNatClampNeg v5_70))), (5, .int v5_70), (4, .int v4_70), (3, .int v3_70), (0, .ref h0), (1, .int p1), (2, .int p2)]) [0, 1, 2] rfl (by decide) [0, 1, 2, 3, 4, 5, 6] rfl ?_
              exact L_131 (v4_70 - 1) h
        · replace h := it_t c7 h
          refine j_iload d_Mo_isTarget_101 2 rfl ?_
          refine j_iconst (v := 1) d_Mo_isTarget_103 (by decide) ?_
          refine j_iadd d_Mo_isTarget_104 ?_
          refine j_goto (tgt := 131) d_Mo_isTarget_105 (by decide) ?_
          refine j_sub (w := [(h0, .inr (9, moF am known_h0 thrown_h0 wrong_h0 lastEnd_h0 at_h0 bad_h0 levels_h0 least_h0 found_h0)), ((am 5), .inr (8, [.ref a_all_m5, .int size_m5])), (a_all_m5, .inl (cI, n_a_all_m5, .inl b_a_all_m5))]) (lv' := [(6, .int (b_a_all_m5 (Int32.toNatClampNeg v5_70))), (5, .int v5_70), (4, .int v4_70), (3, .int v3_70), (0, .ref h0), (1, .int p1), (2, .int p2)]) [0, 1, 2] rfl (by decide) [0, 1, 2, 3, 4, 5, 6] rfl ?_
          exact L_131 (v4_70 + 1) h
set_option maxHeartbeats 4000000 in
set_option maxRecDepth 100000 in
theorem c_Mo_isTarget (l : Launch) (D : va_G) (cI cB cJ cS : ClassId) (h0 : Nat) (am : Nat → Nat) (a_all_m5 : Nat) (p1 : Int32) (p2 : Int32) (known_h0 : Int32) (thrown_h0 : Int32) (wrong_h0 : Int32) (lastEnd_h0 : Int32) (at_h0 : Int32) (bad_h0 : Int32) (levels_h0 : Int32) (least_h0 : Int32) (found_h0 : Int32) (size_m5 : Int32) (n_a_all_m5 : Nat) (b_a_all_m5 : Nat → Int32) (ret : Int32) (h : F_Mo_isTarget p1 p2 known_h0 thrown_h0 wrong_h0 lastEnd_h0 at_h0 bad_h0 levels_h0 least_h0 found_h0 size_m5 n_a_all_m5 b_a_all_m5 = some ret) : Ct l D (gT cI cB cJ cS) y_Mo_isTarget prog_12_method_45_code 7 (Option.some Jvm.ClassFile.FieldType.boolean) 2 45 0 0 [.ref h0, .int p1, .int p2] [(h0, .inr (9, moF am known_h0 thrown_h0 wrong_h0 lastEnd_h0 at_h0 bad_h0 levels_h0 least_h0 found_h0)), ((am 5), .inr (8, [.ref a_all_m5, .int size_m5])), (a_all_m5, .inl (cI, n_a_all_m5, .inl b_a_all_m5))] (fun v w => v = some (.int ret) ∧ zb ret ∧ w = [(h0, .inr (9, moF am known_h0 thrown_h0 wrong_h0 lastEnd_h0 at_h0 bad_h0 levels_h0 least_h0 found_h0)), ((am 5), .inr (8, [.ref a_all_m5, .int size_m5])), (a_all_m5, .inl (cI, n_a_all_m5, .inl b_a_all_m5))]) := by
  refine Ct.mk (by decide) (Nat.le_of_ble_eq_true rfl) ?_
  intro p e s m below meth c hr hnm
  refine j_norm (pc' := 0) (lv' := [(0, .ref h0), (1, .int p1), (2, .int p2)]) (st' := []) (ws' := [(h0, .inr (9, moF am known_h0 thrown_h0 wrong_h0 lastEnd_h0 at_h0 bad_h0 levels_h0 least_h0 found_h0)), ((am 5), .inr (8, [.ref a_all_m5, .int size_m5])), (a_all_m5, .inl (cI, n_a_all_m5, .inl b_a_all_m5))]) (cl' := 0) (sl' := 0) rfl rfl rfl rfl rfl rfl ?_
  unfold F_Mo_isTarget at h
  refine j_aload_n d_Mo_isTarget_0 rfl 0 rfl ?_
  refine j_get ig_Mo rfl 0 rfl 5 (by decide) rfl m_1118 rfl d_Mo_isTarget_1 ?_
  refine j_iload_n d_Mo_isTarget_4 rfl 1 rfl ?_
  replace h := bd_s h
  obtain ⟨_, k10, h⟩ := h
  refine j_callV (n := 1) (As := [.int p1]) (rest := []) (wr := [(h0, .inr (9, moF am known_h0 thrown_h0 wrong_h0 lastEnd_h0 at_h0 bad_h0 levels_h0 least_h0 found_h0))]) (c_Nm_at l D cI cB cJ cS (am 5) a_all_m5 p1 size_m5 n_a_all_m5 b_a_all_m5  k10) k_Mo_214 (by decide) ⟨Nat.le_of_ble_eq_true rfl, Nat.le_of_ble_eq_true rfl⟩ rfl 0 rfl [1, 2] [0] rfl (by decide) rfl (by decide) (by decide) rfl rfl (Nat.le_of_ble_eq_true rfl) d_Mo_isTarget_5 ⟨Nat.le_of_ble_eq_true rfl, Nat.le_of_ble_eq_true rfl⟩ (fun v w hq => ?_)
  obtain ⟨rfl, rfl⟩ := hq
  refine j_norm (pc' := 8) (st' := [.int (b_a_all_m5 (Int32.toNatClampNeg p1))]) (ws' := [(h0, .inr (9, moF am known_h0 thrown_h0 wrong_h0 lastEnd_h0 at_h0 bad_h0 levels_h0 least_h0 found_h0)), ((am 5), .inr (8, [.ref a_all_m5, .int size_m5])), (a_all_m5, .inl (cI, n_a_all_m5, .inl b_a_all_m5))]) (cl' := 0) (sl' := 0) rfl rfl rfl rfl rfl rfl ?_
  refine j_iconst (v := 2) d_Mo_isTarget_8 (by decide) ?_
  refine j_icmp_eq (tgt := 14) d_Mo_isTarget_9 (by decide) (fun c11 => ?_) (fun c11 => ?_)
  · replace h := it_t c11 h
    refine j_iload_n d_Mo_isTarget_14 rfl 2 rfl ?_
    refine j_iload_n d_Mo_isTarget_15 rfl 1 rfl ?_
    refine j_iconst (v := 1) d_Mo_isTarget_16 (by decide) ?_
    refine j_iadd d_Mo_isTarget_17 ?_
    refine j_icmp_ne (tgt := 23) d_Mo_isTarget_18 (by decide) (fun c12 => ?_) (fun c12 => ?_)
    · replace h := it_f c12 h
      refine j_aload_n d_Mo_isTarget_23 rfl 0 rfl ?_
      refine j_get ig_Mo rfl 0 rfl 5 (by decide) rfl m_1118 rfl d_Mo_isTarget_24 ?_
      refine j_iload_n d_Mo_isTarget_27 rfl 1 rfl ?_
      refine j_iconst (v := 1) d_Mo_isTarget_28 (by decide) ?_
      refine j_iadd d_Mo_isTarget_29 ?_
      replace h := bd_s h
      obtain ⟨_, k13, h⟩ := h
      refine j_callV (n := 1) (As := [.int (p1 + 1)]) (rest := []) (wr := [(h0, .inr (9, moF am known_h0 thrown_h0 wrong_h0 lastEnd_h0 at_h0 bad_h0 levels_h0 least_h0 found_h0))]) (c_Nm_at l D cI cB cJ cS (am 5) a_all_m5 (p1 + 1) size_m5 n_a_all_m5 b_a_all_m5  k13) k_Mo_214 (by decide) ⟨Nat.le_of_ble_eq_true rfl, Nat.le_of_ble_eq_true rfl⟩ rfl 0 rfl [1, 2] [0] rfl (by decide) rfl (by decide) (by decide) rfl rfl (Nat.le_of_ble_eq_true rfl) d_Mo_isTarget_30 ⟨Nat.le_of_ble_eq_true rfl, Nat.le_of_ble_eq_true rfl⟩ (fun v w hq => ?_)
      obtain ⟨rfl, rfl⟩ := hq
      refine j_norm (pc' := 33) (st' := [.int (b_a_all_m5 (Int32.toNatClampNeg (p1 + 1)))]) (ws' := [(h0, .inr (9, moF am known_h0 thrown_h0 wrong_h0 lastEnd_h0 at_h0 bad_h0 levels_h0 least_h0 found_h0)), ((am 5), .inr (8, [.ref a_all_m5, .int size_m5])), (a_all_m5, .inl (cI, n_a_all_m5, .inl b_a_all_m5))]) (cl' := 0) (sl' := 0) rfl rfl rfl rfl rfl rfl ?_
      refine j_bipush (v := 50) d_Mo_isTarget_33 (by decide) ?_
      refine j_icmp_ne (tgt := 58) d_Mo_isTarget_35 (by decide) (fun c14 => ?_) (fun c14 => ?_)
      · replace h := it_f c14 h
        refine j_iconst (v := 0) d_Mo_isTarget_58 (by decide) ?_
        replace h := Option.some.inj h
        subst h
        exact j_zret (w := [(h0, .inr (9, moF am known_h0 thrown_h0 wrong_h0 lastEnd_h0 at_h0 bad_h0 levels_h0 least_h0 found_h0)), ((am 5), .inr (8, [.ref a_all_m5, .int size_m5])), (a_all_m5, .inl (cI, n_a_all_m5, .inl b_a_all_m5))]) hr (zb_n zb0) d_Mo_isTarget_59 [0, 1, 2] rfl (by decide) ⟨rfl, zb0, rfl⟩
      · replace h := it_t c14 h
        refine j_aload_n d_Mo_isTarget_38 rfl 0 rfl ?_
        refine j_iload_n d_Mo_isTarget_39 rfl 1 rfl ?_
        refine j_iconst (v := 1) d_Mo_isTarget_40 (by decide) ?_
        refine j_iadd d_Mo_isTarget_41 ?_
        replace h := bd_s h
        obtain ⟨r15, k16, h⟩ := h
        refine j_callV (n := 1) (As := [.int (p1 + 1)]) (rest := []) (wr := []) (c_Mo_closing l D cI cB cJ cS h0 am a_all_m5 (p1 + 1) known_h0 thrown_h0 wrong_h0 lastEnd_h0 at_h0 bad_h0 levels_h0 least_h0 found_h0 size_m5 n_a_all_m5 b_a_all_m5  r15 k16) k_Mo_350 (by decide) ⟨Nat.le_of_ble_eq_true rfl, Nat.le_of_ble_eq_true rfl⟩ rfl 0 rfl [0, 1, 2] [] rfl (by decide) rfl (by decide) (by decide) rfl rfl (Nat.le_of_ble_eq_true rfl) d_Mo_isTarget_42 ⟨Nat.le_of_ble_eq_true rfl, Nat.le_of_ble_eq_true rfl⟩ (fun v w hq => ?_)
        obtain ⟨rfl, rfl⟩ := hq
        refine j_norm (pc' := 45) (st' := [.int r15]) (ws' := [(h0, .inr (9, moF am known_h0 thrown_h0 wrong_h0 lastEnd_h0 at_h0 bad_h0 levels_h0 least_h0 found_h0)), ((am 5), .inr (8, [.ref a_all_m5, .int size_m5])), (a_all_m5, .inl (cI, n_a_all_m5, .inl b_a_all_m5))]) (cl' := 0) (sl' := 0) rfl rfl rfl rfl rfl rfl ?_
        refine j_iload_n d_Mo_isTarget_45 rfl 2 rfl ?_
        refine j_iconst (v := 1) d_Mo_isTarget_46 (by decide) ?_
        refine j_isub d_Mo_isTarget_47 ?_
        refine j_icmp_ne (tgt := 58) d_Mo_isTarget_48 (by decide) (fun c17 => ?_) (fun c17 => ?_)
        · replace h := it_f c17 h
          refine j_iconst (v := 0) d_Mo_isTarget_58 (by decide) ?_
          replace h := Option.some.inj h
          subst h
          exact j_zret (w := [(h0, .inr (9, moF am known_h0 thrown_h0 wrong_h0 lastEnd_h0 at_h0 bad_h0 levels_h0 least_h0 found_h0)), ((am 5), .inr (8, [.ref a_all_m5, .int size_m5])), (a_all_m5, .inl (cI, n_a_all_m5, .inl b_a_all_m5))]) hr (zb_n zb0) d_Mo_isTarget_59 [0, 1, 2] rfl (by decide) ⟨rfl, zb0, rfl⟩
        · replace h := it_t c17 h
          refine j_iload_n d_Mo_isTarget_51 rfl 2 rfl ?_
          refine j_iload_n d_Mo_isTarget_52 rfl 1 rfl ?_
          refine j_iconst (v := 3) d_Mo_isTarget_53 (by decide) ?_
          refine j_iadd d_Mo_isTarget_54 ?_
          refine j_icmp_ne (tgt := 60) d_Mo_isTarget_55 (by decide) (fun c18 => ?_) (fun c18 => ?_)
          · replace h := it_f c18 h
            refine j_iconst (v := 0) d_Mo_isTarget_60 (by decide) ?_
            refine j_istore_n (lv' := [(3, .int 0), (0, .ref h0), (1, .int p1), (2, .int p2)]) d_Mo_isTarget_61 rfl (by decide) rfl ?_
            refine j_iconst (v := 0) d_Mo_isTarget_62 (by decide) ?_
            refine j_istore (lv' := [(4, .int 0), (3, .int 0), (0, .ref h0), (1, .int p1), (2, .int p2)]) d_Mo_isTarget_63 (by decide) rfl ?_
            refine j_iload_n d_Mo_isTarget_65 rfl 3 rfl ?_
            refine j_iconst (v := 1) d_Mo_isTarget_66 (by decide) ?_
            refine j_iadd d_Mo_isTarget_67 ?_
            refine j_istore (lv' := [(5, .int (p1 + 1)), (4, .int 0), (3, .int 0), (0, .ref h0), (1, .int p1), (2, .int p2)]) d_Mo_isTarget_68 (by decide) rfl ?_
            refine j_sub (w := [(h0, .inr (9, moF am known_h0 thrown_h0 wrong_h0 lastEnd_h0 at_h0 bad_h0 levels_h0 least_h0 found_h0)), ((am 5), .inr (8, [.ref a_all_m5, .int size_m5])), (a_all_m5, .inl (cI, n_a_all_m5, .inl b_a_all_m5))]) (lv' := [(5, .int (p1 + 1)), (4, .int 0), (3, .int 0), (0, .ref h0), (1, .int p1), (2, .int p2)]) [0, 1, 2] rfl (by decide) [0, 1, 2, 3, 4, 5] rfl ?_
            exact L_Mo_isTarget_70 l D cI cB cJ cS h0 am a_all_m5 p1 p2 known_h0 thrown_h0 wrong_h0 lastEnd_h0 at_h0 bad_h0 levels_h0 least_h0 found_h0 size_m5 n_a_all_m5 b_a_all_m5 ret p e s m below meth c hr hnm FU (p1 + 1) 0 0 h
          · replace h := it_t c18 h
            refine j_iconst (v := 0) d_Mo_isTarget_58 (by decide) ?_
            replace h := Option.some.inj h
            subst h
            exact j_zret (w := [(h0, .inr (9, moF am known_h0 thrown_h0 wrong_h0 lastEnd_h0 at_h0 bad_h0 levels_h0 least_h0 found_h0)), ((am 5), .inr (8, [.ref a_all_m5, .int size_m5])), (a_all_m5, .inl (cI, n_a_all_m5, .inl b_a_all_m5))]) hr (zb_n zb0) d_Mo_isTarget_59 [0, 1, 2] rfl (by decide) ⟨rfl, zb0, rfl⟩
    · replace h := it_t c12 h
      refine j_iconst (v := 1) d_Mo_isTarget_21 (by decide) ?_
      replace h := Option.some.inj h
      subst h
      exact j_zret (w := [(h0, .inr (9, moF am known_h0 thrown_h0 wrong_h0 lastEnd_h0 at_h0 bad_h0 levels_h0 least_h0 found_h0)), ((am 5), .inr (8, [.ref a_all_m5, .int size_m5])), (a_all_m5, .inl (cI, n_a_all_m5, .inl b_a_all_m5))]) hr (zb_n zb1) d_Mo_isTarget_22 [0, 1, 2] rfl (by decide) ⟨rfl, zb1, rfl⟩
  · replace h := it_f c11 h
    refine j_iconst (v := 0) d_Mo_isTarget_12 (by decide) ?_
    replace h := Option.some.inj h
    subst h
    exact j_zret (w := [(h0, .inr (9, moF am known_h0 thrown_h0 wrong_h0 lastEnd_h0 at_h0 bad_h0 levels_h0 least_h0 found_h0)), ((am 5), .inr (8, [.ref a_all_m5, .int size_m5])), (a_all_m5, .inl (cI, n_a_all_m5, .inl b_a_all_m5))]) hr (zb_n zb0) d_Mo_isTarget_13 [0, 1, 2] rfl (by decide) ⟨rfl, zb0, rfl⟩
