set_option maxRecDepth 20000 in
theorem m_78 : Cond.methodLink R_Nd 3 y_JO_init ∈ gG := gG_in (List.mem_append_right _ (List.mem_of_getElem? (i := 78) (by decide +kernel))) rfl
set_option maxRecDepth 20000 in
theorem m_29 : Cond.instanceMethod y_JO_init ∈ gG := gG_in (List.mem_append_right _ (List.mem_of_getElem? (i := 29) (by decide +kernel))) rfl
set_option maxRecDepth 20000 in
theorem m_79 : Cond.fieldLink R_Nd 11 R_Nd "cells" "[I" ∈ gG := gG_in (List.mem_append_right _ (List.mem_of_getElem? (i := 79) (by decide +kernel))) rfl
set_option maxRecDepth 20000 in
theorem m_80 : Cond.fieldLink R_Nd 15 R_Nd "count" "I" ∈ gG := gG_in (List.mem_append_right _ (List.mem_of_getElem? (i := 80) (by decide +kernel))) rfl
set_option maxRecDepth 20000 in
theorem m_86 : Cond.arrayClass Jvm.ClassFile.FieldType.int ∈ gG := gG_in (List.mem_append_right _ (List.mem_of_getElem? (i := 86) (by decide +kernel))) rfl
set_option maxRecDepth 20000 in
theorem mc_Nd_get : Cond.code y_Nd_get prog_4_method_3_code 3 (Option.some Jvm.ClassFile.FieldType.int) ∈ gG := gG_in (List.mem_append_right _ (List.mem_of_getElem? (i := 470) rfl)) rfl
set_option maxRecDepth 20000 in
theorem m_467 : Cond.methodLink R_Nd 19 y_Nd_get ∈ gG := gG_in (List.mem_append_right _ (List.mem_of_getElem? (i := 467) (by decide +kernel))) rfl
set_option maxRecDepth 20000 in
theorem m_468 : Cond.instanceMethod y_Nd_get ∈ gG := gG_in (List.mem_append_right _ (List.mem_of_getElem? (i := 468) (by decide +kernel))) rfl
set_option maxRecDepth 20000 in
theorem m_469 : Cond.selects R_Nd y_Nd_get y_Nd_get ∈ gG := gG_in (List.mem_append_right _ (List.mem_of_getElem? (i := 469) (by decide +kernel))) rfl
set_option maxRecDepth 20000 in
theorem m_5 : Cond.initialized R_Nd ∈ gG := gG_in (List.mem_append_right _ (List.mem_of_getElem? (i := 5) (by decide +kernel))) rfl
set_option maxRecDepth 20000 in
theorem m_457 : Cond.constant R_Nd 25 114695 ∈ gG := gG_in (List.mem_append_right _ (List.mem_of_getElem? (i := 457) (by decide +kernel))) rfl
set_option maxRecDepth 20000 in
theorem m_458 : Cond.methodLink R_Nd 26 y_JM_min ∈ gG := gG_in (List.mem_append_right _ (List.mem_of_getElem? (i := 458) (by decide +kernel))) rfl
set_option maxRecDepth 20000 in
theorem m_293 : Cond.static y_JM_min ∈ gG := gG_in (List.mem_append_right _ (List.mem_of_getElem? (i := 293) (by decide +kernel))) rfl
set_option maxRecDepth 20000 in
theorem m_12 : Cond.initialized R_JM ∈ gG := gG_in (List.mem_append_right _ (List.mem_of_getElem? (i := 12) (by decide +kernel))) rfl
set_option maxRecDepth 20000 in
theorem mc_Nd_clear : Cond.code y_Nd_clear prog_4_method_8_code 1 (Option.none : Option Jvm.ClassFile.FieldType) ∈ gG := gG_in (List.mem_append_right _ (List.mem_of_getElem? (i := 317) rfl)) rfl
set_option maxRecDepth 20000 in
theorem m_804 : Cond.methodLink R_Nd 41 y_Nd_clear ∈ gG := gG_in (List.mem_append_right _ (List.mem_of_getElem? (i := 804) (by decide +kernel))) rfl
set_option maxRecDepth 20000 in
theorem m_315 : Cond.instanceMethod y_Nd_clear ∈ gG := gG_in (List.mem_append_right _ (List.mem_of_getElem? (i := 315) (by decide +kernel))) rfl
set_option maxRecDepth 20000 in
theorem m_316 : Cond.selects R_Nd y_Nd_clear y_Nd_clear ∈ gG := gG_in (List.mem_append_right _ (List.mem_of_getElem? (i := 316) (by decide +kernel))) rfl
set_option maxRecDepth 20000 in
theorem mc_Nd_set : Cond.code y_Nd_set prog_4_method_4_code 4 (Option.none : Option Jvm.ClassFile.FieldType) ∈ gG := gG_in (List.mem_append_right _ (List.mem_of_getElem? (i := 809) rfl)) rfl
set_option maxRecDepth 20000 in
theorem m_806 : Cond.methodLink R_Nd 48 y_Nd_set ∈ gG := gG_in (List.mem_append_right _ (List.mem_of_getElem? (i := 806) (by decide +kernel))) rfl
set_option maxRecDepth 20000 in
theorem m_808 : Cond.instanceMethod y_Nd_set ∈ gG := gG_in (List.mem_append_right _ (List.mem_of_getElem? (i := 808) (by decide +kernel))) rfl
set_option maxRecDepth 20000 in
theorem ms_74 : Cond.selects R_Nd y_Nd_set y_Nd_set ∈ gG := gG_in (List.mem_append_left _ (List.mem_of_getElem? (i := 74) (by decide +kernel))) rfl
set_option maxRecDepth 20000 in
theorem mc_Nd_after : Cond.code y_Nd_after prog_4_method_6_code 2 (Option.some Jvm.ClassFile.FieldType.int) ∈ gG := gG_in (List.mem_append_right _ (List.mem_of_getElem? (i := 817) rfl)) rfl
set_option maxRecDepth 20000 in
theorem m_814 : Cond.methodLink R_Nd 55 y_Nd_after ∈ gG := gG_in (List.mem_append_right _ (List.mem_of_getElem? (i := 814) (by decide +kernel))) rfl
set_option maxRecDepth 20000 in
theorem m_815 : Cond.instanceMethod y_Nd_after ∈ gG := gG_in (List.mem_append_right _ (List.mem_of_getElem? (i := 815) (by decide +kernel))) rfl
set_option maxRecDepth 20000 in
theorem m_816 : Cond.selects R_Nd y_Nd_after y_Nd_after ∈ gG := gG_in (List.mem_append_right _ (List.mem_of_getElem? (i := 816) (by decide +kernel))) rfl
set_option maxRecDepth 20000 in
theorem m_48 : Cond.methodLink R_Rw 3 y_JO_init ∈ gG := gG_in (List.mem_append_right _ (List.mem_of_getElem? (i := 48) (by decide +kernel))) rfl
set_option maxRecDepth 20000 in
theorem m_49 : Cond.fieldLink R_Rw 11 R_Rw "bytes" "[B" ∈ gG := gG_in (List.mem_append_right _ (List.mem_of_getElem? (i := 49) (by decide +kernel))) rfl
set_option maxRecDepth 20000 in
theorem m_50 : Cond.fieldLink R_Rw 15 R_Rw "size" "I" ∈ gG := gG_in (List.mem_append_right _ (List.mem_of_getElem? (i := 50) (by decide +kernel))) rfl
set_option maxRecDepth 20000 in
theorem m_56 : Cond.arrayClass Jvm.ClassFile.FieldType.byte ∈ gG := gG_in (List.mem_append_right _ (List.mem_of_getElem? (i := 56) (by decide +kernel))) rfl
set_option maxRecDepth 20000 in
theorem m_281 : Cond.constant R_Rw 19 65536 ∈ gG := gG_in (List.mem_append_right _ (List.mem_of_getElem? (i := 281) (by decide +kernel))) rfl
set_option maxRecDepth 20000 in
theorem mc_Rw_at : Cond.code y_Rw_at prog_7_method_3_code 2 (Option.some Jvm.ClassFile.FieldType.int) ∈ gG := gG_in (List.mem_append_right _ (List.mem_of_getElem? (i := 338) rfl)) rfl
set_option maxRecDepth 20000 in
theorem m_731 : Cond.methodLink R_Rw 30 y_Rw_at ∈ gG := gG_in (List.mem_append_right _ (List.mem_of_getElem? (i := 731) (by decide +kernel))) rfl
set_option maxRecDepth 20000 in
theorem m_336 : Cond.instanceMethod y_Rw_at ∈ gG := gG_in (List.mem_append_right _ (List.mem_of_getElem? (i := 336) (by decide +kernel))) rfl
set_option maxRecDepth 20000 in
theorem m_337 : Cond.selects R_Rw y_Rw_at y_Rw_at ∈ gG := gG_in (List.mem_append_right _ (List.mem_of_getElem? (i := 337) (by decide +kernel))) rfl
set_option maxRecDepth 20000 in
theorem m_4 : Cond.initialized R_Rw ∈ gG := gG_in (List.mem_append_right _ (List.mem_of_getElem? (i := 4) (by decide +kernel))) rfl
set_option maxRecDepth 20000 in
theorem m_92 : Cond.methodLink R_Tk 3 y_JO_init ∈ gG := gG_in (List.mem_append_right _ (List.mem_of_getElem? (i := 92) (by decide +kernel))) rfl
set_option maxRecDepth 20000 in
theorem m_93 : Cond.fieldLink R_Tk 11 R_Tk "cells" "[I" ∈ gG := gG_in (List.mem_append_right _ (List.mem_of_getElem? (i := 93) (by decide +kernel))) rfl
set_option maxRecDepth 20000 in
theorem m_94 : Cond.fieldLink R_Tk 15 R_Tk "count" "I" ∈ gG := gG_in (List.mem_append_right _ (List.mem_of_getElem? (i := 94) (by decide +kernel))) rfl
set_option maxRecDepth 20000 in
theorem mc_Tk_get : Cond.code y_Tk_get prog_9_method_6_code 3 (Option.some Jvm.ClassFile.FieldType.int) ∈ gG := gG_in (List.mem_append_right _ (List.mem_of_getElem? (i := 509) rfl)) rfl
set_option maxRecDepth 20000 in
theorem m_506 : Cond.methodLink R_Tk 25 y_Tk_get ∈ gG := gG_in (List.mem_append_right _ (List.mem_of_getElem? (i := 506) (by decide +kernel))) rfl
set_option maxRecDepth 20000 in
theorem m_507 : Cond.instanceMethod y_Tk_get ∈ gG := gG_in (List.mem_append_right _ (List.mem_of_getElem? (i := 507) (by decide +kernel))) rfl
set_option maxRecDepth 20000 in
theorem m_508 : Cond.selects R_Tk y_Tk_get y_Tk_get ∈ gG := gG_in (List.mem_append_right _ (List.mem_of_getElem? (i := 508) (by decide +kernel))) rfl
set_option maxRecDepth 20000 in
theorem m_6 : Cond.initialized R_Tk ∈ gG := gG_in (List.mem_append_right _ (List.mem_of_getElem? (i := 6) (by decide +kernel))) rfl
set_option maxRecDepth 20000 in
theorem m_1100 : Cond.methodLink R_Nm 1 y_JO_init ∈ gG := gG_in (List.mem_append_right _ (List.mem_of_getElem? (i := 1100) (by decide +kernel))) rfl
set_option maxRecDepth 20000 in
theorem m_1101 : Cond.fieldLink R_Nm 7 R_Nm "all" "[I" ∈ gG := gG_in (List.mem_append_right _ (List.mem_of_getElem? (i := 1101) (by decide +kernel))) rfl
set_option maxRecDepth 20000 in
theorem m_1103 : Cond.fieldLink R_Nm 13 R_Nm "size" "I" ∈ gG := gG_in (List.mem_append_right _ (List.mem_of_getElem? (i := 1103) (by decide +kernel))) rfl
set_option maxRecDepth 20000 in
theorem mc_Nm_add : Cond.code y_Nm_add prog_13_method_2_code 4 (Option.none : Option Jvm.ClassFile.FieldType) ∈ gG := gG_in (List.mem_append_right _ (List.mem_of_getElem? (i := 1247) rfl)) rfl
set_option maxRecDepth 20000 in
theorem m_1264 : Cond.methodLink R_Nm 17 y_Nm_add ∈ gG := gG_in (List.mem_append_right _ (List.mem_of_getElem? (i := 1264) (by decide +kernel))) rfl
set_option maxRecDepth 20000 in
theorem m_1245 : Cond.instanceMethod y_Nm_add ∈ gG := gG_in (List.mem_append_right _ (List.mem_of_getElem? (i := 1245) (by decide +kernel))) rfl
set_option maxRecDepth 20000 in
theorem m_1246 : Cond.selects R_Nm y_Nm_add y_Nm_add ∈ gG := gG_in (List.mem_append_right _ (List.mem_of_getElem? (i := 1246) (by decide +kernel))) rfl
set_option maxRecDepth 20000 in
theorem m_10 : Cond.initialized R_Nm ∈ gG := gG_in (List.mem_append_right _ (List.mem_of_getElem? (i := 10) (by decide +kernel))) rfl
theorem k_Nd_19 : GoodIn gG (wsV R_Nd 19 R_Nd y_Nd_get (.code y_Nd_get prog_4_method_3_code 3 (Option.some Jvm.ClassFile.FieldType.int) :: gG)) := gdV m_467 m_468 m_469 m_5 mc_Nd_get
theorem k_Nd_41 : GoodIn gG (wsV R_Nd 41 R_Nd y_Nd_clear (.code y_Nd_clear prog_4_method_8_code 1 (Option.none : Option Jvm.ClassFile.FieldType) :: gG)) := gdV m_804 m_315 m_316 m_5 mc_Nd_clear
theorem k_Nd_48 : GoodIn gG (wsV R_Nd 48 R_Nd y_Nd_set (.code y_Nd_set prog_4_method_4_code 4 (Option.none : Option Jvm.ClassFile.FieldType) :: gG)) := gdV m_806 m_808 ms_74 m_5 mc_Nd_set
theorem k_Nd_55 : GoodIn gG (wsV R_Nd 55 R_Nd y_Nd_after (.code y_Nd_after prog_4_method_6_code 2 (Option.some Jvm.ClassFile.FieldType.int) :: gG)) := gdV m_814 m_815 m_816 m_5 mc_Nd_after
theorem k_Rw_30 : GoodIn gG (wsV R_Rw 30 R_Rw y_Rw_at (.code y_Rw_at prog_7_method_3_code 2 (Option.some Jvm.ClassFile.FieldType.int) :: gG)) := gdV m_731 m_336 m_337 m_4 mc_Rw_at
theorem k_Tk_25 : GoodIn gG (wsV R_Tk 25 R_Tk y_Tk_get (.code y_Tk_get prog_9_method_6_code 3 (Option.some Jvm.ClassFile.FieldType.int) :: gG)) := gdV m_506 m_507 m_508 m_6 mc_Tk_get
theorem k_Nm_17 : GoodIn gG (wsV R_Nm 17 R_Nm y_Nm_add (.code y_Nm_add prog_13_method_2_code 4 (Option.none : Option Jvm.ClassFile.FieldType) :: gG)) := gdV m_1264 m_1245 m_1246 m_10 mc_Nm_add
noncomputable def F_Nd_init : Option ((Unit) × Nat × Nat) :=
  nwa 224 (some ((), 0, 0))
theorem d_Nd_init_0 : decode prog_4_method_1_code 0 = .ok (.aload_n 0, 1) := by decide +kernel
theorem d_Nd_init_1 : decode prog_4_method_1_code 1 = .ok (.invokespecial 3, 3) := by decide +kernel
theorem d_Nd_init_4 : decode prog_4_method_1_code 4 = .ok (.aload_n 0, 1) := by decide +kernel
theorem d_Nd_init_5 : decode prog_4_method_1_code 5 = .ok (.sipush 224, 3) := by decide +kernel
theorem d_Nd_init_8 : decode prog_4_method_1_code 8 = .ok (.newarray .int, 2) := by decide +kernel
theorem d_Nd_init_10 : decode prog_4_method_1_code 10 = .ok (.putfield 11, 3) := by decide +kernel
theorem d_Nd_init_13 : decode prog_4_method_1_code 13 = .ok (.aload_n 0, 1) := by decide +kernel
theorem d_Nd_init_14 : decode prog_4_method_1_code 14 = .ok (.iconst 0, 1) := by decide +kernel
theorem d_Nd_init_15 : decode prog_4_method_1_code 15 = .ok (.putfield 15, 3) := by decide +kernel
theorem d_Nd_init_18 : decode prog_4_method_1_code 18 = .ok (.return_, 1) := by decide +kernel
set_option maxHeartbeats 4000000 in
set_option maxRecDepth 100000 in
theorem c_Nd_init (l : Launch) (D : va_G) (cI cB cJ cS : ClassId) (h0 : Nat) (mc ms : Nat) (h : F_Nd_init  = some ((), mc, ms)) : Ct l D (gT cI cB cJ cS) y_Nd_init prog_4_method_1_code 1 (Option.none : Option Jvm.ClassFile.FieldType) 1 20 mc ms [.ref h0] [(h0, .inr (1, [.null, .int 0]))] (fun v w => ∃ nq_0_0 : Nat, v = none ∧ w = [(h0, .inr (1, [.ref nq_0_0, .int 0])), (nq_0_0, .inl (cI, 224, .inl (fun _ => 0)))]) := by
  refine Ct.mk (by decide) (Nat.le_of_ble_eq_true rfl) ?_
  intro p e s m below meth c hr hnm
  refine j_norm (pc' := 0) (lv' := [(0, .ref h0)]) (st' := []) (ws' := [(h0, .inr (1, [.null, .int 0]))]) (cl' := 0) (sl' := 0) rfl rfl rfl rfl rfl rfl ?_
  unfold F_Nd_init at h
  have hC : 0 + mc ≤ mc := by omega
  have hS : 0 + ms ≤ ms := by omega
  refine j_aload_n d_Nd_init_0 rfl 0 rfl ?_
  refine j_oinit m_78 m_29 mc_obj (Nat.le_of_ble_eq_true rfl) (Nat.le_of_ble_eq_true rfl) d_Nd_init_1 ?_
  refine j_aload_n d_Nd_init_4 rfl 0 rfl ?_
  refine j_sipush (v := 224) d_Nd_init_5 (by decide) ?_
  replace h := nwa_s h
  obtain ⟨i4, i5, C2, S3, h, e1, e2⟩ := h
  rw [show Int32.toNatClampNeg 224 = 224 by decide] at e2
  replace hC : 0 + 1 + C2 ≤ mc := by omega
  replace hS : 0 + 224 + S3 ≤ ms := by omega
  clear e1 e2
  refine j_newa (atype := .int) (ty := .int) (t0 := 0) (cA := cI) (a0 := (224, .inl (fun _ => 0))) m_86 rfl rfl (fun _ => rfl) i4 (by decide) (by decide) (show 0 + 1 ≤ mc by omega) (show 0 + 224 ≤ ms by omega) d_Nd_init_8 (fun q1 => ?_)
  refine j_norm (pc' := 10) (st' := [.ref q1, .ref h0]) (ws' := [(h0, .inr (1, [.null, .int 0])), (q1, .inl (cI, 224, .inl (fun _ => 0)))]) (cl' := 0 + 1) (sl' := 0 + 224) rfl rfl rfl rfl rfl rfl ?_
  refine j_put (ws' := [(h0, .inr (1, [.ref q1, .int 0])), (q1, .inl (cI, 224, .inl (fun _ => 0)))]) ig_Nd tk_Nd nm_Nd rfl 0 rfl 0 (by decide) rfl m_79 rfl (tk_Nd 0 (by decide)) rfl rfl (Nat.le_of_ble_eq_true rfl) d_Nd_init_10 rfl ?_
  refine j_aload_n d_Nd_init_13 rfl 0 rfl ?_
  refine j_iconst (v := 0) d_Nd_init_14 (by decide) ?_
  refine j_put (ws' := [(h0, .inr (1, [.ref q1, .int 0])), (q1, .inl (cI, 224, .inl (fun _ => 0)))]) ig_Nd tk_Nd nm_Nd rfl 0 rfl 1 (by decide) rfl m_80 rfl (tk_Nd 1 (by decide)) rfl rfl (Nat.le_of_ble_eq_true rfl) d_Nd_init_15 rfl ?_
  replace h := lf_s h
  obtain ⟨h, e1, e2⟩ := h
  refine j_widen (cl' := mc) (sl' := ms) (by omega) (by omega) ?_
  exact j_vret (w := [(h0, .inr (1, [.ref q1, .int 0])), (q1, .inl (cI, 224, .inl (fun _ => 0)))]) hr d_Nd_init_18 [0, 1] rfl (by decide) ⟨q1, rfl, rfl⟩
theorem d_Nd_count_0 : decode prog_4_method_2_code 0 = .ok (.aload_n 0, 1) := by decide +kernel
theorem d_Nd_count_1 : decode prog_4_method_2_code 1 = .ok (.getfield 15, 3) := by decide +kernel
theorem d_Nd_count_4 : decode prog_4_method_2_code 4 = .ok (.ireturn, 1) := by decide +kernel
set_option maxHeartbeats 4000000 in
set_option maxRecDepth 100000 in
theorem c_Nd_count (l : Launch) (D : va_G) (cI cB cJ cS : ClassId) (h0 : Nat) (a_cells_h0 : Nat) (count_h0 : Int32) : Ct l D (gT cI cB cJ cS) y_Nd_count prog_4_method_2_code 1 (Option.some Jvm.ClassFile.FieldType.int) 0 0 0 0 [.ref h0] [(h0, .inr (1, [.ref a_cells_h0, .int count_h0]))] (fun v w => v = some (.int count_h0) ∧ w = [(h0, .inr (1, [.ref a_cells_h0, .int count_h0]))]) := by
  refine Ct.mk (by decide) (Nat.le_of_ble_eq_true rfl) ?_
  intro p e s m below meth c hr hnm
  refine j_norm (pc' := 0) (lv' := [(0, .ref h0)]) (st' := []) (ws' := [(h0, .inr (1, [.ref a_cells_h0, .int count_h0]))]) (cl' := 0) (sl' := 0) rfl rfl rfl rfl rfl rfl ?_
  refine j_aload_n d_Nd_count_0 rfl 0 rfl ?_
  refine j_get ig_Nd rfl 0 rfl 1 (by decide) rfl m_80 rfl d_Nd_count_1 ?_
  exact j_iret (w := [(h0, .inr (1, [.ref a_cells_h0, .int count_h0]))]) hr d_Nd_count_4 [0] rfl (by decide) ⟨rfl, rfl⟩
def F_Nd_get (p1 : Int32) (p2 : Int32) (count_h0 : Int32) (n_a_cells_h0 : Nat) (b_a_cells_h0 : Nat → Int32) : Option (Int32) :=
  if p1 < 0 then (some (-1))
  else if count_h0 ≤ p1 then (some (-1))
  else if p2 < 0 then (some (-1))
  else if 7 ≤ p2 then (some (-1))
  else (inb ((p1 * 7) + p2) n_a_cells_h0 (some (b_a_cells_h0 (Int32.toNatClampNeg ((p1 * 7) + p2)))))
theorem d_Nd_get_0 : decode prog_4_method_3_code 0 = .ok (.iload_n 1, 1) := by decide +kernel
theorem d_Nd_get_1 : decode prog_4_method_3_code 1 = .ok (.ifCond .lt 35, 3) := by decide +kernel
theorem d_Nd_get_4 : decode prog_4_method_3_code 4 = .ok (.iload_n 1, 1) := by decide +kernel
theorem d_Nd_get_5 : decode prog_4_method_3_code 5 = .ok (.aload_n 0, 1) := by decide +kernel
theorem d_Nd_get_6 : decode prog_4_method_3_code 6 = .ok (.getfield 15, 3) := by decide +kernel
theorem d_Nd_get_9 : decode prog_4_method_3_code 9 = .ok (.if_icmp .ge 27, 3) := by decide +kernel
theorem d_Nd_get_12 : decode prog_4_method_3_code 12 = .ok (.iload_n 2, 1) := by decide +kernel
theorem d_Nd_get_13 : decode prog_4_method_3_code 13 = .ok (.ifCond .lt 23, 3) := by decide +kernel
theorem d_Nd_get_16 : decode prog_4_method_3_code 16 = .ok (.iload_n 2, 1) := by decide +kernel
theorem d_Nd_get_17 : decode prog_4_method_3_code 17 = .ok (.bipush 7, 2) := by decide +kernel
theorem d_Nd_get_19 : decode prog_4_method_3_code 19 = .ok (.if_icmp .ge 17, 3) := by decide +kernel
theorem d_Nd_get_22 : decode prog_4_method_3_code 22 = .ok (.aload_n 0, 1) := by decide +kernel
theorem d_Nd_get_23 : decode prog_4_method_3_code 23 = .ok (.getfield 11, 3) := by decide +kernel
theorem d_Nd_get_26 : decode prog_4_method_3_code 26 = .ok (.iload_n 1, 1) := by decide +kernel
theorem d_Nd_get_27 : decode prog_4_method_3_code 27 = .ok (.bipush 7, 2) := by decide +kernel
theorem d_Nd_get_29 : decode prog_4_method_3_code 29 = .ok (.imul, 1) := by decide +kernel
theorem d_Nd_get_30 : decode prog_4_method_3_code 30 = .ok (.iload_n 2, 1) := by decide +kernel
theorem d_Nd_get_31 : decode prog_4_method_3_code 31 = .ok (.iadd, 1) := by decide +kernel
theorem d_Nd_get_32 : decode prog_4_method_3_code 32 = .ok (.iaload, 1) := by decide +kernel
theorem d_Nd_get_33 : decode prog_4_method_3_code 33 = .ok (.goto 4, 3) := by decide +kernel
theorem d_Nd_get_36 : decode prog_4_method_3_code 36 = .ok (.iconst (-1), 1) := by decide +kernel
theorem d_Nd_get_37 : decode prog_4_method_3_code 37 = .ok (.ireturn, 1) := by decide +kernel
set_option maxHeartbeats 4000000 in
set_option maxRecDepth 100000 in
theorem c_Nd_get (l : Launch) (D : va_G) (cI cB cJ cS : ClassId) (h0 : Nat) (a_cells_h0 : Nat) (p1 : Int32) (p2 : Int32) (count_h0 : Int32) (n_a_cells_h0 : Nat) (b_a_cells_h0 : Nat → Int32) (ret : Int32) (h : F_Nd_get p1 p2 count_h0 n_a_cells_h0 b_a_cells_h0 = some ret) : Ct l D (gT cI cB cJ cS) y_Nd_get prog_4_method_3_code 3 (Option.some Jvm.ClassFile.FieldType.int) 0 0 0 0 [.ref h0, .int p1, .int p2] [(h0, .inr (1, [.ref a_cells_h0, .int count_h0])), (a_cells_h0, .inl (cI, n_a_cells_h0, .inl b_a_cells_h0))] (fun v w => v = some (.int ret) ∧ w = [(h0, .inr (1, [.ref a_cells_h0, .int count_h0])), (a_cells_h0, .inl (cI, n_a_cells_h0, .inl b_a_cells_h0))]) := by
  refine Ct.mk (by decide) (Nat.le_of_ble_eq_true rfl) ?_
  intro p e s m below meth c hr hnm
  refine j_norm (pc' := 0) (lv' := [(0, .ref h0), (1, .int p1), (2, .int p2)]) (st' := []) (ws' := [(h0, .inr (1, [.ref a_cells_h0, .int count_h0])), (a_cells_h0, .inl (cI, n_a_cells_h0, .inl b_a_cells_h0))]) (cl' := 0) (sl' := 0) rfl rfl rfl rfl rfl rfl ?_
  unfold F_Nd_get at h
  refine j_iload_n d_Nd_get_0 rfl 1 rfl ?_
  refine j_if_lt (tgt := 36) d_Nd_get_1 (by decide) (fun c1 => ?_) (fun c1 => ?_)
  · replace h := it_t c1 h
    refine j_iconst (v := (-1)) d_Nd_get_36 (by decide) ?_
    replace h := Option.some.inj h
    subst h
    exact j_iret (w := [(h0, .inr (1, [.ref a_cells_h0, .int count_h0])), (a_cells_h0, .inl (cI, n_a_cells_h0, .inl b_a_cells_h0))]) hr d_Nd_get_37 [0, 1] rfl (by decide) ⟨rfl, rfl⟩
  · replace h := it_f c1 h
    refine j_iload_n d_Nd_get_4 rfl 1 rfl ?_
    refine j_aload_n d_Nd_get_5 rfl 0 rfl ?_
    refine j_get ig_Nd rfl 0 rfl 1 (by decide) rfl m_80 rfl d_Nd_get_6 ?_
    refine j_icmp_ge (tgt := 36) d_Nd_get_9 (by decide) (fun c2 => ?_) (fun c2 => ?_)
    · replace h := it_t c2 h
      refine j_iconst (v := (-1)) d_Nd_get_36 (by decide) ?_
      replace h := Option.some.inj h
      subst h
      exact j_iret (w := [(h0, .inr (1, [.ref a_cells_h0, .int count_h0])), (a_cells_h0, .inl (cI, n_a_cells_h0, .inl b_a_cells_h0))]) hr d_Nd_get_37 [0, 1] rfl (by decide) ⟨rfl, rfl⟩
    · replace h := it_f c2 h
      refine j_iload_n d_Nd_get_12 rfl 2 rfl ?_
      refine j_if_lt (tgt := 36) d_Nd_get_13 (by decide) (fun c3 => ?_) (fun c3 => ?_)
      · replace h := it_t c3 h
        refine j_iconst (v := (-1)) d_Nd_get_36 (by decide) ?_
        replace h := Option.some.inj h
        subst h
        exact j_iret (w := [(h0, .inr (1, [.ref a_cells_h0, .int count_h0])), (a_cells_h0, .inl (cI, n_a_cells_h0, .inl b_a_cells_h0))]) hr d_Nd_get_37 [0, 1] rfl (by decide) ⟨rfl, rfl⟩
      · replace h := it_f c3 h
        refine j_iload_n d_Nd_get_16 rfl 2 rfl ?_
        refine j_bipush (v := 7) d_Nd_get_17 (by decide) ?_
        refine j_icmp_ge (tgt := 36) d_Nd_get_19 (by decide) (fun c4 => ?_) (fun c4 => ?_)
        · replace h := it_t c4 h
          refine j_iconst (v := (-1)) d_Nd_get_36 (by decide) ?_
          replace h := Option.some.inj h
          subst h
          exact j_iret (w := [(h0, .inr (1, [.ref a_cells_h0, .int count_h0])), (a_cells_h0, .inl (cI, n_a_cells_h0, .inl b_a_cells_h0))]) hr d_Nd_get_37 [0, 1] rfl (by decide) ⟨rfl, rfl⟩
        · replace h := it_f c4 h
          refine j_aload_n d_Nd_get_22 rfl 0 rfl ?_
          refine j_get ig_Nd rfl 0 rfl 0 (by decide) rfl m_79 rfl d_Nd_get_23 ?_
          refine j_iload_n d_Nd_get_26 rfl 1 rfl ?_
          refine j_bipush (v := 7) d_Nd_get_27 (by decide) ?_
          refine j_imul d_Nd_get_29 ?_
          refine j_iload_n d_Nd_get_30 rfl 2 rfl ?_
          refine j_iadd d_Nd_get_31 ?_
          replace h := inb_s h
          obtain ⟨i5, h⟩ := h
          refine j_iald (t0 := 0) 1 rfl rfl i5 d_Nd_get_32 ?_
          refine j_goto (tgt := 37) d_Nd_get_33 (by decide) ?_
          replace h := Option.some.inj h
          subst h
          exact j_iret (w := [(h0, .inr (1, [.ref a_cells_h0, .int count_h0])), (a_cells_h0, .inl (cI, n_a_cells_h0, .inl b_a_cells_h0))]) hr d_Nd_get_37 [0, 1] rfl (by decide) ⟨rfl, rfl⟩
def F_Nd_set (p1 : Int32) (p2 : Int32) (p3 : Int32) (count_h0 : Int32) (n_a_cells_h0 : Nat) (b_a_cells_h0 : Nat → Int32) : Option ((Nat → Int32)) :=
  if p1 < 0 then (some b_a_cells_h0)
  else if count_h0 ≤ p1 then (some b_a_cells_h0)
  else if p2 < 0 then (some b_a_cells_h0)
  else if 7 ≤ p2 then (some b_a_cells_h0)
  else (inb ((p1 * 7) + p2) n_a_cells_h0 (some (upd b_a_cells_h0 (Int32.toNatClampNeg ((p1 * 7) + p2)) p3)))
theorem d_Nd_set_0 : decode prog_4_method_4_code 0 = .ok (.iload_n 1, 1) := by decide +kernel
theorem d_Nd_set_1 : decode prog_4_method_4_code 1 = .ok (.ifCond .lt 33, 3) := by decide +kernel
theorem d_Nd_set_4 : decode prog_4_method_4_code 4 = .ok (.iload_n 1, 1) := by decide +kernel
theorem d_Nd_set_5 : decode prog_4_method_4_code 5 = .ok (.aload_n 0, 1) := by decide +kernel
theorem d_Nd_set_6 : decode prog_4_method_4_code 6 = .ok (.getfield 15, 3) := by decide +kernel
theorem d_Nd_set_9 : decode prog_4_method_4_code 9 = .ok (.if_icmp .ge 25, 3) := by decide +kernel
theorem d_Nd_set_12 : decode prog_4_method_4_code 12 = .ok (.iload_n 2, 1) := by decide +kernel
theorem d_Nd_set_13 : decode prog_4_method_4_code 13 = .ok (.ifCond .lt 21, 3) := by decide +kernel
theorem d_Nd_set_16 : decode prog_4_method_4_code 16 = .ok (.iload_n 2, 1) := by decide +kernel
theorem d_Nd_set_17 : decode prog_4_method_4_code 17 = .ok (.bipush 7, 2) := by decide +kernel
theorem d_Nd_set_19 : decode prog_4_method_4_code 19 = .ok (.if_icmp .ge 15, 3) := by decide +kernel
theorem d_Nd_set_22 : decode prog_4_method_4_code 22 = .ok (.aload_n 0, 1) := by decide +kernel
theorem d_Nd_set_23 : decode prog_4_method_4_code 23 = .ok (.getfield 11, 3) := by decide +kernel
theorem d_Nd_set_26 : decode prog_4_method_4_code 26 = .ok (.iload_n 1, 1) := by decide +kernel
theorem d_Nd_set_27 : decode prog_4_method_4_code 27 = .ok (.bipush 7, 2) := by decide +kernel
theorem d_Nd_set_29 : decode prog_4_method_4_code 29 = .ok (.imul, 1) := by decide +kernel
theorem d_Nd_set_30 : decode prog_4_method_4_code 30 = .ok (.iload_n 2, 1) := by decide +kernel
theorem d_Nd_set_31 : decode prog_4_method_4_code 31 = .ok (.iadd, 1) := by decide +kernel
theorem d_Nd_set_32 : decode prog_4_method_4_code 32 = .ok (.iload_n 3, 1) := by decide +kernel
theorem d_Nd_set_33 : decode prog_4_method_4_code 33 = .ok (.iastore, 1) := by decide +kernel
theorem d_Nd_set_34 : decode prog_4_method_4_code 34 = .ok (.return_, 1) := by decide +kernel
set_option maxHeartbeats 4000000 in
set_option maxRecDepth 100000 in
theorem c_Nd_set (l : Launch) (D : va_G) (cI cB cJ cS : ClassId) (h0 : Nat) (a_cells_h0 : Nat) (p1 : Int32) (p2 : Int32) (p3 : Int32) (count_h0 : Int32) (n_a_cells_h0 : Nat) (b_a_cells_h0 : Nat → Int32) (ob_1 : Nat → Int32) (h : F_Nd_set p1 p2 p3 count_h0 n_a_cells_h0 b_a_cells_h0 = some ob_1) : Ct l D (gT cI cB cJ cS) y_Nd_set prog_4_method_4_code 4 (Option.none : Option Jvm.ClassFile.FieldType) 0 0 0 0 [.ref h0, .int p1, .int p2, .int p3] [(h0, .inr (1, [.ref a_cells_h0, .int count_h0])), (a_cells_h0, .inl (cI, n_a_cells_h0, .inl b_a_cells_h0))] (fun v w => v = none ∧ w = [(h0, .inr (1, [.ref a_cells_h0, .int count_h0])), (a_cells_h0, .inl (cI, n_a_cells_h0, .inl ob_1))]) := by
  refine Ct.mk (by decide) (Nat.le_of_ble_eq_true rfl) ?_
  intro p e s m below meth c hr hnm
  refine j_norm (pc' := 0) (lv' := [(0, .ref h0), (1, .int p1), (2, .int p2), (3, .int p3)]) (st' := []) (ws' := [(h0, .inr (1, [.ref a_cells_h0, .int count_h0])), (a_cells_h0, .inl (cI, n_a_cells_h0, .inl b_a_cells_h0))]) (cl' := 0) (sl' := 0) rfl rfl rfl rfl rfl rfl ?_
  unfold F_Nd_set at h
  refine j_iload_n d_Nd_set_0 rfl 1 rfl ?_
  refine j_if_lt (tgt := 34) d_Nd_set_1 (by decide) (fun c1 => ?_) (fun c1 => ?_)
  · replace h := it_t c1 h
    replace h := Option.some.inj h
    subst h
    exact j_vret (w := [(h0, .inr (1, [.ref a_cells_h0, .int count_h0])), (a_cells_h0, .inl (cI, n_a_cells_h0, .inl b_a_cells_h0))]) hr d_Nd_set_34 [0, 1] rfl (by decide) ⟨rfl, rfl⟩
  · replace h := it_f c1 h
    refine j_iload_n d_Nd_set_4 rfl 1 rfl ?_
    refine j_aload_n d_Nd_set_5 rfl 0 rfl ?_
    refine j_get ig_Nd rfl 0 rfl 1 (by decide) rfl m_80 rfl d_Nd_set_6 ?_
    refine j_icmp_ge (tgt := 34) d_Nd_set_9 (by decide) (fun c2 => ?_) (fun c2 => ?_)
    · replace h := it_t c2 h
      replace h := Option.some.inj h
      subst h
      exact j_vret (w := [(h0, .inr (1, [.ref a_cells_h0, .int count_h0])), (a_cells_h0, .inl (cI, n_a_cells_h0, .inl b_a_cells_h0))]) hr d_Nd_set_34 [0, 1] rfl (by decide) ⟨rfl, rfl⟩
    · replace h := it_f c2 h
      refine j_iload_n d_Nd_set_12 rfl 2 rfl ?_
      refine j_if_lt (tgt := 34) d_Nd_set_13 (by decide) (fun c3 => ?_) (fun c3 => ?_)
      · replace h := it_t c3 h
        replace h := Option.some.inj h
        subst h
        exact j_vret (w := [(h0, .inr (1, [.ref a_cells_h0, .int count_h0])), (a_cells_h0, .inl (cI, n_a_cells_h0, .inl b_a_cells_h0))]) hr d_Nd_set_34 [0, 1] rfl (by decide) ⟨rfl, rfl⟩
      · replace h := it_f c3 h
        refine j_iload_n d_Nd_set_16 rfl 2 rfl ?_
        refine j_bipush (v := 7) d_Nd_set_17 (by decide) ?_
        refine j_icmp_ge (tgt := 34) d_Nd_set_19 (by decide) (fun c4 => ?_) (fun c4 => ?_)
        · replace h := it_t c4 h
          replace h := Option.some.inj h
          subst h
          exact j_vret (w := [(h0, .inr (1, [.ref a_cells_h0, .int count_h0])), (a_cells_h0, .inl (cI, n_a_cells_h0, .inl b_a_cells_h0))]) hr d_Nd_set_34 [0, 1] rfl (by decide) ⟨rfl, rfl⟩
        · replace h := it_f c4 h
          refine j_aload_n d_Nd_set_22 rfl 0 rfl ?_
          refine j_get ig_Nd rfl 0 rfl 0 (by decide) rfl m_79 rfl d_Nd_set_23 ?_
          refine j_iload_n d_Nd_set_26 rfl 1 rfl ?_
          refine j_bipush (v := 7) d_Nd_set_27 (by decide) ?_
          refine j_imul d_Nd_set_29 ?_
          refine j_iload_n d_Nd_set_30 rfl 2 rfl ?_
          refine j_iadd d_Nd_set_31 ?_
          refine j_iload_n d_Nd_set_32 rfl 3 rfl ?_
          replace h := inb_s h
          obtain ⟨i5, h⟩ := h
          refine j_iast (t0 := 0) (ws' := [(h0, .inr (1, [.ref a_cells_h0, .int count_h0])), (a_cells_h0, .inl (cI, n_a_cells_h0, .inl (upd b_a_cells_h0 (Int32.toNatClampNeg ((p1 * 7) + p2)) p3)))]) 1 rfl rfl i5 d_Nd_set_33 rfl ?_
          replace h := Option.some.inj h
          subst h
          exact j_vret (w := [(h0, .inr (1, [.ref a_cells_h0, .int count_h0])), (a_cells_h0, .inl (cI, n_a_cells_h0, .inl (upd b_a_cells_h0 (Int32.toNatClampNeg ((p1 * 7) + p2)) p3)))]) hr d_Nd_set_34 [0, 1] rfl (by decide) ⟨rfl, rfl⟩
def F_Nd_last (p1 : Int32) (count_h0 : Int32) (n_a_cells_h0 : Nat) (b_a_cells_h0 : Nat → Int32) : Option (Int32) :=
  Option.bind (F_Nd_get (count_h0 - 1) p1 count_h0 n_a_cells_h0 b_a_cells_h0) fun r1 =>
  (some r1)
theorem d_Nd_last_0 : decode prog_4_method_5_code 0 = .ok (.aload_n 0, 1) := by decide +kernel
theorem d_Nd_last_1 : decode prog_4_method_5_code 1 = .ok (.aload_n 0, 1) := by decide +kernel
theorem d_Nd_last_2 : decode prog_4_method_5_code 2 = .ok (.getfield 15, 3) := by decide +kernel
theorem d_Nd_last_5 : decode prog_4_method_5_code 5 = .ok (.iconst 1, 1) := by decide +kernel
theorem d_Nd_last_6 : decode prog_4_method_5_code 6 = .ok (.isub, 1) := by decide +kernel
theorem d_Nd_last_7 : decode prog_4_method_5_code 7 = .ok (.iload_n 1, 1) := by decide +kernel
theorem d_Nd_last_8 : decode prog_4_method_5_code 8 = .ok (.invokevirtual 19, 3) := by decide +kernel
theorem d_Nd_last_11 : decode prog_4_method_5_code 11 = .ok (.ireturn, 1) := by decide +kernel
set_option maxHeartbeats 4000000 in
set_option maxRecDepth 100000 in
theorem c_Nd_last (l : Launch) (D : va_G) (cI cB cJ cS : ClassId) (h0 : Nat) (a_cells_h0 : Nat) (p1 : Int32) (count_h0 : Int32) (n_a_cells_h0 : Nat) (b_a_cells_h0 : Nat → Int32) (ret : Int32) (h : F_Nd_last p1 count_h0 n_a_cells_h0 b_a_cells_h0 = some ret) : Ct l D (gT cI cB cJ cS) y_Nd_last prog_4_method_5_code 2 (Option.some Jvm.ClassFile.FieldType.int) 1 22 0 0 [.ref h0, .int p1] [(h0, .inr (1, [.ref a_cells_h0, .int count_h0])), (a_cells_h0, .inl (cI, n_a_cells_h0, .inl b_a_cells_h0))] (fun v w => v = some (.int ret) ∧ w = [(h0, .inr (1, [.ref a_cells_h0, .int count_h0])), (a_cells_h0, .inl (cI, n_a_cells_h0, .inl b_a_cells_h0))]) := by
  refine Ct.mk (by decide) (Nat.le_of_ble_eq_true rfl) ?_
  intro p e s m below meth c hr hnm
  refine j_norm (pc' := 0) (lv' := [(0, .ref h0), (1, .int p1)]) (st' := []) (ws' := [(h0, .inr (1, [.ref a_cells_h0, .int count_h0])), (a_cells_h0, .inl (cI, n_a_cells_h0, .inl b_a_cells_h0))]) (cl' := 0) (sl' := 0) rfl rfl rfl rfl rfl rfl ?_
  unfold F_Nd_last at h
  refine j_aload_n d_Nd_last_0 rfl 0 rfl ?_
  refine j_aload_n d_Nd_last_1 rfl 0 rfl ?_
  refine j_get ig_Nd rfl 0 rfl 1 (by decide) rfl m_80 rfl d_Nd_last_2 ?_
  refine j_iconst (v := 1) d_Nd_last_5 (by decide) ?_
  refine j_isub d_Nd_last_6 ?_
  refine j_iload_n d_Nd_last_7 rfl 1 rfl ?_
  replace h := bd_s h
  obtain ⟨r1, k2, h⟩ := h
  refine j_callV (n := 2) (As := [.int (count_h0 - 1), .int p1]) (rest := []) (wr := []) (c_Nd_get l D cI cB cJ cS h0 a_cells_h0 (count_h0 - 1) p1 count_h0 n_a_cells_h0 b_a_cells_h0  r1 k2) k_Nd_19 (by decide) ⟨Nat.le_of_ble_eq_true rfl, Nat.le_of_ble_eq_true rfl⟩ rfl 0 rfl [0, 1] [] rfl (by decide) rfl (by decide) (by decide) rfl rfl (Nat.le_of_ble_eq_true rfl) d_Nd_last_8 ⟨Nat.le_of_ble_eq_true rfl, Nat.le_of_ble_eq_true rfl⟩ (fun v w hq => ?_)
  obtain ⟨rfl, rfl⟩ := hq
  refine j_norm (pc' := 11) (st' := [.int r1]) (ws' := [(h0, .inr (1, [.ref a_cells_h0, .int count_h0])), (a_cells_h0, .inl (cI, n_a_cells_h0, .inl b_a_cells_h0))]) (cl' := 0) (sl' := 0) rfl rfl rfl rfl rfl rfl ?_
  replace h := Option.some.inj h
  subst h
  exact j_iret (w := [(h0, .inr (1, [.ref a_cells_h0, .int count_h0])), (a_cells_h0, .inl (cI, n_a_cells_h0, .inl b_a_cells_h0))]) hr d_Nd_last_11 [0, 1] rfl (by decide) ⟨rfl, rfl⟩
def F_Nd_after (p1 : Int32) (count_h0 : Int32) (n_a_cells_h0 : Nat) (b_a_cells_h0 : Nat → Int32) : Option (Int32) :=
  Option.bind (F_Nd_get p1 5 count_h0 n_a_cells_h0 b_a_cells_h0) fun r1 =>
  (some (p1 + r1))
theorem d_Nd_after_0 : decode prog_4_method_6_code 0 = .ok (.iload_n 1, 1) := by decide +kernel
theorem d_Nd_after_1 : decode prog_4_method_6_code 1 = .ok (.aload_n 0, 1) := by decide +kernel
theorem d_Nd_after_2 : decode prog_4_method_6_code 2 = .ok (.iload_n 1, 1) := by decide +kernel
theorem d_Nd_after_3 : decode prog_4_method_6_code 3 = .ok (.iconst 5, 1) := by decide +kernel
theorem d_Nd_after_4 : decode prog_4_method_6_code 4 = .ok (.invokevirtual 19, 3) := by decide +kernel
theorem d_Nd_after_7 : decode prog_4_method_6_code 7 = .ok (.iadd, 1) := by decide +kernel
theorem d_Nd_after_8 : decode prog_4_method_6_code 8 = .ok (.ireturn, 1) := by decide +kernel
set_option maxHeartbeats 4000000 in
set_option maxRecDepth 100000 in
theorem c_Nd_after (l : Launch) (D : va_G) (cI cB cJ cS : ClassId) (h0 : Nat) (a_cells_h0 : Nat) (p1 : Int32) (count_h0 : Int32) (n_a_cells_h0 : Nat) (b_a_cells_h0 : Nat → Int32) (ret : Int32) (h : F_Nd_after p1 count_h0 n_a_cells_h0 b_a_cells_h0 = some ret) : Ct l D (gT cI cB cJ cS) y_Nd_after prog_4_method_6_code 2 (Option.some Jvm.ClassFile.FieldType.int) 1 22 0 0 [.ref h0, .int p1] [(h0, .inr (1, [.ref a_cells_h0, .int count_h0])), (a_cells_h0, .inl (cI, n_a_cells_h0, .inl b_a_cells_h0))] (fun v w => v = some (.int ret) ∧ w = [(h0, .inr (1, [.ref a_cells_h0, .int count_h0])), (a_cells_h0, .inl (cI, n_a_cells_h0, .inl b_a_cells_h0))]) := by
  refine Ct.mk (by decide) (Nat.le_of_ble_eq_true rfl) ?_
  intro p e s m below meth c hr hnm
  refine j_norm (pc' := 0) (lv' := [(0, .ref h0), (1, .int p1)]) (st' := []) (ws' := [(h0, .inr (1, [.ref a_cells_h0, .int count_h0])), (a_cells_h0, .inl (cI, n_a_cells_h0, .inl b_a_cells_h0))]) (cl' := 0) (sl' := 0) rfl rfl rfl rfl rfl rfl ?_
  unfold F_Nd_after at h
  refine j_iload_n d_Nd_after_0 rfl 1 rfl ?_
  refine j_aload_n d_Nd_after_1 rfl 0 rfl ?_
  refine j_iload_n d_Nd_after_2 rfl 1 rfl ?_
  refine j_iconst (v := 5) d_Nd_after_3 (by decide) ?_
  replace h := bd_s h
  obtain ⟨r1, k2, h⟩ := h
  refine j_callV (n := 2) (As := [.int p1, .int 5]) (rest := [.int p1]) (wr := []) (c_Nd_get l D cI cB cJ cS h0 a_cells_h0 p1 5 count_h0 n_a_cells_h0 b_a_cells_h0  r1 k2) k_Nd_19 (by decide) ⟨Nat.le_of_ble_eq_true rfl, Nat.le_of_ble_eq_true rfl⟩ rfl 0 rfl [0, 1] [] rfl (by decide) rfl (by decide) (by decide) rfl rfl (Nat.le_of_ble_eq_true rfl) d_Nd_after_4 ⟨Nat.le_of_ble_eq_true rfl, Nat.le_of_ble_eq_true rfl⟩ (fun v w hq => ?_)
  obtain ⟨rfl, rfl⟩ := hq
  refine j_norm (pc' := 7) (st' := [.int r1, .int p1]) (ws' := [(h0, .inr (1, [.ref a_cells_h0, .int count_h0])), (a_cells_h0, .inl (cI, n_a_cells_h0, .inl b_a_cells_h0))]) (cl' := 0) (sl' := 0) rfl rfl rfl rfl rfl rfl ?_
  refine j_iadd d_Nd_after_7 ?_
  replace h := Option.some.inj h
  subst h
  exact j_iret (w := [(h0, .inr (1, [.ref a_cells_h0, .int count_h0])), (a_cells_h0, .inl (cI, n_a_cells_h0, .inl b_a_cells_h0))]) hr d_Nd_after_8 [0, 1] rfl (by decide) ⟨rfl, rfl⟩
def F_Nd_tokenPlace (p1 : Int32) (count_h0 : Int32) (n_a_cells_h0 : Nat) (b_a_cells_h0 : Nat → Int32) : Option (Int32) :=
  Option.bind (F_Nd_get p1 0 count_h0 n_a_cells_h0 b_a_cells_h0) fun r1 =>
  if r1 = 1 then (Option.bind (F_Nd_get (p1 + 1) 1 count_h0 n_a_cells_h0 b_a_cells_h0) fun r6 =>
    (some r6))
  else (Option.bind (F_Nd_get p1 1 count_h0 n_a_cells_h0 b_a_cells_h0) fun r4 =>
    (some r4))
theorem d_Nd_tokenPlace_0 : decode prog_4_method_7_code 0 = .ok (.aload_n 0, 1) := by decide +kernel
theorem d_Nd_tokenPlace_1 : decode prog_4_method_7_code 1 = .ok (.aload_n 0, 1) := by decide +kernel
theorem d_Nd_tokenPlace_2 : decode prog_4_method_7_code 2 = .ok (.iload_n 1, 1) := by decide +kernel
theorem d_Nd_tokenPlace_3 : decode prog_4_method_7_code 3 = .ok (.iconst 0, 1) := by decide +kernel
theorem d_Nd_tokenPlace_4 : decode prog_4_method_7_code 4 = .ok (.invokevirtual 19, 3) := by decide +kernel
theorem d_Nd_tokenPlace_7 : decode prog_4_method_7_code 7 = .ok (.iconst 1, 1) := by decide +kernel
theorem d_Nd_tokenPlace_8 : decode prog_4_method_7_code 8 = .ok (.if_icmp .ne 9, 3) := by decide +kernel
theorem d_Nd_tokenPlace_11 : decode prog_4_method_7_code 11 = .ok (.iload_n 1, 1) := by decide +kernel
theorem d_Nd_tokenPlace_12 : decode prog_4_method_7_code 12 = .ok (.iconst 1, 1) := by decide +kernel
theorem d_Nd_tokenPlace_13 : decode prog_4_method_7_code 13 = .ok (.iadd, 1) := by decide +kernel
theorem d_Nd_tokenPlace_14 : decode prog_4_method_7_code 14 = .ok (.goto 4, 3) := by decide +kernel
theorem d_Nd_tokenPlace_17 : decode prog_4_method_7_code 17 = .ok (.iload_n 1, 1) := by decide +kernel
theorem d_Nd_tokenPlace_18 : decode prog_4_method_7_code 18 = .ok (.iconst 1, 1) := by decide +kernel
theorem d_Nd_tokenPlace_19 : decode prog_4_method_7_code 19 = .ok (.invokevirtual 19, 3) := by decide +kernel
theorem d_Nd_tokenPlace_22 : decode prog_4_method_7_code 22 = .ok (.ireturn, 1) := by decide +kernel
set_option maxHeartbeats 4000000 in
set_option maxRecDepth 100000 in
theorem c_Nd_tokenPlace (l : Launch) (D : va_G) (cI cB cJ cS : ClassId) (h0 : Nat) (a_cells_h0 : Nat) (p1 : Int32) (count_h0 : Int32) (n_a_cells_h0 : Nat) (b_a_cells_h0 : Nat → Int32) (ret : Int32) (h : F_Nd_tokenPlace p1 count_h0 n_a_cells_h0 b_a_cells_h0 = some ret) : Ct l D (gT cI cB cJ cS) y_Nd_tokenPlace prog_4_method_7_code 2 (Option.some Jvm.ClassFile.FieldType.int) 1 22 0 0 [.ref h0, .int p1] [(h0, .inr (1, [.ref a_cells_h0, .int count_h0])), (a_cells_h0, .inl (cI, n_a_cells_h0, .inl b_a_cells_h0))] (fun v w => v = some (.int ret) ∧ w = [(h0, .inr (1, [.ref a_cells_h0, .int count_h0])), (a_cells_h0, .inl (cI, n_a_cells_h0, .inl b_a_cells_h0))]) := by
  refine Ct.mk (by decide) (Nat.le_of_ble_eq_true rfl) ?_
  intro p e s m below meth c hr hnm
  refine j_norm (pc' := 0) (lv' := [(0, .ref h0), (1, .int p1)]) (st' := []) (ws' := [(h0, .inr (1, [.ref a_cells_h0, .int count_h0])), (a_cells_h0, .inl (cI, n_a_cells_h0, .inl b_a_cells_h0))]) (cl' := 0) (sl' := 0) rfl rfl rfl rfl rfl rfl ?_
  unfold F_Nd_tokenPlace at h
  refine j_aload_n d_Nd_tokenPlace_0 rfl 0 rfl ?_
  refine j_aload_n d_Nd_tokenPlace_1 rfl 0 rfl ?_
  refine j_iload_n d_Nd_tokenPlace_2 rfl 1 rfl ?_
  refine j_iconst (v := 0) d_Nd_tokenPlace_3 (by decide) ?_
  replace h := bd_s h
  obtain ⟨r1, k2, h⟩ := h
  refine j_callV (n := 2) (As := [.int p1, .int 0]) (rest := [.ref h0]) (wr := []) (c_Nd_get l D cI cB cJ cS h0 a_cells_h0 p1 0 count_h0 n_a_cells_h0 b_a_cells_h0  r1 k2) k_Nd_19 (by decide) ⟨Nat.le_of_ble_eq_true rfl, Nat.le_of_ble_eq_true rfl⟩ rfl 0 rfl [0, 1] [] rfl (by decide) rfl (by decide) (by decide) rfl rfl (Nat.le_of_ble_eq_true rfl) d_Nd_tokenPlace_4 ⟨Nat.le_of_ble_eq_true rfl, Nat.le_of_ble_eq_true rfl⟩ (fun v w hq => ?_)
  obtain ⟨rfl, rfl⟩ := hq
  refine j_norm (pc' := 7) (st' := [.int r1, .ref h0]) (ws' := [(h0, .inr (1, [.ref a_cells_h0, .int count_h0])), (a_cells_h0, .inl (cI, n_a_cells_h0, .inl b_a_cells_h0))]) (cl' := 0) (sl' := 0) rfl rfl rfl rfl rfl rfl ?_
  refine j_iconst (v := 1) d_Nd_tokenPlace_7 (by decide) ?_
  refine j_icmp_ne (tgt := 17) d_Nd_tokenPlace_8 (by decide) (fun c3 => ?_) (fun c3 => ?_)
  · replace h := it_f c3 h
    refine j_iload_n d_Nd_tokenPlace_17 rfl 1 rfl ?_
    refine j_iconst (v := 1) d_Nd_tokenPlace_18 (by decide) ?_
    replace h := bd_s h
    obtain ⟨r4, k5, h⟩ := h
    refine j_callV (n := 2) (As := [.int p1, .int 1]) (rest := []) (wr := []) (c_Nd_get l D cI cB cJ cS h0 a_cells_h0 p1 1 count_h0 n_a_cells_h0 b_a_cells_h0  r4 k5) k_Nd_19 (by decide) ⟨Nat.le_of_ble_eq_true rfl, Nat.le_of_ble_eq_true rfl⟩ rfl 0 rfl [0, 1] [] rfl (by decide) rfl (by decide) (by decide) rfl rfl (Nat.le_of_ble_eq_true rfl) d_Nd_tokenPlace_19 ⟨Nat.le_of_ble_eq_true rfl, Nat.le_of_ble_eq_true rfl⟩ (fun v w hq => ?_)
    obtain ⟨rfl, rfl⟩ := hq
    refine j_norm (pc' := 22) (st' := [.int r4]) (ws' := [(h0, .inr (1, [.ref a_cells_h0, .int count_h0])), (a_cells_h0, .inl (cI, n_a_cells_h0, .inl b_a_cells_h0))]) (cl' := 0) (sl' := 0) rfl rfl rfl rfl rfl rfl ?_
    replace h := Option.some.inj h
    subst h
    exact j_iret (w := [(h0, .inr (1, [.ref a_cells_h0, .int count_h0])), (a_cells_h0, .inl (cI, n_a_cells_h0, .inl b_a_cells_h0))]) hr d_Nd_tokenPlace_22 [0, 1] rfl (by decide) ⟨rfl, rfl⟩
  · replace h := it_t c3 h
    refine j_iload_n d_Nd_tokenPlace_11 rfl 1 rfl ?_
    refine j_iconst (v := 1) d_Nd_tokenPlace_12 (by decide) ?_
    refine j_iadd d_Nd_tokenPlace_13 ?_
    refine j_goto (tgt := 18) d_Nd_tokenPlace_14 (by decide) ?_
    refine j_iconst (v := 1) d_Nd_tokenPlace_18 (by decide) ?_
    replace h := bd_s h
    obtain ⟨r6, k7, h⟩ := h
    refine j_callV (n := 2) (As := [.int (p1 + 1), .int 1]) (rest := []) (wr := []) (c_Nd_get l D cI cB cJ cS h0 a_cells_h0 (p1 + 1) 1 count_h0 n_a_cells_h0 b_a_cells_h0  r6 k7) k_Nd_19 (by decide) ⟨Nat.le_of_ble_eq_true rfl, Nat.le_of_ble_eq_true rfl⟩ rfl 0 rfl [0, 1] [] rfl (by decide) rfl (by decide) (by decide) rfl rfl (Nat.le_of_ble_eq_true rfl) d_Nd_tokenPlace_19 ⟨Nat.le_of_ble_eq_true rfl, Nat.le_of_ble_eq_true rfl⟩ (fun v w hq => ?_)
    obtain ⟨rfl, rfl⟩ := hq
    refine j_norm (pc' := 22) (st' := [.int r6]) (ws' := [(h0, .inr (1, [.ref a_cells_h0, .int count_h0])), (a_cells_h0, .inl (cI, n_a_cells_h0, .inl b_a_cells_h0))]) (cl' := 0) (sl' := 0) rfl rfl rfl rfl rfl rfl ?_
    replace h := Option.some.inj h
    subst h
    exact j_iret (w := [(h0, .inr (1, [.ref a_cells_h0, .int count_h0])), (a_cells_h0, .inl (cI, n_a_cells_h0, .inl b_a_cells_h0))]) hr d_Nd_tokenPlace_22 [0, 1] rfl (by decide) ⟨rfl, rfl⟩
theorem d_Nd_clear_0 : decode prog_4_method_8_code 0 = .ok (.aload_n 0, 1) := by decide +kernel
theorem d_Nd_clear_1 : decode prog_4_method_8_code 1 = .ok (.iconst 0, 1) := by decide +kernel
theorem d_Nd_clear_2 : decode prog_4_method_8_code 2 = .ok (.putfield 15, 3) := by decide +kernel
theorem d_Nd_clear_5 : decode prog_4_method_8_code 5 = .ok (.return_, 1) := by decide +kernel
set_option maxHeartbeats 4000000 in
set_option maxRecDepth 100000 in
theorem c_Nd_clear (l : Launch) (D : va_G) (cI cB cJ cS : ClassId) (h0 : Nat) (a_cells_h0 : Nat) (count_h0 : Int32) : Ct l D (gT cI cB cJ cS) y_Nd_clear prog_4_method_8_code 1 (Option.none : Option Jvm.ClassFile.FieldType) 0 0 0 0 [.ref h0] [(h0, .inr (1, [.ref a_cells_h0, .int count_h0]))] (fun v w => v = none ∧ w = [(h0, .inr (1, [.ref a_cells_h0, .int 0]))]) := by
  refine Ct.mk (by decide) (Nat.le_of_ble_eq_true rfl) ?_
  intro p e s m below meth c hr hnm
  refine j_norm (pc' := 0) (lv' := [(0, .ref h0)]) (st' := []) (ws' := [(h0, .inr (1, [.ref a_cells_h0, .int count_h0]))]) (cl' := 0) (sl' := 0) rfl rfl rfl rfl rfl rfl ?_
  refine j_aload_n d_Nd_clear_0 rfl 0 rfl ?_
  refine j_iconst (v := 0) d_Nd_clear_1 (by decide) ?_
  refine j_put (ws' := [(h0, .inr (1, [.ref a_cells_h0, .int 0]))]) ig_Nd tk_Nd nm_Nd rfl 0 rfl 1 (by decide) rfl m_80 rfl (tk_Nd 1 (by decide)) rfl rfl (Nat.le_of_ble_eq_true rfl) d_Nd_clear_2 rfl ?_
  exact j_vret (w := [(h0, .inr (1, [.ref a_cells_h0, .int 0]))]) hr d_Nd_clear_5 [0] rfl (by decide) ⟨rfl, rfl⟩
def F_Nd_dropLast (count_h0 : Int32) : (Int32) :=
  if count_h0 ≤ 0 then count_h0
  else (count_h0 - 1)
theorem d_Nd_dropLast_0 : decode prog_4_method_9_code 0 = .ok (.aload_n 0, 1) := by decide +kernel
theorem d_Nd_dropLast_1 : decode prog_4_method_9_code 1 = .ok (.getfield 15, 3) := by decide +kernel
theorem d_Nd_dropLast_4 : decode prog_4_method_9_code 4 = .ok (.ifCond .le 13, 3) := by decide +kernel
theorem d_Nd_dropLast_7 : decode prog_4_method_9_code 7 = .ok (.aload_n 0, 1) := by decide +kernel
theorem d_Nd_dropLast_8 : decode prog_4_method_9_code 8 = .ok (.dup, 1) := by decide +kernel
theorem d_Nd_dropLast_9 : decode prog_4_method_9_code 9 = .ok (.getfield 15, 3) := by decide +kernel
theorem d_Nd_dropLast_12 : decode prog_4_method_9_code 12 = .ok (.iconst 1, 1) := by decide +kernel
theorem d_Nd_dropLast_13 : decode prog_4_method_9_code 13 = .ok (.isub, 1) := by decide +kernel
theorem d_Nd_dropLast_14 : decode prog_4_method_9_code 14 = .ok (.putfield 15, 3) := by decide +kernel
theorem d_Nd_dropLast_17 : decode prog_4_method_9_code 17 = .ok (.return_, 1) := by decide +kernel
set_option maxHeartbeats 4000000 in
set_option maxRecDepth 100000 in
theorem c_Nd_dropLast (l : Launch) (D : va_G) (cI cB cJ cS : ClassId) (h0 : Nat) (a_cells_h0 : Nat) (count_h0 : Int32) (o_0_1 : Int32) (h : F_Nd_dropLast count_h0 = o_0_1) : Ct l D (gT cI cB cJ cS) y_Nd_dropLast prog_4_method_9_code 1 (Option.none : Option Jvm.ClassFile.FieldType) 0 0 0 0 [.ref h0] [(h0, .inr (1, [.ref a_cells_h0, .int count_h0]))] (fun v w => v = none ∧ w = [(h0, .inr (1, [.ref a_cells_h0, .int o_0_1]))]) := by
  refine Ct.mk (by decide) (Nat.le_of_ble_eq_true rfl) ?_
  intro p e s m below meth c hr hnm
  refine j_norm (pc' := 0) (lv' := [(0, .ref h0)]) (st' := []) (ws' := [(h0, .inr (1, [.ref a_cells_h0, .int count_h0]))]) (cl' := 0) (sl' := 0) rfl rfl rfl rfl rfl rfl ?_
  unfold F_Nd_dropLast at h
  refine j_aload_n d_Nd_dropLast_0 rfl 0 rfl ?_
  refine j_get ig_Nd rfl 0 rfl 1 (by decide) rfl m_80 rfl d_Nd_dropLast_1 ?_
  refine j_if_le (tgt := 17) d_Nd_dropLast_4 (by decide) (fun c1 => ?_) (fun c1 => ?_)
  · replace h := it_t c1 h
    subst h
    exact j_vret (w := [(h0, .inr (1, [.ref a_cells_h0, .int count_h0]))]) hr d_Nd_dropLast_17 [0] rfl (by decide) ⟨rfl, rfl⟩
  · replace h := it_f c1 h
    refine j_aload_n d_Nd_dropLast_7 rfl 0 rfl ?_
    refine j_dup rfl d_Nd_dropLast_8 ?_
    refine j_get ig_Nd rfl 0 rfl 1 (by decide) rfl m_80 rfl d_Nd_dropLast_9 ?_
    refine j_iconst (v := 1) d_Nd_dropLast_12 (by decide) ?_
    refine j_isub d_Nd_dropLast_13 ?_
    refine j_put (ws' := [(h0, .inr (1, [.ref a_cells_h0, .int (count_h0 - 1)]))]) ig_Nd tk_Nd nm_Nd rfl 0 rfl 1 (by decide) rfl m_80 rfl (tk_Nd 1 (by decide)) rfl rfl (Nat.le_of_ble_eq_true rfl) d_Nd_dropLast_14 rfl ?_
    subst h
    exact j_vret (w := [(h0, .inr (1, [.ref a_cells_h0, .int (count_h0 - 1)]))]) hr d_Nd_dropLast_17 [0] rfl (by decide) ⟨rfl, rfl⟩
def F_Nd_linkParts_15 (p3 : Int32) (count_h0 : Int32) (n_a_cells_h0 : Nat) (count_g1 : Int32) (n_a_cells_g1 : Nat) : Nat → Int32 → Int32 → Int32 → (Nat → Int32) → (Nat → Int32) → Option ((Nat → Int32) × (Nat → Int32))
  | 0, _, _, _, _, _ => none
  | k_15 + 1, v6_15, v5_15, v4_15, b1_15, b3_15 =>
    Option.bind (F_Nd_get p3 3 count_h0 n_a_cells_h0 b3_15) fun r1 =>
    if r1 ≤ v6_15 then (some (b3_15, b1_15))
    else (Option.bind (F_Nd_get v5_15 5 count_g1 n_a_cells_g1 b1_15) fun r4 =>
      Option.bind (F_Nd_set v5_15 6 (v4_15 - r4) count_g1 n_a_cells_g1 b1_15) fun r6 =>
      Option.bind (F_Nd_set (v4_15 - r4) 6 p3 count_h0 n_a_cells_h0 b3_15) fun r8 =>
      Option.bind (F_Nd_get v5_15 5 count_g1 n_a_cells_g1 r6) fun r10 =>
      F_Nd_linkParts_15 p3 count_h0 n_a_cells_h0 count_g1 n_a_cells_g1  k_15 (v6_15 + 1) (v5_15 - r10) (v4_15 - r4) r6 r8)
def F_Nd_linkParts (p2 : Int32) (p3 : Int32) (count_h0 : Int32) (n_a_cells_h0 : Nat) (b_a_cells_h0 : Nat → Int32) (count_g1 : Int32) (n_a_cells_g1 : Nat) (b_a_cells_g1 : Nat → Int32) : Option ((Nat → Int32) × (Nat → Int32)) :=
  Option.bind (F_Nd_after p3 count_h0 n_a_cells_h0 b_a_cells_h0) fun r12 =>
  F_Nd_linkParts_15 p3 count_h0 n_a_cells_h0 count_g1 n_a_cells_g1  FU 0 (p2 - 1) r12 b_a_cells_g1 b_a_cells_h0
theorem d_Nd_linkParts_0 : decode prog_4_method_13_code 0 = .ok (.aload_n 0, 1) := by decide +kernel
theorem d_Nd_linkParts_1 : decode prog_4_method_13_code 1 = .ok (.iload_n 3, 1) := by decide +kernel
theorem d_Nd_linkParts_2 : decode prog_4_method_13_code 2 = .ok (.invokevirtual 55, 3) := by decide +kernel
theorem d_Nd_linkParts_5 : decode prog_4_method_13_code 5 = .ok (.istore 4, 2) := by decide +kernel
theorem d_Nd_linkParts_7 : decode prog_4_method_13_code 7 = .ok (.iload_n 2, 1) := by decide +kernel
theorem d_Nd_linkParts_8 : decode prog_4_method_13_code 8 = .ok (.iconst 1, 1) := by decide +kernel
theorem d_Nd_linkParts_9 : decode prog_4_method_13_code 9 = .ok (.isub, 1) := by decide +kernel
theorem d_Nd_linkParts_10 : decode prog_4_method_13_code 10 = .ok (.istore 5, 2) := by decide +kernel
theorem d_Nd_linkParts_12 : decode prog_4_method_13_code 12 = .ok (.iconst 0, 1) := by decide +kernel
theorem d_Nd_linkParts_13 : decode prog_4_method_13_code 13 = .ok (.istore 6, 2) := by decide +kernel
theorem d_Nd_linkParts_15 : decode prog_4_method_13_code 15 = .ok (.iload 6, 2) := by decide +kernel
theorem d_Nd_linkParts_17 : decode prog_4_method_13_code 17 = .ok (.aload_n 0, 1) := by decide +kernel
theorem d_Nd_linkParts_18 : decode prog_4_method_13_code 18 = .ok (.iload_n 3, 1) := by decide +kernel
theorem d_Nd_linkParts_19 : decode prog_4_method_13_code 19 = .ok (.iconst 3, 1) := by decide +kernel
theorem d_Nd_linkParts_20 : decode prog_4_method_13_code 20 = .ok (.invokevirtual 19, 3) := by decide +kernel
theorem d_Nd_linkParts_23 : decode prog_4_method_13_code 23 = .ok (.if_icmp .ge 52, 3) := by decide +kernel
theorem d_Nd_linkParts_26 : decode prog_4_method_13_code 26 = .ok (.iload 4, 2) := by decide +kernel
theorem d_Nd_linkParts_28 : decode prog_4_method_13_code 28 = .ok (.aload_n 1, 1) := by decide +kernel
theorem d_Nd_linkParts_29 : decode prog_4_method_13_code 29 = .ok (.iload 5, 2) := by decide +kernel
theorem d_Nd_linkParts_31 : decode prog_4_method_13_code 31 = .ok (.iconst 5, 1) := by decide +kernel
theorem d_Nd_linkParts_32 : decode prog_4_method_13_code 32 = .ok (.invokevirtual 19, 3) := by decide +kernel
theorem d_Nd_linkParts_35 : decode prog_4_method_13_code 35 = .ok (.isub, 1) := by decide +kernel
theorem d_Nd_linkParts_36 : decode prog_4_method_13_code 36 = .ok (.istore 4, 2) := by decide +kernel
theorem d_Nd_linkParts_38 : decode prog_4_method_13_code 38 = .ok (.aload_n 1, 1) := by decide +kernel
theorem d_Nd_linkParts_39 : decode prog_4_method_13_code 39 = .ok (.iload 5, 2) := by decide +kernel
theorem d_Nd_linkParts_41 : decode prog_4_method_13_code 41 = .ok (.bipush 6, 2) := by decide +kernel
theorem d_Nd_linkParts_43 : decode prog_4_method_13_code 43 = .ok (.iload 4, 2) := by decide +kernel
theorem d_Nd_linkParts_45 : decode prog_4_method_13_code 45 = .ok (.invokevirtual 48, 3) := by decide +kernel
theorem d_Nd_linkParts_48 : decode prog_4_method_13_code 48 = .ok (.aload_n 0, 1) := by decide +kernel
theorem d_Nd_linkParts_49 : decode prog_4_method_13_code 49 = .ok (.iload 4, 2) := by decide +kernel
theorem d_Nd_linkParts_51 : decode prog_4_method_13_code 51 = .ok (.bipush 6, 2) := by decide +kernel
theorem d_Nd_linkParts_53 : decode prog_4_method_13_code 53 = .ok (.iload_n 3, 1) := by decide +kernel
theorem d_Nd_linkParts_54 : decode prog_4_method_13_code 54 = .ok (.invokevirtual 48, 3) := by decide +kernel
theorem d_Nd_linkParts_57 : decode prog_4_method_13_code 57 = .ok (.iload 5, 2) := by decide +kernel
theorem d_Nd_linkParts_59 : decode prog_4_method_13_code 59 = .ok (.aload_n 1, 1) := by decide +kernel
theorem d_Nd_linkParts_60 : decode prog_4_method_13_code 60 = .ok (.iload 5, 2) := by decide +kernel
theorem d_Nd_linkParts_62 : decode prog_4_method_13_code 62 = .ok (.iconst 5, 1) := by decide +kernel
theorem d_Nd_linkParts_63 : decode prog_4_method_13_code 63 = .ok (.invokevirtual 19, 3) := by decide +kernel
theorem d_Nd_linkParts_66 : decode prog_4_method_13_code 66 = .ok (.isub, 1) := by decide +kernel
theorem d_Nd_linkParts_67 : decode prog_4_method_13_code 67 = .ok (.istore 5, 2) := by decide +kernel
theorem d_Nd_linkParts_69 : decode prog_4_method_13_code 69 = .ok (.iinc 6 1, 3) := by decide +kernel
theorem d_Nd_linkParts_72 : decode prog_4_method_13_code 72 = .ok (.goto (-57), 3) := by decide +kernel
theorem d_Nd_linkParts_75 : decode prog_4_method_13_code 75 = .ok (.return_, 1) := by decide +kernel
set_option maxHeartbeats 4000000 in
set_option maxRecDepth 100000 in
theorem L_Nd_linkParts_15 (l : Launch) (D : va_G) (cI cB cJ cS : ClassId) (h0 : Nat) (g1 : Nat) (a_cells_h0 : Nat) (a_cells_g1 : Nat) (p2 : Int32) (p3 : Int32) (count_h0 : Int32) (n_a_cells_h0 : Nat) (b_a_cells_h0 : Nat → Int32) (count_g1 : Int32) (n_a_cells_g1 : Nat) (b_a_cells_g1 : Nat → Int32) (ob_1 : Nat → Int32) (ob_3 : Nat → Int32) (p : Program) (e : Env) (s : State) (m : MethodId) (below : List Frame) (meth : Method) (c : Code) (hr : meth.sig.returnType = (Option.none : Option Jvm.ClassFile.FieldType)) (hnm : meth.name = y_Nd_linkParts.name) : ∀ (k_15 : Nat) (v6_15 : Int32) (v5_15 : Int32) (v4_15 : Int32) (b1_15 : Nat → Int32) (b3_15 : Nat → Int32), F_Nd_linkParts_15 p3 count_h0 n_a_cells_h0 count_g1 n_a_cells_g1  k_15 v6_15 v5_15 v4_15 b1_15 b3_15 = some (ob_1, ob_3) → J (KxOf p l e { frames := 2, cells := 0, slots := 0, locals := 43 } s m [.ref h0, .ref g1, .int p2, .int p3].toArray below meth c D (gT cI cB cJ cS) [(h0, .inr (1, [.ref a_cells_h0, .int count_h0])), (a_cells_h0, .inl (cI, n_a_cells_h0, .inl b_a_cells_h0)), (g1, .inr (1, [.ref a_cells_g1, .int count_g1])), (a_cells_g1, .inl (cI, n_a_cells_g1, .inl b_a_cells_g1))] (fun v w => v = none ∧ w = [(h0, .inr (1, [.ref a_cells_h0, .int count_h0])), (a_cells_h0, .inl (cI, n_a_cells_h0, .inl ob_1)), (g1, .inr (1, [.ref a_cells_g1, .int count_g1])), (a_cells_g1, .inl (cI, n_a_cells_g1, .inl ob_3))]) 0 0) prog_4_method_13_code 7 R_Nd 15 [(6, .int v6_15), (5, .int v5_15), (4, .int v4_15), (0, .ref h0), (1, .ref g1), (2, .int p2), (3, .int p3)] [] [(g1, .inr (1, [.ref a_cells_g1, .int count_g1])), (a_cells_g1, .inl (cI, n_a_cells_g1, .inl b1_15)), (h0, .inr (1, [.ref a_cells_h0, .int count_h0])), (a_cells_h0, .inl (cI, n_a_cells_h0, .inl b3_15))] 0 0 := by
  intro k_15
  induction k_15 with
  | zero => intro v6_15 v5_15 v4_15 b1_15 b3_15 h; rw [F_Nd_linkParts_15] at h; cases h
  | succ k_15 ih_15 =>
    intro v6_15 v5_15 v4_15 b1_15 b3_15 h
    rw [F_Nd_linkParts_15] at h
    refine j_iload d_Nd_linkParts_15 0 rfl ?_
    refine j_aload_n d_Nd_linkParts_17 rfl 3 rfl ?_
    refine j_iload_n d_Nd_linkParts_18 rfl 6 rfl ?_
    refine j_iconst (v := 3) d_Nd_linkParts_19 (by decide) ?_
    replace h := bd_s h
    obtain ⟨r1, k2, h⟩ := h
    refine j_callV (n := 2) (As := [.int p3, .int 3]) (rest := [.int v6_15]) (wr := [(g1, .inr (1, [.ref a_cells_g1, .int count_g1])), (a_cells_g1, .inl (cI, n_a_cells_g1, .inl b1_15))]) (c_Nd_get l D cI cB cJ cS h0 a_cells_h0 p3 3 count_h0 n_a_cells_h0 b3_15  r1 k2) k_Nd_19 (by decide) ⟨Nat.le_of_ble_eq_true rfl, Nat.le_of_ble_eq_true rfl⟩ rfl 0 rfl [2, 3] [0, 1] rfl (by decide) rfl (by decide) (by decide) rfl rfl (Nat.le_of_ble_eq_true rfl) d_Nd_linkParts_20 ⟨Nat.le_of_ble_eq_true rfl, Nat.le_of_ble_eq_true rfl⟩ (fun v w hq => ?_)
    obtain ⟨rfl, rfl⟩ := hq
    refine j_norm (pc' := 23) (st' := [.int r1, .int v6_15]) (ws' := [(g1, .inr (1, [.ref a_cells_g1, .int count_g1])), (a_cells_g1, .inl (cI, n_a_cells_g1, .inl b1_15)), (h0, .inr (1, [.ref a_cells_h0, .int count_h0])), (a_cells_h0, .inl (cI, n_a_cells_h0, .inl b3_15))]) (cl' := 0) (sl' := 0) rfl rfl rfl rfl rfl rfl ?_
    refine j_icmp_ge (tgt := 75) d_Nd_linkParts_23 (by decide) (fun c3 => ?_) (fun c3 => ?_)
    · replace h := it_t c3 h
      replace h := Option.some.inj h
      replace h := Prod.mk.inj h
      obtain ⟨h9, h⟩ := h
      subst h9
      subst h
      exact j_vret (w := [(h0, .inr (1, [.ref a_cells_h0, .int count_h0])), (a_cells_h0, .inl (cI, n_a_cells_h0, .inl b3_15)), (g1, .inr (1, [.ref a_cells_g1, .int count_g1])), (a_cells_g1, .inl (cI, n_a_cells_g1, .inl b1_15))]) hr d_Nd_linkParts_75 [2, 3, 0, 1] rfl (by decide) ⟨rfl, rfl⟩
    · replace h := it_f c3 h
      refine j_iload d_Nd_linkParts_26 2 rfl ?_
      refine j_aload_n d_Nd_linkParts_28 rfl 4 rfl ?_
      refine j_iload d_Nd_linkParts_29 1 rfl ?_
      refine j_iconst (v := 5) d_Nd_linkParts_31 (by decide) ?_
      replace h := bd_s h
      obtain ⟨r4, k5, h⟩ := h
      refine j_callV (n := 2) (As := [.int v5_15, .int 5]) (rest := [.int v4_15]) (wr := [(h0, .inr (1, [.ref a_cells_h0, .int count_h0])), (a_cells_h0, .inl (cI, n_a_cells_h0, .inl b3_15))]) (c_Nd_get l D cI cB cJ cS g1 a_cells_g1 v5_15 5 count_g1 n_a_cells_g1 b1_15  r4 k5) k_Nd_19 (by decide) ⟨Nat.le_of_ble_eq_true rfl, Nat.le_of_ble_eq_true rfl⟩ rfl 0 rfl [0, 1] [2, 3] rfl (by decide) rfl (by decide) (by decide) rfl rfl (Nat.le_of_ble_eq_true rfl) d_Nd_linkParts_32 ⟨Nat.le_of_ble_eq_true rfl, Nat.le_of_ble_eq_true rfl⟩ (fun v w hq => ?_)
      obtain ⟨rfl, rfl⟩ := hq
      refine j_norm (pc' := 35) (st' := [.int r4, .int v4_15]) (ws' := [(h0, .inr (1, [.ref a_cells_h0, .int count_h0])), (a_cells_h0, .inl (cI, n_a_cells_h0, .inl b3_15)), (g1, .inr (1, [.ref a_cells_g1, .int count_g1])), (a_cells_g1, .inl (cI, n_a_cells_g1, .inl b1_15))]) (cl' := 0) (sl' := 0) rfl rfl rfl rfl rfl rfl ?_
      refine j_isub d_Nd_linkParts_35 ?_
      refine j_istore (lv' := [(4, .int (v4_15 - r4)), (6, .int v6_15), (5, .int v5_15), (0, .ref h0), (1, .ref g1), (2, .int p2), (3, .int p3)]) d_Nd_linkParts_36 (by decide) rfl ?_
      refine j_aload_n d_Nd_linkParts_38 rfl 4 rfl ?_
      refine j_iload d_Nd_linkParts_39 2 rfl ?_
      refine j_bipush (v := 6) d_Nd_linkParts_41 (by decide) ?_
      refine j_iload d_Nd_linkParts_43 0 rfl ?_
      replace h := bd_s h
      obtain ⟨r6, k7, h⟩ := h
      refine j_callV (n := 3) (As := [.int v5_15, .int 6, .int (v4_15 - r4)]) (rest := []) (wr := [(h0, .inr (1, [.ref a_cells_h0, .int count_h0])), (a_cells_h0, .inl (cI, n_a_cells_h0, .inl b3_15))]) (c_Nd_set l D cI cB cJ cS g1 a_cells_g1 v5_15 6 (v4_15 - r4) count_g1 n_a_cells_g1 b1_15  r6 k7) k_Nd_48 (by decide) ⟨Nat.le_of_ble_eq_true rfl, Nat.le_of_ble_eq_true rfl⟩ rfl 0 rfl [2, 3] [0, 1] rfl (by decide) rfl (by decide) (by decide) rfl rfl (Nat.le_of_ble_eq_true rfl) d_Nd_linkParts_45 ⟨Nat.le_of_ble_eq_true rfl, Nat.le_of_ble_eq_true rfl⟩ (fun v w hq => ?_)
      obtain ⟨rfl, rfl⟩ := hq
      refine j_norm (pc' := 48) (st' := []) (ws' := [(h0, .inr (1, [.ref a_cells_h0, .int count_h0])), (a_cells_h0, .inl (cI, n_a_cells_h0, .inl b3_15)), (g1, .inr (1, [.ref a_cells_g1, .int count_g1])), (a_cells_g1, .inl (cI, n_a_cells_g1, .inl r6))]) (cl' := 0) (sl' := 0) rfl rfl rfl rfl rfl rfl ?_
      refine j_aload_n d_Nd_linkParts_48 rfl 3 rfl ?_
      refine j_iload d_Nd_linkParts_49 0 rfl ?_
      refine j_bipush (v := 6) d_Nd_linkParts_51 (by decide) ?_
      refine j_iload_n d_Nd_linkParts_53 rfl 6 rfl ?_
      replace h := bd_s h
      obtain ⟨r8, k9, h⟩ := h
      refine j_callV (n := 3) (As := [.int (v4_15 - r4), .int 6, .int p3]) (rest := []) (wr := [(g1, .inr (1, [.ref a_cells_g1, .int count_g1])), (a_cells_g1, .inl (cI, n_a_cells_g1, .inl r6))]) (c_Nd_set l D cI cB cJ cS h0 a_cells_h0 (v4_15 - r4) 6 p3 count_h0 n_a_cells_h0 b3_15  r8 k9) k_Nd_48 (by decide) ⟨Nat.le_of_ble_eq_true rfl, Nat.le_of_ble_eq_true rfl⟩ rfl 0 rfl [0, 1] [2, 3] rfl (by decide) rfl (by decide) (by decide) rfl rfl (Nat.le_of_ble_eq_true rfl) d_Nd_linkParts_54 ⟨Nat.le_of_ble_eq_true rfl, Nat.le_of_ble_eq_true rfl⟩ (fun v w hq => ?_)
      obtain ⟨rfl, rfl⟩ := hq
      refine j_norm (pc' := 57) (st' := []) (ws' := [(g1, .inr (1, [.ref a_cells_g1, .int count_g1])), (a_cells_g1, .inl (cI, n_a_cells_g1, .inl r6)), (h0, .inr (1, [.ref a_cells_h0, .int count_h0])), (a_cells_h0, .inl (cI, n_a_cells_h0, .inl r8))]) (cl' := 0) (sl' := 0) rfl rfl rfl rfl rfl rfl ?_
      refine j_iload d_Nd_linkParts_57 2 rfl ?_
      refine j_aload_n d_Nd_linkParts_59 rfl 4 rfl ?_
      refine j_iload d_Nd_linkParts_60 2 rfl ?_
      refine j_iconst (v := 5) d_Nd_linkParts_62 (by decide) ?_
      replace h := bd_s h
      obtain ⟨r10, k11, h⟩ := h
      refine j_callV (n := 2) (As := [.int v5_15, .int 5]) (rest := [.int v5_15]) (wr := [(h0, .inr (1, [.ref a_cells_h0, .int count_h0])), (a_cells_h0, .inl (cI, n_a_cells_h0, .inl r8))]) (c_Nd_get l D cI cB cJ cS g1 a_cells_g1 v5_15 5 count_g1 n_a_cells_g1 r6  r10 k11) k_Nd_19 (by decide) ⟨Nat.le_of_ble_eq_true rfl, Nat.le_of_ble_eq_true rfl⟩ rfl 0 rfl [0, 1] [2, 3] rfl (by decide) rfl (by decide) (by decide) rfl rfl (Nat.le_of_ble_eq_true rfl) d_Nd_linkParts_63 ⟨Nat.le_of_ble_eq_true rfl, Nat.le_of_ble_eq_true rfl⟩ (fun v w hq => ?_)
      obtain ⟨rfl, rfl⟩ := hq
      refine j_norm (pc' := 66) (st' := [.int r10, .int v5_15]) (ws' := [(h0, .inr (1, [.ref a_cells_h0, .int count_h0])), (a_cells_h0, .inl (cI, n_a_cells_h0, .inl r8)), (g1, .inr (1, [.ref a_cells_g1, .int count_g1])), (a_cells_g1, .inl (cI, n_a_cells_g1, .inl r6))]) (cl' := 0) (sl' := 0) rfl rfl rfl rfl rfl rfl ?_
      refine j_isub d_Nd_linkParts_66 ?_
      refine j_istore (lv' := [(5, .int (v5_15 - r10)), (4, .int (v4_15 - r4)), (6, .int v6_15), (0, .ref h0), (1, .ref g1), (2, .int p2), (3, .int p3)]) d_Nd_linkParts_67 (by decide) rfl ?_
      refine j_iinc (v := v6_15 + 1) (lv' := [(6, .int (v6_15 + 1)), (5, .int (v5_15 - r10)), (4, .int (v4_15 - r4)), (0, .ref h0), (1, .ref g1), (2, .int p2), (3, .int p3)]) d_Nd_linkParts_69 2 rfl rfl (by decide) rfl ?_
      refine j_goto (tgt := 15) d_Nd_linkParts_72 (by decide) ?_
      refine j_sub (w := [(g1, .inr (1, [.ref a_cells_g1, .int count_g1])), (a_cells_g1, .inl (cI, n_a_cells_g1, .inl r6)), (h0, .inr (1, [.ref a_cells_h0, .int count_h0])), (a_cells_h0, .inl (cI, n_a_cells_h0, .inl r8))]) (lv' := [(6, .int (v6_15 + 1)), (5, .int (v5_15 - r10)), (4, .int (v4_15 - r4)), (0, .ref h0), (1, .ref g1), (2, .int p2), (3, .int p3)]) [2, 3, 0, 1] rfl (by decide) [0, 1, 2, 3, 4, 5, 6] rfl ?_
      exact ih_15 (v6_15 + 1) (v5_15 - r10) (v4_15 - r4) r6 r8 h
set_option maxHeartbeats 4000000 in
set_option maxRecDepth 100000 in
theorem c_Nd_linkParts (l : Launch) (D : va_G) (cI cB cJ cS : ClassId) (h0 : Nat) (g1 : Nat) (a_cells_h0 : Nat) (a_cells_g1 : Nat) (p2 : Int32) (p3 : Int32) (count_h0 : Int32) (n_a_cells_h0 : Nat) (b_a_cells_h0 : Nat → Int32) (count_g1 : Int32) (n_a_cells_g1 : Nat) (b_a_cells_g1 : Nat → Int32) (ob_1 : Nat → Int32) (ob_3 : Nat → Int32) (h : F_Nd_linkParts p2 p3 count_h0 n_a_cells_h0 b_a_cells_h0 count_g1 n_a_cells_g1 b_a_cells_g1 = some (ob_1, ob_3)) : Ct l D (gT cI cB cJ cS) y_Nd_linkParts prog_4_method_13_code 7 (Option.none : Option Jvm.ClassFile.FieldType) 2 43 0 0 [.ref h0, .ref g1, .int p2, .int p3] [(h0, .inr (1, [.ref a_cells_h0, .int count_h0])), (a_cells_h0, .inl (cI, n_a_cells_h0, .inl b_a_cells_h0)), (g1, .inr (1, [.ref a_cells_g1, .int count_g1])), (a_cells_g1, .inl (cI, n_a_cells_g1, .inl b_a_cells_g1))] (fun v w => v = none ∧ w = [(h0, .inr (1, [.ref a_cells_h0, .int count_h0])), (a_cells_h0, .inl (cI, n_a_cells_h0, .inl ob_1)), (g1, .inr (1, [.ref a_cells_g1, .int count_g1])), (a_cells_g1, .inl (cI, n_a_cells_g1, .inl ob_3))]) := by
  refine Ct.mk (by decide) (Nat.le_of_ble_eq_true rfl) ?_
  intro p e s m below meth c hr hnm
  refine j_norm (pc' := 0) (lv' := [(0, .ref h0), (1, .ref g1), (2, .int p2), (3, .int p3)]) (st' := []) (ws' := [(h0, .inr (1, [.ref a_cells_h0, .int count_h0])), (a_cells_h0, .inl (cI, n_a_cells_h0, .inl b_a_cells_h0)), (g1, .inr (1, [.ref a_cells_g1, .int count_g1])), (a_cells_g1, .inl (cI, n_a_cells_g1, .inl b_a_cells_g1))]) (cl' := 0) (sl' := 0) rfl rfl rfl rfl rfl rfl ?_
  unfold F_Nd_linkParts at h
  refine j_aload_n d_Nd_linkParts_0 rfl 0 rfl ?_
  refine j_iload_n d_Nd_linkParts_1 rfl 3 rfl ?_
  replace h := bd_s h
  obtain ⟨r12, k13, h⟩ := h
  refine j_callV (n := 1) (As := [.int p3]) (rest := []) (wr := [(g1, .inr (1, [.ref a_cells_g1, .int count_g1])), (a_cells_g1, .inl (cI, n_a_cells_g1, .inl b_a_cells_g1))]) (c_Nd_after l D cI cB cJ cS h0 a_cells_h0 p3 count_h0 n_a_cells_h0 b_a_cells_h0  r12 k13) k_Nd_55 (by decide) ⟨Nat.le_of_ble_eq_true rfl, Nat.le_of_ble_eq_true rfl⟩ rfl 0 rfl [0, 1] [2, 3] rfl (by decide) rfl (by decide) (by decide) rfl rfl (Nat.le_of_ble_eq_true rfl) d_Nd_linkParts_2 ⟨Nat.le_of_ble_eq_true rfl, Nat.le_of_ble_eq_true rfl⟩ (fun v w hq => ?_)
  obtain ⟨rfl, rfl⟩ := hq
  refine j_norm (pc' := 5) (st' := [.int r12]) (ws' := [(g1, .inr (1, [.ref a_cells_g1, .int count_g1])), (a_cells_g1, .inl (cI, n_a_cells_g1, .inl b_a_cells_g1)), (h0, .inr (1, [.ref a_cells_h0, .int count_h0])), (a_cells_h0, .inl (cI, n_a_cells_h0, .inl b_a_cells_h0))]) (cl' := 0) (sl' := 0) rfl rfl rfl rfl rfl rfl ?_
  refine j_istore (lv' := [(4, .int r12), (0, .ref h0), (1, .ref g1), (2, .int p2), (3, .int p3)]) d_Nd_linkParts_5 (by decide) rfl ?_
  refine j_iload_n d_Nd_linkParts_7 rfl 3 rfl ?_
  refine j_iconst (v := 1) d_Nd_linkParts_8 (by decide) ?_
  refine j_isub d_Nd_linkParts_9 ?_
  refine j_istore (lv' := [(5, .int (p2 - 1)), (4, .int r12), (0, .ref h0), (1, .ref g1), (2, .int p2), (3, .int p3)]) d_Nd_linkParts_10 (by decide) rfl ?_
  refine j_iconst (v := 0) d_Nd_linkParts_12 (by decide) ?_
  refine j_istore (lv' := [(6, .int 0), (5, .int (p2 - 1)), (4, .int r12), (0, .ref h0), (1, .ref g1), (2, .int p2), (3, .int p3)]) d_Nd_linkParts_13 (by decide) rfl ?_
  refine j_sub (w := [(g1, .inr (1, [.ref a_cells_g1, .int count_g1])), (a_cells_g1, .inl (cI, n_a_cells_g1, .inl b_a_cells_g1)), (h0, .inr (1, [.ref a_cells_h0, .int count_h0])), (a_cells_h0, .inl (cI, n_a_cells_h0, .inl b_a_cells_h0))]) (lv' := [(6, .int 0), (5, .int (p2 - 1)), (4, .int r12), (0, .ref h0), (1, .ref g1), (2, .int p2), (3, .int p3)]) [0, 1, 2, 3] rfl (by decide) [0, 1, 2, 3, 4, 5, 6] rfl ?_
  exact L_Nd_linkParts_15 l D cI cB cJ cS h0 g1 a_cells_h0 a_cells_g1 p2 p3 count_h0 n_a_cells_h0 b_a_cells_h0 count_g1 n_a_cells_g1 b_a_cells_g1 ob_1 ob_3 p e s m below meth c hr hnm FU 0 (p2 - 1) r12 b_a_cells_g1 b_a_cells_h0 h
noncomputable def F_Rw_init : Option ((Unit) × Nat × Nat) :=
  nwa 128 (some ((), 0, 0))
theorem d_Rw_init_0 : decode prog_7_method_1_code 0 = .ok (.aload_n 0, 1) := by decide +kernel
theorem d_Rw_init_1 : decode prog_7_method_1_code 1 = .ok (.invokespecial 3, 3) := by decide +kernel
theorem d_Rw_init_4 : decode prog_7_method_1_code 4 = .ok (.aload_n 0, 1) := by decide +kernel
theorem d_Rw_init_5 : decode prog_7_method_1_code 5 = .ok (.sipush 128, 3) := by decide +kernel
theorem d_Rw_init_8 : decode prog_7_method_1_code 8 = .ok (.newarray .byte, 2) := by decide +kernel
theorem d_Rw_init_10 : decode prog_7_method_1_code 10 = .ok (.putfield 11, 3) := by decide +kernel
theorem d_Rw_init_13 : decode prog_7_method_1_code 13 = .ok (.aload_n 0, 1) := by decide +kernel
theorem d_Rw_init_14 : decode prog_7_method_1_code 14 = .ok (.iconst 0, 1) := by decide +kernel
theorem d_Rw_init_15 : decode prog_7_method_1_code 15 = .ok (.putfield 15, 3) := by decide +kernel
theorem d_Rw_init_18 : decode prog_7_method_1_code 18 = .ok (.return_, 1) := by decide +kernel
set_option maxHeartbeats 4000000 in
set_option maxRecDepth 100000 in
theorem c_Rw_init (l : Launch) (D : va_G) (cI cB cJ cS : ClassId) (h0 : Nat) (mc ms : Nat) (h : F_Rw_init  = some ((), mc, ms)) : Ct l D (gT cI cB cJ cS) y_Rw_init prog_7_method_1_code 1 (Option.none : Option Jvm.ClassFile.FieldType) 1 20 mc ms [.ref h0] [(h0, .inr (3, [.null, .int 0]))] (fun v w => ∃ nq_0_0 : Nat, v = none ∧ w = [(h0, .inr (3, [.ref nq_0_0, .int 0])), (nq_0_0, .inl (cB, 128, .inl (fun _ => 0)))]) := by
  refine Ct.mk (by decide) (Nat.le_of_ble_eq_true rfl) ?_
  intro p e s m below meth c hr hnm
  refine j_norm (pc' := 0) (lv' := [(0, .ref h0)]) (st' := []) (ws' := [(h0, .inr (3, [.null, .int 0]))]) (cl' := 0) (sl' := 0) rfl rfl rfl rfl rfl rfl ?_
  unfold F_Rw_init at h
  have hC : 0 + mc ≤ mc := by omega
  have hS : 0 + ms ≤ ms := by omega
  refine j_aload_n d_Rw_init_0 rfl 0 rfl ?_
  refine j_oinit m_48 m_29 mc_obj (Nat.le_of_ble_eq_true rfl) (Nat.le_of_ble_eq_true rfl) d_Rw_init_1 ?_
  refine j_aload_n d_Rw_init_4 rfl 0 rfl ?_
  refine j_sipush (v := 128) d_Rw_init_5 (by decide) ?_
  replace h := nwa_s h
  obtain ⟨i4, i5, C2, S3, h, e1, e2⟩ := h
  rw [show Int32.toNatClampNeg 128 = 128 by decide] at e2
  replace hC : 0 + 1 + C2 ≤ mc := by omega
  replace hS : 0 + 128 + S3 ≤ ms := by omega
  clear e1 e2
  refine j_newa (atype := .byte) (ty := .byte) (t0 := 1) (cA := cB) (a0 := (128, .inl (fun _ => 0))) m_56 rfl rfl (fun _ => rfl) i4 (by decide) (by decide) (show 0 + 1 ≤ mc by omega) (show 0 + 128 ≤ ms by omega) d_Rw_init_8 (fun q1 => ?_)
  refine j_norm (pc' := 10) (st' := [.ref q1, .ref h0]) (ws' := [(h0, .inr (3, [.null, .int 0])), (q1, .inl (cB, 128, .inl (fun _ => 0)))]) (cl' := 0 + 1) (sl' := 0 + 128) rfl rfl rfl rfl rfl rfl ?_
  refine j_put (ws' := [(h0, .inr (3, [.ref q1, .int 0])), (q1, .inl (cB, 128, .inl (fun _ => 0)))]) ig_Rw tk_Rw nm_Rw rfl 0 rfl 0 (by decide) rfl m_49 rfl (tk_Rw 0 (by decide)) rfl rfl (Nat.le_of_ble_eq_true rfl) d_Rw_init_10 rfl ?_
  refine j_aload_n d_Rw_init_13 rfl 0 rfl ?_
  refine j_iconst (v := 0) d_Rw_init_14 (by decide) ?_
  refine j_put (ws' := [(h0, .inr (3, [.ref q1, .int 0])), (q1, .inl (cB, 128, .inl (fun _ => 0)))]) ig_Rw tk_Rw nm_Rw rfl 0 rfl 1 (by decide) rfl m_50 rfl (tk_Rw 1 (by decide)) rfl rfl (Nat.le_of_ble_eq_true rfl) d_Rw_init_15 rfl ?_
  replace h := lf_s h
  obtain ⟨h, e1, e2⟩ := h
  refine j_widen (cl' := mc) (sl' := ms) (by omega) (by omega) ?_
  exact j_vret (w := [(h0, .inr (3, [.ref q1, .int 0])), (q1, .inl (cB, 128, .inl (fun _ => 0)))]) hr d_Rw_init_18 [0, 1] rfl (by decide) ⟨q1, rfl, rfl⟩
theorem d_Rw_size_0 : decode prog_7_method_2_code 0 = .ok (.aload_n 0, 1) := by decide +kernel
theorem d_Rw_size_1 : decode prog_7_method_2_code 1 = .ok (.getfield 15, 3) := by decide +kernel
theorem d_Rw_size_4 : decode prog_7_method_2_code 4 = .ok (.ireturn, 1) := by decide +kernel
set_option maxHeartbeats 4000000 in
set_option maxRecDepth 100000 in
theorem c_Rw_size (l : Launch) (D : va_G) (cI cB cJ cS : ClassId) (h0 : Nat) (a_bytes_h0 : Nat) (size_h0 : Int32) : Ct l D (gT cI cB cJ cS) y_Rw_size prog_7_method_2_code 1 (Option.some Jvm.ClassFile.FieldType.int) 0 0 0 0 [.ref h0] [(h0, .inr (3, [.ref a_bytes_h0, .int size_h0]))] (fun v w => v = some (.int size_h0) ∧ w = [(h0, .inr (3, [.ref a_bytes_h0, .int size_h0]))]) := by
  refine Ct.mk (by decide) (Nat.le_of_ble_eq_true rfl) ?_
  intro p e s m below meth c hr hnm
  refine j_norm (pc' := 0) (lv' := [(0, .ref h0)]) (st' := []) (ws' := [(h0, .inr (3, [.ref a_bytes_h0, .int size_h0]))]) (cl' := 0) (sl' := 0) rfl rfl rfl rfl rfl rfl ?_
  refine j_aload_n d_Rw_size_0 rfl 0 rfl ?_
  refine j_get ig_Rw rfl 0 rfl 1 (by decide) rfl m_50 rfl d_Rw_size_1 ?_
  exact j_iret (w := [(h0, .inr (3, [.ref a_bytes_h0, .int size_h0]))]) hr d_Rw_size_4 [0] rfl (by decide) ⟨rfl, rfl⟩
def F_Rw_at (p1 : Int32) (size_h0 : Int32) (n_a_bytes_h0 : Nat) (b_a_bytes_h0 : Nat → Int32) : Option (Int32) :=
  if p1 < 0 then (some (-1))
  else if size_h0 ≤ p1 then (some (-1))
  else if (nI n_a_bytes_h0) ≤ p1 then (some (-1))
  else (inb p1 n_a_bytes_h0 (some ((b_a_bytes_h0 (Int32.toNatClampNeg p1)) &&& 255)))
theorem d_Rw_at_0 : decode prog_7_method_3_code 0 = .ok (.iload_n 1, 1) := by decide +kernel
theorem d_Rw_at_1 : decode prog_7_method_3_code 1 = .ok (.ifCond .lt 33, 3) := by decide +kernel
theorem d_Rw_at_4 : decode prog_7_method_3_code 4 = .ok (.iload_n 1, 1) := by decide +kernel
theorem d_Rw_at_5 : decode prog_7_method_3_code 5 = .ok (.aload_n 0, 1) := by decide +kernel
theorem d_Rw_at_6 : decode prog_7_method_3_code 6 = .ok (.getfield 15, 3) := by decide +kernel
theorem d_Rw_at_9 : decode prog_7_method_3_code 9 = .ok (.if_icmp .ge 25, 3) := by decide +kernel
theorem d_Rw_at_12 : decode prog_7_method_3_code 12 = .ok (.iload_n 1, 1) := by decide +kernel
theorem d_Rw_at_13 : decode prog_7_method_3_code 13 = .ok (.aload_n 0, 1) := by decide +kernel
theorem d_Rw_at_14 : decode prog_7_method_3_code 14 = .ok (.getfield 11, 3) := by decide +kernel
theorem d_Rw_at_17 : decode prog_7_method_3_code 17 = .ok (.arraylength, 1) := by decide +kernel
theorem d_Rw_at_18 : decode prog_7_method_3_code 18 = .ok (.if_icmp .ge 16, 3) := by decide +kernel
theorem d_Rw_at_21 : decode prog_7_method_3_code 21 = .ok (.aload_n 0, 1) := by decide +kernel
theorem d_Rw_at_22 : decode prog_7_method_3_code 22 = .ok (.getfield 11, 3) := by decide +kernel
theorem d_Rw_at_25 : decode prog_7_method_3_code 25 = .ok (.iload_n 1, 1) := by decide +kernel
theorem d_Rw_at_26 : decode prog_7_method_3_code 26 = .ok (.baload, 1) := by decide +kernel
theorem d_Rw_at_27 : decode prog_7_method_3_code 27 = .ok (.sipush 255, 3) := by decide +kernel
theorem d_Rw_at_30 : decode prog_7_method_3_code 30 = .ok (.iand, 1) := by decide +kernel
theorem d_Rw_at_31 : decode prog_7_method_3_code 31 = .ok (.goto 4, 3) := by decide +kernel
theorem d_Rw_at_34 : decode prog_7_method_3_code 34 = .ok (.iconst (-1), 1) := by decide +kernel
theorem d_Rw_at_35 : decode prog_7_method_3_code 35 = .ok (.ireturn, 1) := by decide +kernel
set_option maxHeartbeats 4000000 in
set_option maxRecDepth 100000 in
theorem c_Rw_at (l : Launch) (D : va_G) (cI cB cJ cS : ClassId) (h0 : Nat) (a_bytes_h0 : Nat) (p1 : Int32) (size_h0 : Int32) (n_a_bytes_h0 : Nat) (b_a_bytes_h0 : Nat → Int32) (ret : Int32) (h : F_Rw_at p1 size_h0 n_a_bytes_h0 b_a_bytes_h0 = some ret) : Ct l D (gT cI cB cJ cS) y_Rw_at prog_7_method_3_code 2 (Option.some Jvm.ClassFile.FieldType.int) 0 0 0 0 [.ref h0, .int p1] [(h0, .inr (3, [.ref a_bytes_h0, .int size_h0])), (a_bytes_h0, .inl (cB, n_a_bytes_h0, .inl b_a_bytes_h0))] (fun v w => v = some (.int ret) ∧ w = [(h0, .inr (3, [.ref a_bytes_h0, .int size_h0])), (a_bytes_h0, .inl (cB, n_a_bytes_h0, .inl b_a_bytes_h0))]) := by
  refine Ct.mk (by decide) (Nat.le_of_ble_eq_true rfl) ?_
  intro p e s m below meth c hr hnm
  refine j_norm (pc' := 0) (lv' := [(0, .ref h0), (1, .int p1)]) (st' := []) (ws' := [(h0, .inr (3, [.ref a_bytes_h0, .int size_h0])), (a_bytes_h0, .inl (cB, n_a_bytes_h0, .inl b_a_bytes_h0))]) (cl' := 0) (sl' := 0) rfl rfl rfl rfl rfl rfl ?_
  unfold F_Rw_at at h
  refine j_iload_n d_Rw_at_0 rfl 1 rfl ?_
  refine j_if_lt (tgt := 34) d_Rw_at_1 (by decide) (fun c1 => ?_) (fun c1 => ?_)
  · replace h := it_t c1 h
    refine j_iconst (v := (-1)) d_Rw_at_34 (by decide) ?_
    replace h := Option.some.inj h
    subst h
    exact j_iret (w := [(h0, .inr (3, [.ref a_bytes_h0, .int size_h0])), (a_bytes_h0, .inl (cB, n_a_bytes_h0, .inl b_a_bytes_h0))]) hr d_Rw_at_35 [0, 1] rfl (by decide) ⟨rfl, rfl⟩
  · replace h := it_f c1 h
    refine j_iload_n d_Rw_at_4 rfl 1 rfl ?_
    refine j_aload_n d_Rw_at_5 rfl 0 rfl ?_
    refine j_get ig_Rw rfl 0 rfl 1 (by decide) rfl m_50 rfl d_Rw_at_6 ?_
    refine j_icmp_ge (tgt := 34) d_Rw_at_9 (by decide) (fun c2 => ?_) (fun c2 => ?_)
    · replace h := it_t c2 h
      refine j_iconst (v := (-1)) d_Rw_at_34 (by decide) ?_
      replace h := Option.some.inj h
      subst h
      exact j_iret (w := [(h0, .inr (3, [.ref a_bytes_h0, .int size_h0])), (a_bytes_h0, .inl (cB, n_a_bytes_h0, .inl b_a_bytes_h0))]) hr d_Rw_at_35 [0, 1] rfl (by decide) ⟨rfl, rfl⟩
    · replace h := it_f c2 h
      refine j_iload_n d_Rw_at_12 rfl 1 rfl ?_
      refine j_aload_n d_Rw_at_13 rfl 0 rfl ?_
      refine j_get ig_Rw rfl 0 rfl 0 (by decide) rfl m_49 rfl d_Rw_at_14 ?_
      refine j_alen (t0 := 1) 1 rfl rfl rfl d_Rw_at_17 ?_
      refine j_icmp_ge (tgt := 34) d_Rw_at_18 (by decide) (fun c3 => ?_) (fun c3 => ?_)
      · replace h := it_t c3 h
        refine j_iconst (v := (-1)) d_Rw_at_34 (by decide) ?_
        replace h := Option.some.inj h
        subst h
        exact j_iret (w := [(h0, .inr (3, [.ref a_bytes_h0, .int size_h0])), (a_bytes_h0, .inl (cB, n_a_bytes_h0, .inl b_a_bytes_h0))]) hr d_Rw_at_35 [0, 1] rfl (by decide) ⟨rfl, rfl⟩
      · replace h := it_f c3 h
        refine j_aload_n d_Rw_at_21 rfl 0 rfl ?_
        refine j_get ig_Rw rfl 0 rfl 0 (by decide) rfl m_49 rfl d_Rw_at_22 ?_
        refine j_iload_n d_Rw_at_25 rfl 1 rfl ?_
        replace h := inb_s h
        obtain ⟨i4, h⟩ := h
        refine j_bald (t0 := 1) 1 rfl rfl i4 d_Rw_at_26 ?_
        refine j_sipush (v := 255) d_Rw_at_27 (by decide) ?_
        refine j_iand d_Rw_at_30 ?_
        refine j_goto (tgt := 35) d_Rw_at_31 (by decide) ?_
        replace h := Option.some.inj h
        subst h
        exact j_iret (w := [(h0, .inr (3, [.ref a_bytes_h0, .int size_h0])), (a_bytes_h0, .inl (cB, n_a_bytes_h0, .inl b_a_bytes_h0))]) hr d_Rw_at_35 [0, 1] rfl (by decide) ⟨rfl, rfl⟩
def F_Rw_cut (p1 : Int32) (size_h0 : Int32) : (Int32) :=
  if p1 < 0 then size_h0
  else if size_h0 ≤ p1 then size_h0
  else p1
theorem d_Rw_cut_0 : decode prog_7_method_6_code 0 = .ok (.iload_n 1, 1) := by decide +kernel
theorem d_Rw_cut_1 : decode prog_7_method_6_code 1 = .ok (.ifCond .lt 16, 3) := by decide +kernel
theorem d_Rw_cut_4 : decode prog_7_method_6_code 4 = .ok (.iload_n 1, 1) := by decide +kernel
theorem d_Rw_cut_5 : decode prog_7_method_6_code 5 = .ok (.aload_n 0, 1) := by decide +kernel
theorem d_Rw_cut_6 : decode prog_7_method_6_code 6 = .ok (.getfield 15, 3) := by decide +kernel
theorem d_Rw_cut_9 : decode prog_7_method_6_code 9 = .ok (.if_icmp .ge 8, 3) := by decide +kernel
theorem d_Rw_cut_12 : decode prog_7_method_6_code 12 = .ok (.aload_n 0, 1) := by decide +kernel
theorem d_Rw_cut_13 : decode prog_7_method_6_code 13 = .ok (.iload_n 1, 1) := by decide +kernel
theorem d_Rw_cut_14 : decode prog_7_method_6_code 14 = .ok (.putfield 15, 3) := by decide +kernel
theorem d_Rw_cut_17 : decode prog_7_method_6_code 17 = .ok (.return_, 1) := by decide +kernel
set_option maxHeartbeats 4000000 in
set_option maxRecDepth 100000 in
theorem c_Rw_cut (l : Launch) (D : va_G) (cI cB cJ cS : ClassId) (h0 : Nat) (a_bytes_h0 : Nat) (p1 : Int32) (size_h0 : Int32) (o_0_1 : Int32) (h : F_Rw_cut p1 size_h0 = o_0_1) : Ct l D (gT cI cB cJ cS) y_Rw_cut prog_7_method_6_code 2 (Option.none : Option Jvm.ClassFile.FieldType) 0 0 0 0 [.ref h0, .int p1] [(h0, .inr (3, [.ref a_bytes_h0, .int size_h0]))] (fun v w => v = none ∧ w = [(h0, .inr (3, [.ref a_bytes_h0, .int o_0_1]))]) := by
  refine Ct.mk (by decide) (Nat.le_of_ble_eq_true rfl) ?_
  intro p e s m below meth c hr hnm
  refine j_norm (pc' := 0) (lv' := [(0, .ref h0), (1, .int p1)]) (st' := []) (ws' := [(h0, .inr (3, [.ref a_bytes_h0, .int size_h0]))]) (cl' := 0) (sl' := 0) rfl rfl rfl rfl rfl rfl ?_
  unfold F_Rw_cut at h
  refine j_iload_n d_Rw_cut_0 rfl 1 rfl ?_
  refine j_if_lt (tgt := 17) d_Rw_cut_1 (by decide) (fun c1 => ?_) (fun c1 => ?_)
  · replace h := it_t c1 h
    subst h
    exact j_vret (w := [(h0, .inr (3, [.ref a_bytes_h0, .int size_h0]))]) hr d_Rw_cut_17 [0] rfl (by decide) ⟨rfl, rfl⟩
  · replace h := it_f c1 h
    refine j_iload_n d_Rw_cut_4 rfl 1 rfl ?_
    refine j_aload_n d_Rw_cut_5 rfl 0 rfl ?_
    refine j_get ig_Rw rfl 0 rfl 1 (by decide) rfl m_50 rfl d_Rw_cut_6 ?_
    refine j_icmp_ge (tgt := 17) d_Rw_cut_9 (by decide) (fun c2 => ?_) (fun c2 => ?_)
    · replace h := it_t c2 h
      subst h
      exact j_vret (w := [(h0, .inr (3, [.ref a_bytes_h0, .int size_h0]))]) hr d_Rw_cut_17 [0] rfl (by decide) ⟨rfl, rfl⟩
    · replace h := it_f c2 h
      refine j_aload_n d_Rw_cut_12 rfl 0 rfl ?_
      refine j_iload_n d_Rw_cut_13 rfl 1 rfl ?_
      refine j_put (ws' := [(h0, .inr (3, [.ref a_bytes_h0, .int p1]))]) ig_Rw tk_Rw nm_Rw rfl 0 rfl 1 (by decide) rfl m_50 rfl (tk_Rw 1 (by decide)) rfl rfl (Nat.le_of_ble_eq_true rfl) d_Rw_cut_14 rfl ?_
      subst h
      exact j_vret (w := [(h0, .inr (3, [.ref a_bytes_h0, .int p1]))]) hr d_Rw_cut_17 [0] rfl (by decide) ⟨rfl, rfl⟩
def F_Rw_same_3 (p1 : Int32) (p2 : Int32) (p3 : Int32) (size_h0 : Int32) (n_a_bytes_h0 : Nat) (b_a_bytes_h0 : Nat → Int32) : Nat → Int32 → Option (Int32)
  | 0, _ => none
  | k_3 + 1, v4_3 =>
    if p3 ≤ v4_3 then (some 1)
    else (Option.bind (F_Rw_at (p1 + v4_3) size_h0 n_a_bytes_h0 b_a_bytes_h0) fun r2 =>
      Option.bind (F_Rw_at (p2 + v4_3) size_h0 n_a_bytes_h0 b_a_bytes_h0) fun r4 =>
      if r2 = r4 then (F_Rw_same_3 p1 p2 p3 size_h0 n_a_bytes_h0 b_a_bytes_h0  k_3 (v4_3 + 1))
      else (some 0))
def F_Rw_same (p1 : Int32) (p2 : Int32) (p3 : Int32) (size_h0 : Int32) (n_a_bytes_h0 : Nat) (b_a_bytes_h0 : Nat → Int32) : Option (Int32) :=
  F_Rw_same_3 p1 p2 p3 size_h0 n_a_bytes_h0 b_a_bytes_h0  FU 0
theorem d_Rw_same_0 : decode prog_7_method_8_code 0 = .ok (.iconst 0, 1) := by decide +kernel
theorem d_Rw_same_1 : decode prog_7_method_8_code 1 = .ok (.istore 4, 2) := by decide +kernel
theorem d_Rw_same_3 : decode prog_7_method_8_code 3 = .ok (.iload 4, 2) := by decide +kernel
theorem d_Rw_same_5 : decode prog_7_method_8_code 5 = .ok (.iload_n 3, 1) := by decide +kernel
theorem d_Rw_same_6 : decode prog_7_method_8_code 6 = .ok (.if_icmp .ge 30, 3) := by decide +kernel
theorem d_Rw_same_9 : decode prog_7_method_8_code 9 = .ok (.aload_n 0, 1) := by decide +kernel
theorem d_Rw_same_10 : decode prog_7_method_8_code 10 = .ok (.iload_n 1, 1) := by decide +kernel
theorem d_Rw_same_11 : decode prog_7_method_8_code 11 = .ok (.iload 4, 2) := by decide +kernel
theorem d_Rw_same_13 : decode prog_7_method_8_code 13 = .ok (.iadd, 1) := by decide +kernel
theorem d_Rw_same_14 : decode prog_7_method_8_code 14 = .ok (.invokevirtual 30, 3) := by decide +kernel
theorem d_Rw_same_17 : decode prog_7_method_8_code 17 = .ok (.aload_n 0, 1) := by decide +kernel
theorem d_Rw_same_18 : decode prog_7_method_8_code 18 = .ok (.iload_n 2, 1) := by decide +kernel
theorem d_Rw_same_19 : decode prog_7_method_8_code 19 = .ok (.iload 4, 2) := by decide +kernel
theorem d_Rw_same_21 : decode prog_7_method_8_code 21 = .ok (.iadd, 1) := by decide +kernel
theorem d_Rw_same_22 : decode prog_7_method_8_code 22 = .ok (.invokevirtual 30, 3) := by decide +kernel
theorem d_Rw_same_25 : decode prog_7_method_8_code 25 = .ok (.if_icmp .eq 5, 3) := by decide +kernel
theorem d_Rw_same_28 : decode prog_7_method_8_code 28 = .ok (.iconst 0, 1) := by decide +kernel
theorem d_Rw_same_29 : decode prog_7_method_8_code 29 = .ok (.ireturn, 1) := by decide +kernel
theorem d_Rw_same_30 : decode prog_7_method_8_code 30 = .ok (.iinc 4 1, 3) := by decide +kernel
theorem d_Rw_same_33 : decode prog_7_method_8_code 33 = .ok (.goto (-30), 3) := by decide +kernel
theorem d_Rw_same_36 : decode prog_7_method_8_code 36 = .ok (.iconst 1, 1) := by decide +kernel
theorem d_Rw_same_37 : decode prog_7_method_8_code 37 = .ok (.ireturn, 1) := by decide +kernel
set_option maxHeartbeats 4000000 in
set_option maxRecDepth 100000 in
theorem L_Rw_same_3 (l : Launch) (D : va_G) (cI cB cJ cS : ClassId) (h0 : Nat) (a_bytes_h0 : Nat) (p1 : Int32) (p2 : Int32) (p3 : Int32) (size_h0 : Int32) (n_a_bytes_h0 : Nat) (b_a_bytes_h0 : Nat → Int32) (ret : Int32) (p : Program) (e : Env) (s : State) (m : MethodId) (below : List Frame) (meth : Method) (c : Code) (hr : meth.sig.returnType = (Option.some Jvm.ClassFile.FieldType.boolean)) (hnm : meth.name = y_Rw_same.name) : ∀ (k_3 : Nat) (v4_3 : Int32), F_Rw_same_3 p1 p2 p3 size_h0 n_a_bytes_h0 b_a_bytes_h0  k_3 v4_3 = some ret → J (KxOf p l e { frames := 1, cells := 0, slots := 0, locals := 21 } s m [.ref h0, .int p1, .int p2, .int p3].toArray below meth c D (gT cI cB cJ cS) [(h0, .inr (3, [.ref a_bytes_h0, .int size_h0])), (a_bytes_h0, .inl (cB, n_a_bytes_h0, .inl b_a_bytes_h0))] (fun v w => v = some (.int ret) ∧ zb ret ∧ w = [(h0, .inr (3, [.ref a_bytes_h0, .int size_h0])), (a_bytes_h0, .inl (cB, n_a_bytes_h0, .inl b_a_bytes_h0))]) 0 0) prog_7_method_8_code 5 R_Rw 3 [(4, .int v4_3), (0, .ref h0), (1, .int p1), (2, .int p2), (3, .int p3)] [] [(h0, .inr (3, [.ref a_bytes_h0, .int size_h0])), (a_bytes_h0, .inl (cB, n_a_bytes_h0, .inl b_a_bytes_h0))] 0 0 := by
  intro k_3
  induction k_3 with
  | zero => intro v4_3 h; rw [F_Rw_same_3] at h; cases h
  | succ k_3 ih_3 =>
    intro v4_3 h
    rw [F_Rw_same_3] at h
    refine j_iload d_Rw_same_3 0 rfl ?_
    refine j_iload_n d_Rw_same_5 rfl 4 rfl ?_
    refine j_icmp_ge (tgt := 36) d_Rw_same_6 (by decide) (fun c1 => ?_) (fun c1 => ?_)
    · replace h := it_t c1 h
      refine j_iconst (v := 1) d_Rw_same_36 (by decide) ?_
      replace h := Option.some.inj h
      subst h
      exact j_zret (w := [(h0, .inr (3, [.ref a_bytes_h0, .int size_h0])), (a_bytes_h0, .inl (cB, n_a_bytes_h0, .inl b_a_bytes_h0))]) hr (zb_n zb1) d_Rw_same_37 [0, 1] rfl (by decide) ⟨rfl, zb1, rfl⟩
    · replace h := it_f c1 h
      refine j_aload_n d_Rw_same_9 rfl 1 rfl ?_
      refine j_iload_n d_Rw_same_10 rfl 2 rfl ?_
      refine j_iload d_Rw_same_11 0 rfl ?_
      refine j_iadd d_Rw_same_13 ?_
      replace h := bd_s h
      obtain ⟨r2, k3, h⟩ := h
      refine j_callV (n := 1) (As := [.int (p1 + v4_3)]) (rest := []) (wr := []) (c_Rw_at l D cI cB cJ cS h0 a_bytes_h0 (p1 + v4_3) size_h0 n_a_bytes_h0 b_a_bytes_h0  r2 k3) k_Rw_30 (by decide) ⟨Nat.le_of_ble_eq_true rfl, Nat.le_of_ble_eq_true rfl⟩ rfl 0 rfl [0, 1] [] rfl (by decide) rfl (by decide) (by decide) rfl rfl (Nat.le_of_ble_eq_true rfl) d_Rw_same_14 ⟨Nat.le_of_ble_eq_true rfl, Nat.le_of_ble_eq_true rfl⟩ (fun v w hq => ?_)
      obtain ⟨rfl, rfl⟩ := hq
      refine j_norm (pc' := 17) (st' := [.int r2]) (ws' := [(h0, .inr (3, [.ref a_bytes_h0, .int size_h0])), (a_bytes_h0, .inl (cB, n_a_bytes_h0, .inl b_a_bytes_h0))]) (cl' := 0) (sl' := 0) rfl rfl rfl rfl rfl rfl ?_
      refine j_aload_n d_Rw_same_17 rfl 1 rfl ?_
      refine j_iload_n d_Rw_same_18 rfl 3 rfl ?_
      refine j_iload d_Rw_same_19 0 rfl ?_
      refine j_iadd d_Rw_same_21 ?_
      replace h := bd_s h
      obtain ⟨r4, k5, h⟩ := h
      refine j_callV (n := 1) (As := [.int (p2 + v4_3)]) (rest := [.int r2]) (wr := []) (c_Rw_at l D cI cB cJ cS h0 a_bytes_h0 (p2 + v4_3) size_h0 n_a_bytes_h0 b_a_bytes_h0  r4 k5) k_Rw_30 (by decide) ⟨Nat.le_of_ble_eq_true rfl, Nat.le_of_ble_eq_true rfl⟩ rfl 0 rfl [0, 1] [] rfl (by decide) rfl (by decide) (by decide) rfl rfl (Nat.le_of_ble_eq_true rfl) d_Rw_same_22 ⟨Nat.le_of_ble_eq_true rfl, Nat.le_of_ble_eq_true rfl⟩ (fun v w hq => ?_)
      obtain ⟨rfl, rfl⟩ := hq
      refine j_norm (pc' := 25) (st' := [.int r4, .int r2]) (ws' := [(h0, .inr (3, [.ref a_bytes_h0, .int size_h0])), (a_bytes_h0, .inl (cB, n_a_bytes_h0, .inl b_a_bytes_h0))]) (cl' := 0) (sl' := 0) rfl rfl rfl rfl rfl rfl ?_
      refine j_icmp_eq (tgt := 30) d_Rw_same_25 (by decide) (fun c6 => ?_) (fun c6 => ?_)
      · replace h := it_t c6 h
        refine j_iinc (v := v4_3 + 1) (lv' := [(4, .int (v4_3 + 1)), (0, .ref h0), (1, .int p1), (2, .int p2), (3, .int p3)]) d_Rw_same_30 0 rfl rfl (by decide) rfl ?_
        refine j_goto (tgt := 3) d_Rw_same_33 (by decide) ?_
        refine j_sub (w := [(h0, .inr (3, [.ref a_bytes_h0, .int size_h0])), (a_bytes_h0, .inl (cB, n_a_bytes_h0, .inl b_a_bytes_h0))]) (lv' := [(4, .int (v4_3 + 1)), (0, .ref h0), (1, .int p1), (2, .int p2), (3, .int p3)]) [0, 1] rfl (by decide) [0, 1, 2, 3, 4] rfl ?_
        exact ih_3 (v4_3 + 1) h
      · replace h := it_f c6 h
        refine j_iconst (v := 0) d_Rw_same_28 (by decide) ?_
        replace h := Option.some.inj h
        subst h
        exact j_zret (w := [(h0, .inr (3, [.ref a_bytes_h0, .int size_h0])), (a_bytes_h0, .inl (cB, n_a_bytes_h0, .inl b_a_bytes_h0))]) hr (zb_n zb0) d_Rw_same_29 [0, 1] rfl (by decide) ⟨rfl, zb0, rfl⟩
set_option maxHeartbeats 4000000 in
set_option maxRecDepth 100000 in
theorem c_Rw_same (l : Launch) (D : va_G) (cI cB cJ cS : ClassId) (h0 : Nat) (a_bytes_h0 : Nat) (p1 : Int32) (p2 : Int32) (p3 : Int32) (size_h0 : Int32) (n_a_bytes_h0 : Nat) (b_a_bytes_h0 : Nat → Int32) (ret : Int32) (h : F_Rw_same p1 p2 p3 size_h0 n_a_bytes_h0 b_a_bytes_h0 = some ret) : Ct l D (gT cI cB cJ cS) y_Rw_same prog_7_method_8_code 5 (Option.some Jvm.ClassFile.FieldType.boolean) 1 21 0 0 [.ref h0, .int p1, .int p2, .int p3] [(h0, .inr (3, [.ref a_bytes_h0, .int size_h0])), (a_bytes_h0, .inl (cB, n_a_bytes_h0, .inl b_a_bytes_h0))] (fun v w => v = some (.int ret) ∧ zb ret ∧ w = [(h0, .inr (3, [.ref a_bytes_h0, .int size_h0])), (a_bytes_h0, .inl (cB, n_a_bytes_h0, .inl b_a_bytes_h0))]) := by
  refine Ct.mk (by decide) (Nat.le_of_ble_eq_true rfl) ?_
  intro p e s m below meth c hr hnm
  refine j_norm (pc' := 0) (lv' := [(0, .ref h0), (1, .int p1), (2, .int p2), (3, .int p3)]) (st' := []) (ws' := [(h0, .inr (3, [.ref a_bytes_h0, .int size_h0])), (a_bytes_h0, .inl (cB, n_a_bytes_h0, .inl b_a_bytes_h0))]) (cl' := 0) (sl' := 0) rfl rfl rfl rfl rfl rfl ?_
  unfold F_Rw_same at h
  refine j_iconst (v := 0) d_Rw_same_0 (by decide) ?_
  refine j_istore (lv' := [(4, .int 0), (0, .ref h0), (1, .int p1), (2, .int p2), (3, .int p3)]) d_Rw_same_1 (by decide) rfl ?_
  refine j_sub (w := [(h0, .inr (3, [.ref a_bytes_h0, .int size_h0])), (a_bytes_h0, .inl (cB, n_a_bytes_h0, .inl b_a_bytes_h0))]) (lv' := [(4, .int 0), (0, .ref h0), (1, .int p1), (2, .int p2), (3, .int p3)]) [0, 1] rfl (by decide) [0, 1, 2, 3, 4] rfl ?_
  exact L_Rw_same_3 l D cI cB cJ cS h0 a_bytes_h0 p1 p2 p3 size_h0 n_a_bytes_h0 b_a_bytes_h0 ret p e s m below meth c hr hnm FU 0 h
noncomputable def F_Tk_init : Option ((Unit) × Nat × Nat) :=
  nwa 64 (some ((), 0, 0))
theorem d_Tk_init_0 : decode prog_9_method_1_code 0 = .ok (.aload_n 0, 1) := by decide +kernel
theorem d_Tk_init_1 : decode prog_9_method_1_code 1 = .ok (.invokespecial 3, 3) := by decide +kernel
theorem d_Tk_init_4 : decode prog_9_method_1_code 4 = .ok (.aload_n 0, 1) := by decide +kernel
theorem d_Tk_init_5 : decode prog_9_method_1_code 5 = .ok (.bipush 64, 2) := by decide +kernel
theorem d_Tk_init_7 : decode prog_9_method_1_code 7 = .ok (.newarray .int, 2) := by decide +kernel
theorem d_Tk_init_9 : decode prog_9_method_1_code 9 = .ok (.putfield 11, 3) := by decide +kernel
theorem d_Tk_init_12 : decode prog_9_method_1_code 12 = .ok (.aload_n 0, 1) := by decide +kernel
theorem d_Tk_init_13 : decode prog_9_method_1_code 13 = .ok (.iconst 0, 1) := by decide +kernel
theorem d_Tk_init_14 : decode prog_9_method_1_code 14 = .ok (.putfield 15, 3) := by decide +kernel
theorem d_Tk_init_17 : decode prog_9_method_1_code 17 = .ok (.return_, 1) := by decide +kernel
set_option maxHeartbeats 4000000 in
set_option maxRecDepth 100000 in
theorem c_Tk_init (l : Launch) (D : va_G) (cI cB cJ cS : ClassId) (h0 : Nat) (mc ms : Nat) (h : F_Tk_init  = some ((), mc, ms)) : Ct l D (gT cI cB cJ cS) y_Tk_init prog_9_method_1_code 1 (Option.none : Option Jvm.ClassFile.FieldType) 1 20 mc ms [.ref h0] [(h0, .inr (5, [.null, .int 0]))] (fun v w => ∃ nq_0_0 : Nat, v = none ∧ w = [(h0, .inr (5, [.ref nq_0_0, .int 0])), (nq_0_0, .inl (cI, 64, .inl (fun _ => 0)))]) := by
  refine Ct.mk (by decide) (Nat.le_of_ble_eq_true rfl) ?_
  intro p e s m below meth c hr hnm
  refine j_norm (pc' := 0) (lv' := [(0, .ref h0)]) (st' := []) (ws' := [(h0, .inr (5, [.null, .int 0]))]) (cl' := 0) (sl' := 0) rfl rfl rfl rfl rfl rfl ?_
  unfold F_Tk_init at h
  have hC : 0 + mc ≤ mc := by omega
  have hS : 0 + ms ≤ ms := by omega
  refine j_aload_n d_Tk_init_0 rfl 0 rfl ?_
  refine j_oinit m_92 m_29 mc_obj (Nat.le_of_ble_eq_true rfl) (Nat.le_of_ble_eq_true rfl) d_Tk_init_1 ?_
  refine j_aload_n d_Tk_init_4 rfl 0 rfl ?_
  refine j_bipush (v := 64) d_Tk_init_5 (by decide) ?_
  replace h := nwa_s h
  obtain ⟨i4, i5, C2, S3, h, e1, e2⟩ := h
  rw [show Int32.toNatClampNeg 64 = 64 by decide] at e2
  replace hC : 0 + 1 + C2 ≤ mc := by omega
  replace hS : 0 + 64 + S3 ≤ ms := by omega
  clear e1 e2
  refine j_newa (atype := .int) (ty := .int) (t0 := 0) (cA := cI) (a0 := (64, .inl (fun _ => 0))) m_86 rfl rfl (fun _ => rfl) i4 (by decide) (by decide) (show 0 + 1 ≤ mc by omega) (show 0 + 64 ≤ ms by omega) d_Tk_init_7 (fun q1 => ?_)
  refine j_norm (pc' := 9) (st' := [.ref q1, .ref h0]) (ws' := [(h0, .inr (5, [.null, .int 0])), (q1, .inl (cI, 64, .inl (fun _ => 0)))]) (cl' := 0 + 1) (sl' := 0 + 64) rfl rfl rfl rfl rfl rfl ?_
  refine j_put (ws' := [(h0, .inr (5, [.ref q1, .int 0])), (q1, .inl (cI, 64, .inl (fun _ => 0)))]) ig_Tk tk_Tk nm_Tk rfl 0 rfl 0 (by decide) rfl m_93 rfl (tk_Tk 0 (by decide)) rfl rfl (Nat.le_of_ble_eq_true rfl) d_Tk_init_9 rfl ?_
  refine j_aload_n d_Tk_init_12 rfl 0 rfl ?_
  refine j_iconst (v := 0) d_Tk_init_13 (by decide) ?_
  refine j_put (ws' := [(h0, .inr (5, [.ref q1, .int 0])), (q1, .inl (cI, 64, .inl (fun _ => 0)))]) ig_Tk tk_Tk nm_Tk rfl 0 rfl 1 (by decide) rfl m_94 rfl (tk_Tk 1 (by decide)) rfl rfl (Nat.le_of_ble_eq_true rfl) d_Tk_init_14 rfl ?_
  replace h := lf_s h
  obtain ⟨h, e1, e2⟩ := h
  refine j_widen (cl' := mc) (sl' := ms) (by omega) (by omega) ?_
  exact j_vret (w := [(h0, .inr (5, [.ref q1, .int 0])), (q1, .inl (cI, 64, .inl (fun _ => 0)))]) hr d_Tk_init_17 [0, 1] rfl (by decide) ⟨q1, rfl, rfl⟩
theorem d_Tk_count_0 : decode prog_9_method_2_code 0 = .ok (.aload_n 0, 1) := by decide +kernel
theorem d_Tk_count_1 : decode prog_9_method_2_code 1 = .ok (.getfield 15, 3) := by decide +kernel
theorem d_Tk_count_4 : decode prog_9_method_2_code 4 = .ok (.ireturn, 1) := by decide +kernel
set_option maxHeartbeats 4000000 in
set_option maxRecDepth 100000 in
theorem c_Tk_count (l : Launch) (D : va_G) (cI cB cJ cS : ClassId) (h0 : Nat) (a_cells_h0 : Nat) (count_h0 : Int32) : Ct l D (gT cI cB cJ cS) y_Tk_count prog_9_method_2_code 1 (Option.some Jvm.ClassFile.FieldType.int) 0 0 0 0 [.ref h0] [(h0, .inr (5, [.ref a_cells_h0, .int count_h0]))] (fun v w => v = some (.int count_h0) ∧ w = [(h0, .inr (5, [.ref a_cells_h0, .int count_h0]))]) := by
  refine Ct.mk (by decide) (Nat.le_of_ble_eq_true rfl) ?_
  intro p e s m below meth c hr hnm
  refine j_norm (pc' := 0) (lv' := [(0, .ref h0)]) (st' := []) (ws' := [(h0, .inr (5, [.ref a_cells_h0, .int count_h0]))]) (cl' := 0) (sl' := 0) rfl rfl rfl rfl rfl rfl ?_
  refine j_aload_n d_Tk_count_0 rfl 0 rfl ?_
  refine j_get ig_Tk rfl 0 rfl 1 (by decide) rfl m_94 rfl d_Tk_count_1 ?_
  exact j_iret (w := [(h0, .inr (5, [.ref a_cells_h0, .int count_h0]))]) hr d_Tk_count_4 [0] rfl (by decide) ⟨rfl, rfl⟩
theorem d_Tk_clear_0 : decode prog_9_method_3_code 0 = .ok (.aload_n 0, 1) := by decide +kernel
theorem d_Tk_clear_1 : decode prog_9_method_3_code 1 = .ok (.iconst 0, 1) := by decide +kernel
theorem d_Tk_clear_2 : decode prog_9_method_3_code 2 = .ok (.putfield 15, 3) := by decide +kernel
theorem d_Tk_clear_5 : decode prog_9_method_3_code 5 = .ok (.return_, 1) := by decide +kernel
set_option maxHeartbeats 4000000 in
set_option maxRecDepth 100000 in
theorem c_Tk_clear (l : Launch) (D : va_G) (cI cB cJ cS : ClassId) (h0 : Nat) (a_cells_h0 : Nat) (count_h0 : Int32) : Ct l D (gT cI cB cJ cS) y_Tk_clear prog_9_method_3_code 1 (Option.none : Option Jvm.ClassFile.FieldType) 0 0 0 0 [.ref h0] [(h0, .inr (5, [.ref a_cells_h0, .int count_h0]))] (fun v w => v = none ∧ w = [(h0, .inr (5, [.ref a_cells_h0, .int 0]))]) := by
  refine Ct.mk (by decide) (Nat.le_of_ble_eq_true rfl) ?_
  intro p e s m below meth c hr hnm
  refine j_norm (pc' := 0) (lv' := [(0, .ref h0)]) (st' := []) (ws' := [(h0, .inr (5, [.ref a_cells_h0, .int count_h0]))]) (cl' := 0) (sl' := 0) rfl rfl rfl rfl rfl rfl ?_
  refine j_aload_n d_Tk_clear_0 rfl 0 rfl ?_
  refine j_iconst (v := 0) d_Tk_clear_1 (by decide) ?_
  refine j_put (ws' := [(h0, .inr (5, [.ref a_cells_h0, .int 0]))]) ig_Tk tk_Tk nm_Tk rfl 0 rfl 1 (by decide) rfl m_94 rfl (tk_Tk 1 (by decide)) rfl rfl (Nat.le_of_ble_eq_true rfl) d_Tk_clear_2 rfl ?_
  exact j_vret (w := [(h0, .inr (5, [.ref a_cells_h0, .int 0]))]) hr d_Tk_clear_5 [0] rfl (by decide) ⟨rfl, rfl⟩
def F_Tk_dropLast (count_h0 : Int32) : (Int32) :=
  if count_h0 ≤ 0 then count_h0
  else (count_h0 - 1)
theorem d_Tk_dropLast_0 : decode prog_9_method_5_code 0 = .ok (.aload_n 0, 1) := by decide +kernel
theorem d_Tk_dropLast_1 : decode prog_9_method_5_code 1 = .ok (.getfield 15, 3) := by decide +kernel
theorem d_Tk_dropLast_4 : decode prog_9_method_5_code 4 = .ok (.ifCond .le 13, 3) := by decide +kernel
theorem d_Tk_dropLast_7 : decode prog_9_method_5_code 7 = .ok (.aload_n 0, 1) := by decide +kernel
theorem d_Tk_dropLast_8 : decode prog_9_method_5_code 8 = .ok (.dup, 1) := by decide +kernel
theorem d_Tk_dropLast_9 : decode prog_9_method_5_code 9 = .ok (.getfield 15, 3) := by decide +kernel
theorem d_Tk_dropLast_12 : decode prog_9_method_5_code 12 = .ok (.iconst 1, 1) := by decide +kernel
theorem d_Tk_dropLast_13 : decode prog_9_method_5_code 13 = .ok (.isub, 1) := by decide +kernel
theorem d_Tk_dropLast_14 : decode prog_9_method_5_code 14 = .ok (.putfield 15, 3) := by decide +kernel
theorem d_Tk_dropLast_17 : decode prog_9_method_5_code 17 = .ok (.return_, 1) := by decide +kernel
set_option maxHeartbeats 4000000 in
set_option maxRecDepth 100000 in
theorem c_Tk_dropLast (l : Launch) (D : va_G) (cI cB cJ cS : ClassId) (h0 : Nat) (a_cells_h0 : Nat) (count_h0 : Int32) (o_0_1 : Int32) (h : F_Tk_dropLast count_h0 = o_0_1) : Ct l D (gT cI cB cJ cS) y_Tk_dropLast prog_9_method_5_code 1 (Option.none : Option Jvm.ClassFile.FieldType) 0 0 0 0 [.ref h0] [(h0, .inr (5, [.ref a_cells_h0, .int count_h0]))] (fun v w => v = none ∧ w = [(h0, .inr (5, [.ref a_cells_h0, .int o_0_1]))]) := by
  refine Ct.mk (by decide) (Nat.le_of_ble_eq_true rfl) ?_
  intro p e s m below meth c hr hnm
  refine j_norm (pc' := 0) (lv' := [(0, .ref h0)]) (st' := []) (ws' := [(h0, .inr (5, [.ref a_cells_h0, .int count_h0]))]) (cl' := 0) (sl' := 0) rfl rfl rfl rfl rfl rfl ?_
  unfold F_Tk_dropLast at h
  refine j_aload_n d_Tk_dropLast_0 rfl 0 rfl ?_
  refine j_get ig_Tk rfl 0 rfl 1 (by decide) rfl m_94 rfl d_Tk_dropLast_1 ?_
  refine j_if_le (tgt := 17) d_Tk_dropLast_4 (by decide) (fun c1 => ?_) (fun c1 => ?_)
  · replace h := it_t c1 h
    subst h
    exact j_vret (w := [(h0, .inr (5, [.ref a_cells_h0, .int count_h0]))]) hr d_Tk_dropLast_17 [0] rfl (by decide) ⟨rfl, rfl⟩
  · replace h := it_f c1 h
    refine j_aload_n d_Tk_dropLast_7 rfl 0 rfl ?_
    refine j_dup rfl d_Tk_dropLast_8 ?_
    refine j_get ig_Tk rfl 0 rfl 1 (by decide) rfl m_94 rfl d_Tk_dropLast_9 ?_
    refine j_iconst (v := 1) d_Tk_dropLast_12 (by decide) ?_
    refine j_isub d_Tk_dropLast_13 ?_
    refine j_put (ws' := [(h0, .inr (5, [.ref a_cells_h0, .int (count_h0 - 1)]))]) ig_Tk tk_Tk nm_Tk rfl 0 rfl 1 (by decide) rfl m_94 rfl (tk_Tk 1 (by decide)) rfl rfl (Nat.le_of_ble_eq_true rfl) d_Tk_dropLast_14 rfl ?_
    subst h
    exact j_vret (w := [(h0, .inr (5, [.ref a_cells_h0, .int (count_h0 - 1)]))]) hr d_Tk_dropLast_17 [0] rfl (by decide) ⟨rfl, rfl⟩
def F_Tk_get (p1 : Int32) (p2 : Int32) (count_h0 : Int32) (n_a_cells_h0 : Nat) (b_a_cells_h0 : Nat → Int32) : Option (Int32) :=
  if p1 < 0 then (some (-1))
  else if count_h0 ≤ p1 then (some (-1))
  else if p2 < 0 then (some (-1))
  else if 4 ≤ p2 then (some (-1))
  else (inb ((p1 * 4) + p2) n_a_cells_h0 (some (b_a_cells_h0 (Int32.toNatClampNeg ((p1 * 4) + p2)))))
theorem d_Tk_get_0 : decode prog_9_method_6_code 0 = .ok (.iload_n 1, 1) := by decide +kernel
theorem d_Tk_get_1 : decode prog_9_method_6_code 1 = .ok (.ifCond .lt 33, 3) := by decide +kernel
theorem d_Tk_get_4 : decode prog_9_method_6_code 4 = .ok (.iload_n 1, 1) := by decide +kernel
theorem d_Tk_get_5 : decode prog_9_method_6_code 5 = .ok (.aload_n 0, 1) := by decide +kernel
theorem d_Tk_get_6 : decode prog_9_method_6_code 6 = .ok (.getfield 15, 3) := by decide +kernel
theorem d_Tk_get_9 : decode prog_9_method_6_code 9 = .ok (.if_icmp .ge 25, 3) := by decide +kernel
theorem d_Tk_get_12 : decode prog_9_method_6_code 12 = .ok (.iload_n 2, 1) := by decide +kernel
theorem d_Tk_get_13 : decode prog_9_method_6_code 13 = .ok (.ifCond .lt 21, 3) := by decide +kernel
theorem d_Tk_get_16 : decode prog_9_method_6_code 16 = .ok (.iload_n 2, 1) := by decide +kernel
theorem d_Tk_get_17 : decode prog_9_method_6_code 17 = .ok (.iconst 4, 1) := by decide +kernel
theorem d_Tk_get_18 : decode prog_9_method_6_code 18 = .ok (.if_icmp .ge 16, 3) := by decide +kernel
theorem d_Tk_get_21 : decode prog_9_method_6_code 21 = .ok (.aload_n 0, 1) := by decide +kernel
theorem d_Tk_get_22 : decode prog_9_method_6_code 22 = .ok (.getfield 11, 3) := by decide +kernel
theorem d_Tk_get_25 : decode prog_9_method_6_code 25 = .ok (.iload_n 1, 1) := by decide +kernel
theorem d_Tk_get_26 : decode prog_9_method_6_code 26 = .ok (.iconst 4, 1) := by decide +kernel
theorem d_Tk_get_27 : decode prog_9_method_6_code 27 = .ok (.imul, 1) := by decide +kernel
theorem d_Tk_get_28 : decode prog_9_method_6_code 28 = .ok (.iload_n 2, 1) := by decide +kernel
theorem d_Tk_get_29 : decode prog_9_method_6_code 29 = .ok (.iadd, 1) := by decide +kernel
theorem d_Tk_get_30 : decode prog_9_method_6_code 30 = .ok (.iaload, 1) := by decide +kernel
theorem d_Tk_get_31 : decode prog_9_method_6_code 31 = .ok (.goto 4, 3) := by decide +kernel
theorem d_Tk_get_34 : decode prog_9_method_6_code 34 = .ok (.iconst (-1), 1) := by decide +kernel
theorem d_Tk_get_35 : decode prog_9_method_6_code 35 = .ok (.ireturn, 1) := by decide +kernel
set_option maxHeartbeats 4000000 in
set_option maxRecDepth 100000 in
theorem c_Tk_get (l : Launch) (D : va_G) (cI cB cJ cS : ClassId) (h0 : Nat) (a_cells_h0 : Nat) (p1 : Int32) (p2 : Int32) (count_h0 : Int32) (n_a_cells_h0 : Nat) (b_a_cells_h0 : Nat → Int32) (ret : Int32) (h : F_Tk_get p1 p2 count_h0 n_a_cells_h0 b_a_cells_h0 = some ret) : Ct l D (gT cI cB cJ cS) y_Tk_get prog_9_method_6_code 3 (Option.some Jvm.ClassFile.FieldType.int) 0 0 0 0 [.ref h0, .int p1, .int p2] [(h0, .inr (5, [.ref a_cells_h0, .int count_h0])), (a_cells_h0, .inl (cI, n_a_cells_h0, .inl b_a_cells_h0))] (fun v w => v = some (.int ret) ∧ w = [(h0, .inr (5, [.ref a_cells_h0, .int count_h0])), (a_cells_h0, .inl (cI, n_a_cells_h0, .inl b_a_cells_h0))]) := by
  refine Ct.mk (by decide) (Nat.le_of_ble_eq_true rfl) ?_
  intro p e s m below meth c hr hnm
  refine j_norm (pc' := 0) (lv' := [(0, .ref h0), (1, .int p1), (2, .int p2)]) (st' := []) (ws' := [(h0, .inr (5, [.ref a_cells_h0, .int count_h0])), (a_cells_h0, .inl (cI, n_a_cells_h0, .inl b_a_cells_h0))]) (cl' := 0) (sl' := 0) rfl rfl rfl rfl rfl rfl ?_
  unfold F_Tk_get at h
  refine j_iload_n d_Tk_get_0 rfl 1 rfl ?_
  refine j_if_lt (tgt := 34) d_Tk_get_1 (by decide) (fun c1 => ?_) (fun c1 => ?_)
  · replace h := it_t c1 h
    refine j_iconst (v := (-1)) d_Tk_get_34 (by decide) ?_
    replace h := Option.some.inj h
    subst h
    exact j_iret (w := [(h0, .inr (5, [.ref a_cells_h0, .int count_h0])), (a_cells_h0, .inl (cI, n_a_cells_h0, .inl b_a_cells_h0))]) hr d_Tk_get_35 [0, 1] rfl (by decide) ⟨rfl, rfl⟩
  · replace h := it_f c1 h
    refine j_iload_n d_Tk_get_4 rfl 1 rfl ?_
    refine j_aload_n d_Tk_get_5 rfl 0 rfl ?_
    refine j_get ig_Tk rfl 0 rfl 1 (by decide) rfl m_94 rfl d_Tk_get_6 ?_
    refine j_icmp_ge (tgt := 34) d_Tk_get_9 (by decide) (fun c2 => ?_) (fun c2 => ?_)
    · replace h := it_t c2 h
      refine j_iconst (v := (-1)) d_Tk_get_34 (by decide) ?_
      replace h := Option.some.inj h
      subst h
      exact j_iret (w := [(h0, .inr (5, [.ref a_cells_h0, .int count_h0])), (a_cells_h0, .inl (cI, n_a_cells_h0, .inl b_a_cells_h0))]) hr d_Tk_get_35 [0, 1] rfl (by decide) ⟨rfl, rfl⟩
    · replace h := it_f c2 h
      refine j_iload_n d_Tk_get_12 rfl 2 rfl ?_
      refine j_if_lt (tgt := 34) d_Tk_get_13 (by decide) (fun c3 => ?_) (fun c3 => ?_)
      · replace h := it_t c3 h
        refine j_iconst (v := (-1)) d_Tk_get_34 (by decide) ?_
        replace h := Option.some.inj h
        subst h
        exact j_iret (w := [(h0, .inr (5, [.ref a_cells_h0, .int count_h0])), (a_cells_h0, .inl (cI, n_a_cells_h0, .inl b_a_cells_h0))]) hr d_Tk_get_35 [0, 1] rfl (by decide) ⟨rfl, rfl⟩
      · replace h := it_f c3 h
        refine j_iload_n d_Tk_get_16 rfl 2 rfl ?_
        refine j_iconst (v := 4) d_Tk_get_17 (by decide) ?_
        refine j_icmp_ge (tgt := 34) d_Tk_get_18 (by decide) (fun c4 => ?_) (fun c4 => ?_)
        · replace h := it_t c4 h
          refine j_iconst (v := (-1)) d_Tk_get_34 (by decide) ?_
          replace h := Option.some.inj h
          subst h
          exact j_iret (w := [(h0, .inr (5, [.ref a_cells_h0, .int count_h0])), (a_cells_h0, .inl (cI, n_a_cells_h0, .inl b_a_cells_h0))]) hr d_Tk_get_35 [0, 1] rfl (by decide) ⟨rfl, rfl⟩
        · replace h := it_f c4 h
          refine j_aload_n d_Tk_get_21 rfl 0 rfl ?_
          refine j_get ig_Tk rfl 0 rfl 0 (by decide) rfl m_93 rfl d_Tk_get_22 ?_
          refine j_iload_n d_Tk_get_25 rfl 1 rfl ?_
          refine j_iconst (v := 4) d_Tk_get_26 (by decide) ?_
          refine j_imul d_Tk_get_27 ?_
          refine j_iload_n d_Tk_get_28 rfl 2 rfl ?_
          refine j_iadd d_Tk_get_29 ?_
          replace h := inb_s h
          obtain ⟨i5, h⟩ := h
          refine j_iald (t0 := 0) 1 rfl rfl i5 d_Tk_get_30 ?_
          refine j_goto (tgt := 35) d_Tk_get_31 (by decide) ?_
          replace h := Option.some.inj h
          subst h
          exact j_iret (w := [(h0, .inr (5, [.ref a_cells_h0, .int count_h0])), (a_cells_h0, .inl (cI, n_a_cells_h0, .inl b_a_cells_h0))]) hr d_Tk_get_35 [0, 1] rfl (by decide) ⟨rfl, rfl⟩
def F_Tk_last (p1 : Int32) (count_h0 : Int32) (n_a_cells_h0 : Nat) (b_a_cells_h0 : Nat → Int32) : Option (Int32) :=
  Option.bind (F_Tk_get (count_h0 - 1) p1 count_h0 n_a_cells_h0 b_a_cells_h0) fun r1 =>
  (some r1)
theorem d_Tk_last_0 : decode prog_9_method_7_code 0 = .ok (.aload_n 0, 1) := by decide +kernel
theorem d_Tk_last_1 : decode prog_9_method_7_code 1 = .ok (.aload_n 0, 1) := by decide +kernel
theorem d_Tk_last_2 : decode prog_9_method_7_code 2 = .ok (.getfield 15, 3) := by decide +kernel
theorem d_Tk_last_5 : decode prog_9_method_7_code 5 = .ok (.iconst 1, 1) := by decide +kernel
theorem d_Tk_last_6 : decode prog_9_method_7_code 6 = .ok (.isub, 1) := by decide +kernel
theorem d_Tk_last_7 : decode prog_9_method_7_code 7 = .ok (.iload_n 1, 1) := by decide +kernel
theorem d_Tk_last_8 : decode prog_9_method_7_code 8 = .ok (.invokevirtual 25, 3) := by decide +kernel
theorem d_Tk_last_11 : decode prog_9_method_7_code 11 = .ok (.ireturn, 1) := by decide +kernel
set_option maxHeartbeats 4000000 in
set_option maxRecDepth 100000 in
theorem c_Tk_last (l : Launch) (D : va_G) (cI cB cJ cS : ClassId) (h0 : Nat) (a_cells_h0 : Nat) (p1 : Int32) (count_h0 : Int32) (n_a_cells_h0 : Nat) (b_a_cells_h0 : Nat → Int32) (ret : Int32) (h : F_Tk_last p1 count_h0 n_a_cells_h0 b_a_cells_h0 = some ret) : Ct l D (gT cI cB cJ cS) y_Tk_last prog_9_method_7_code 2 (Option.some Jvm.ClassFile.FieldType.int) 1 22 0 0 [.ref h0, .int p1] [(h0, .inr (5, [.ref a_cells_h0, .int count_h0])), (a_cells_h0, .inl (cI, n_a_cells_h0, .inl b_a_cells_h0))] (fun v w => v = some (.int ret) ∧ w = [(h0, .inr (5, [.ref a_cells_h0, .int count_h0])), (a_cells_h0, .inl (cI, n_a_cells_h0, .inl b_a_cells_h0))]) := by
  refine Ct.mk (by decide) (Nat.le_of_ble_eq_true rfl) ?_
  intro p e s m below meth c hr hnm
  refine j_norm (pc' := 0) (lv' := [(0, .ref h0), (1, .int p1)]) (st' := []) (ws' := [(h0, .inr (5, [.ref a_cells_h0, .int count_h0])), (a_cells_h0, .inl (cI, n_a_cells_h0, .inl b_a_cells_h0))]) (cl' := 0) (sl' := 0) rfl rfl rfl rfl rfl rfl ?_
  unfold F_Tk_last at h
  refine j_aload_n d_Tk_last_0 rfl 0 rfl ?_
  refine j_aload_n d_Tk_last_1 rfl 0 rfl ?_
  refine j_get ig_Tk rfl 0 rfl 1 (by decide) rfl m_94 rfl d_Tk_last_2 ?_
  refine j_iconst (v := 1) d_Tk_last_5 (by decide) ?_
  refine j_isub d_Tk_last_6 ?_
  refine j_iload_n d_Tk_last_7 rfl 1 rfl ?_
  replace h := bd_s h
  obtain ⟨r1, k2, h⟩ := h
  refine j_callV (n := 2) (As := [.int (count_h0 - 1), .int p1]) (rest := []) (wr := []) (c_Tk_get l D cI cB cJ cS h0 a_cells_h0 (count_h0 - 1) p1 count_h0 n_a_cells_h0 b_a_cells_h0  r1 k2) k_Tk_25 (by decide) ⟨Nat.le_of_ble_eq_true rfl, Nat.le_of_ble_eq_true rfl⟩ rfl 0 rfl [0, 1] [] rfl (by decide) rfl (by decide) (by decide) rfl rfl (Nat.le_of_ble_eq_true rfl) d_Tk_last_8 ⟨Nat.le_of_ble_eq_true rfl, Nat.le_of_ble_eq_true rfl⟩ (fun v w hq => ?_)
  obtain ⟨rfl, rfl⟩ := hq
  refine j_norm (pc' := 11) (st' := [.int r1]) (ws' := [(h0, .inr (5, [.ref a_cells_h0, .int count_h0])), (a_cells_h0, .inl (cI, n_a_cells_h0, .inl b_a_cells_h0))]) (cl' := 0) (sl' := 0) rfl rfl rfl rfl rfl rfl ?_
  replace h := Option.some.inj h
  subst h
  exact j_iret (w := [(h0, .inr (5, [.ref a_cells_h0, .int count_h0])), (a_cells_h0, .inl (cI, n_a_cells_h0, .inl b_a_cells_h0))]) hr d_Tk_last_11 [0, 1] rfl (by decide) ⟨rfl, rfl⟩
def F_Tk_giveLastSecond (p1 : Int32) (count_h0 : Int32) (n_a_cells_h0 : Nat) (b_a_cells_h0 : Nat → Int32) : Option ((Nat → Int32)) :=
  if count_h0 ≤ 0 then (some b_a_cells_h0)
  else (inb (((count_h0 - 1) * 4) + 2) n_a_cells_h0 (some (upd b_a_cells_h0 (Int32.toNatClampNeg (((count_h0 - 1) * 4) + 2)) p1)))
theorem d_Tk_giveLastSecond_0 : decode prog_9_method_8_code 0 = .ok (.aload_n 0, 1) := by decide +kernel
theorem d_Tk_giveLastSecond_1 : decode prog_9_method_8_code 1 = .ok (.getfield 15, 3) := by decide +kernel
theorem d_Tk_giveLastSecond_4 : decode prog_9_method_8_code 4 = .ok (.ifCond .le 19, 3) := by decide +kernel
theorem d_Tk_giveLastSecond_7 : decode prog_9_method_8_code 7 = .ok (.aload_n 0, 1) := by decide +kernel
theorem d_Tk_giveLastSecond_8 : decode prog_9_method_8_code 8 = .ok (.getfield 11, 3) := by decide +kernel
theorem d_Tk_giveLastSecond_11 : decode prog_9_method_8_code 11 = .ok (.aload_n 0, 1) := by decide +kernel
theorem d_Tk_giveLastSecond_12 : decode prog_9_method_8_code 12 = .ok (.getfield 15, 3) := by decide +kernel
theorem d_Tk_giveLastSecond_15 : decode prog_9_method_8_code 15 = .ok (.iconst 1, 1) := by decide +kernel
theorem d_Tk_giveLastSecond_16 : decode prog_9_method_8_code 16 = .ok (.isub, 1) := by decide +kernel
theorem d_Tk_giveLastSecond_17 : decode prog_9_method_8_code 17 = .ok (.iconst 4, 1) := by decide +kernel
theorem d_Tk_giveLastSecond_18 : decode prog_9_method_8_code 18 = .ok (.imul, 1) := by decide +kernel
theorem d_Tk_giveLastSecond_19 : decode prog_9_method_8_code 19 = .ok (.iconst 2, 1) := by decide +kernel
theorem d_Tk_giveLastSecond_20 : decode prog_9_method_8_code 20 = .ok (.iadd, 1) := by decide +kernel
theorem d_Tk_giveLastSecond_21 : decode prog_9_method_8_code 21 = .ok (.iload_n 1, 1) := by decide +kernel
theorem d_Tk_giveLastSecond_22 : decode prog_9_method_8_code 22 = .ok (.iastore, 1) := by decide +kernel
theorem d_Tk_giveLastSecond_23 : decode prog_9_method_8_code 23 = .ok (.return_, 1) := by decide +kernel
set_option maxHeartbeats 4000000 in
set_option maxRecDepth 100000 in
theorem c_Tk_giveLastSecond (l : Launch) (D : va_G) (cI cB cJ cS : ClassId) (h0 : Nat) (a_cells_h0 : Nat) (p1 : Int32) (count_h0 : Int32) (n_a_cells_h0 : Nat) (b_a_cells_h0 : Nat → Int32) (ob_1 : Nat → Int32) (h : F_Tk_giveLastSecond p1 count_h0 n_a_cells_h0 b_a_cells_h0 = some ob_1) : Ct l D (gT cI cB cJ cS) y_Tk_giveLastSecond prog_9_method_8_code 2 (Option.none : Option Jvm.ClassFile.FieldType) 0 0 0 0 [.ref h0, .int p1] [(h0, .inr (5, [.ref a_cells_h0, .int count_h0])), (a_cells_h0, .inl (cI, n_a_cells_h0, .inl b_a_cells_h0))] (fun v w => v = none ∧ w = [(h0, .inr (5, [.ref a_cells_h0, .int count_h0])), (a_cells_h0, .inl (cI, n_a_cells_h0, .inl ob_1))]) := by
  refine Ct.mk (by decide) (Nat.le_of_ble_eq_true rfl) ?_
  intro p e s m below meth c hr hnm
  refine j_norm (pc' := 0) (lv' := [(0, .ref h0), (1, .int p1)]) (st' := []) (ws' := [(h0, .inr (5, [.ref a_cells_h0, .int count_h0])), (a_cells_h0, .inl (cI, n_a_cells_h0, .inl b_a_cells_h0))]) (cl' := 0) (sl' := 0) rfl rfl rfl rfl rfl rfl ?_
  unfold F_Tk_giveLastSecond at h
  refine j_aload_n d_Tk_giveLastSecond_0 rfl 0 rfl ?_
  refine j_get ig_Tk rfl 0 rfl 1 (by decide) rfl m_94 rfl d_Tk_giveLastSecond_1 ?_
  refine j_if_le (tgt := 23) d_Tk_giveLastSecond_4 (by decide) (fun c1 => ?_) (fun c1 => ?_)
  · replace h := it_t c1 h
    replace h := Option.some.inj h
    subst h
    exact j_vret (w := [(h0, .inr (5, [.ref a_cells_h0, .int count_h0])), (a_cells_h0, .inl (cI, n_a_cells_h0, .inl b_a_cells_h0))]) hr d_Tk_giveLastSecond_23 [0, 1] rfl (by decide) ⟨rfl, rfl⟩
  · replace h := it_f c1 h
    refine j_aload_n d_Tk_giveLastSecond_7 rfl 0 rfl ?_
    refine j_get ig_Tk rfl 0 rfl 0 (by decide) rfl m_93 rfl d_Tk_giveLastSecond_8 ?_
    refine j_aload_n d_Tk_giveLastSecond_11 rfl 0 rfl ?_
    refine j_get ig_Tk rfl 0 rfl 1 (by decide) rfl m_94 rfl d_Tk_giveLastSecond_12 ?_
    refine j_iconst (v := 1) d_Tk_giveLastSecond_15 (by decide) ?_
    refine j_isub d_Tk_giveLastSecond_16 ?_
    refine j_iconst (v := 4) d_Tk_giveLastSecond_17 (by decide) ?_
    refine j_imul d_Tk_giveLastSecond_18 ?_
    refine j_iconst (v := 2) d_Tk_giveLastSecond_19 (by decide) ?_
    refine j_iadd d_Tk_giveLastSecond_20 ?_
    refine j_iload_n d_Tk_giveLastSecond_21 rfl 1 rfl ?_
    replace h := inb_s h
    obtain ⟨i2, h⟩ := h
    refine j_iast (t0 := 0) (ws' := [(h0, .inr (5, [.ref a_cells_h0, .int count_h0])), (a_cells_h0, .inl (cI, n_a_cells_h0, .inl (upd b_a_cells_h0 (Int32.toNatClampNeg (((count_h0 - 1) * 4) + 2)) p1)))]) 1 rfl rfl i2 d_Tk_giveLastSecond_22 rfl ?_
    replace h := Option.some.inj h
    subst h
    exact j_vret (w := [(h0, .inr (5, [.ref a_cells_h0, .int count_h0])), (a_cells_h0, .inl (cI, n_a_cells_h0, .inl (upd b_a_cells_h0 (Int32.toNatClampNeg (((count_h0 - 1) * 4) + 2)) p1)))]) hr d_Tk_giveLastSecond_23 [0, 1] rfl (by decide) ⟨rfl, rfl⟩
noncomputable def F_Nm_init : Option ((Unit) × Nat × Nat) :=
  nwa 16 (some ((), 0, 0))
theorem d_Nm_init_0 : decode prog_13_method_1_code 0 = .ok (.aload_n 0, 1) := by decide +kernel
theorem d_Nm_init_1 : decode prog_13_method_1_code 1 = .ok (.invokespecial 1, 3) := by decide +kernel
theorem d_Nm_init_4 : decode prog_13_method_1_code 4 = .ok (.aload_n 0, 1) := by decide +kernel
theorem d_Nm_init_5 : decode prog_13_method_1_code 5 = .ok (.bipush 16, 2) := by decide +kernel
theorem d_Nm_init_7 : decode prog_13_method_1_code 7 = .ok (.newarray .int, 2) := by decide +kernel
theorem d_Nm_init_9 : decode prog_13_method_1_code 9 = .ok (.putfield 7, 3) := by decide +kernel
theorem d_Nm_init_12 : decode prog_13_method_1_code 12 = .ok (.return_, 1) := by decide +kernel
set_option maxHeartbeats 4000000 in
set_option maxRecDepth 100000 in
theorem c_Nm_init (l : Launch) (D : va_G) (cI cB cJ cS : ClassId) (h0 : Nat) (mc ms : Nat) (h : F_Nm_init  = some ((), mc, ms)) : Ct l D (gT cI cB cJ cS) y_Nm_init prog_13_method_1_code 1 (Option.none : Option Jvm.ClassFile.FieldType) 1 20 mc ms [.ref h0] [(h0, .inr (8, [.null, .int 0]))] (fun v w => ∃ nq_0_0 : Nat, v = none ∧ w = [(h0, .inr (8, [.ref nq_0_0, .int 0])), (nq_0_0, .inl (cI, 16, .inl (fun _ => 0)))]) := by
  refine Ct.mk (by decide) (Nat.le_of_ble_eq_true rfl) ?_
  intro p e s m below meth c hr hnm
  refine j_norm (pc' := 0) (lv' := [(0, .ref h0)]) (st' := []) (ws' := [(h0, .inr (8, [.null, .int 0]))]) (cl' := 0) (sl' := 0) rfl rfl rfl rfl rfl rfl ?_
  unfold F_Nm_init at h
  have hC : 0 + mc ≤ mc := by omega
  have hS : 0 + ms ≤ ms := by omega
  refine j_aload_n d_Nm_init_0 rfl 0 rfl ?_
  refine j_oinit m_1100 m_29 mc_obj (Nat.le_of_ble_eq_true rfl) (Nat.le_of_ble_eq_true rfl) d_Nm_init_1 ?_
  refine j_aload_n d_Nm_init_4 rfl 0 rfl ?_
  refine j_bipush (v := 16) d_Nm_init_5 (by decide) ?_
  replace h := nwa_s h
  obtain ⟨i4, i5, C2, S3, h, e1, e2⟩ := h
  rw [show Int32.toNatClampNeg 16 = 16 by decide] at e2
  replace hC : 0 + 1 + C2 ≤ mc := by omega
  replace hS : 0 + 16 + S3 ≤ ms := by omega
  clear e1 e2
  refine j_newa (atype := .int) (ty := .int) (t0 := 0) (cA := cI) (a0 := (16, .inl (fun _ => 0))) m_86 rfl rfl (fun _ => rfl) i4 (by decide) (by decide) (show 0 + 1 ≤ mc by omega) (show 0 + 16 ≤ ms by omega) d_Nm_init_7 (fun q1 => ?_)
  refine j_norm (pc' := 9) (st' := [.ref q1, .ref h0]) (ws' := [(h0, .inr (8, [.null, .int 0])), (q1, .inl (cI, 16, .inl (fun _ => 0)))]) (cl' := 0 + 1) (sl' := 0 + 16) rfl rfl rfl rfl rfl rfl ?_
  refine j_put (ws' := [(h0, .inr (8, [.ref q1, .int 0])), (q1, .inl (cI, 16, .inl (fun _ => 0)))]) ig_Nm tk_Nm nm_Nm rfl 0 rfl 0 (by decide) rfl m_1101 rfl (tk_Nm 0 (by decide)) rfl rfl (Nat.le_of_ble_eq_true rfl) d_Nm_init_9 rfl ?_
  replace h := lf_s h
  obtain ⟨h, e1, e2⟩ := h
  refine j_widen (cl' := mc) (sl' := ms) (by omega) (by omega) ?_
  exact j_vret (w := [(h0, .inr (8, [.ref q1, .int 0])), (q1, .inl (cI, 16, .inl (fun _ => 0)))]) hr d_Nm_init_12 [0, 1] rfl (by decide) ⟨q1, rfl, rfl⟩
noncomputable def F_Nm_add_52 (p1 : Int32) (size_h0 : Int32) (n1_52 : Nat) (b1_52 : Nat → Int32) : Option ((Nat × (Nat → Int32)) × Nat × Nat) :=
    inb size_h0 n1_52 (some ((n1_52, upd b1_52 (Int32.toNatClampNeg size_h0) p1), 0, 0))
noncomputable def F_Nm_add_24 (p1 : Int32) (size_h0 : Int32) (n_a_all_h0 : Nat) (b_a_all_h0 : Nat → Int32) : Nat → Int32 → (Nat → Int32) → Option ((Nat × (Nat → Int32)) × Nat × Nat)
  | 0, _, _ => none
  | k_24 + 1, v3_24, b2_24 =>
    if size_h0 ≤ v3_24 then (F_Nm_add_52 p1 size_h0   (Int32.toNatClampNeg (2 * (nI n_a_all_h0))) b2_24)
    else (inb v3_24 n_a_all_h0 (inb v3_24 (Int32.toNatClampNeg (2 * (nI n_a_all_h0))) (F_Nm_add_24 p1 size_h0 n_a_all_h0 b_a_all_h0  k_24 (v3_24 + 1) (upd b2_24 (Int32.toNatClampNeg v3_24) (b_a_all_h0 (Int32.toNatClampNeg v3_24))))))
noncomputable def F_Nm_add (p1 : Int32) (size_h0 : Int32) (n_a_all_h0 : Nat) (b_a_all_h0 : Nat → Int32) : Option ((Nat × (Nat → Int32)) × Nat × Nat) :=
  if size_h0 = (nI n_a_all_h0) then (nwa (2 * (nI n_a_all_h0)) (F_Nm_add_24 p1 size_h0 n_a_all_h0 b_a_all_h0  FU 0 (fun _ => 0)))
  else (F_Nm_add_52 p1 size_h0   n_a_all_h0 b_a_all_h0)
theorem d_Nm_add_0 : decode prog_13_method_2_code 0 = .ok (.aload_n 0, 1) := by decide +kernel
theorem d_Nm_add_1 : decode prog_13_method_2_code 1 = .ok (.getfield 13, 3) := by decide +kernel
theorem d_Nm_add_4 : decode prog_13_method_2_code 4 = .ok (.aload_n 0, 1) := by decide +kernel
theorem d_Nm_add_5 : decode prog_13_method_2_code 5 = .ok (.getfield 7, 3) := by decide +kernel
theorem d_Nm_add_8 : decode prog_13_method_2_code 8 = .ok (.arraylength, 1) := by decide +kernel
theorem d_Nm_add_9 : decode prog_13_method_2_code 9 = .ok (.if_icmp .ne 43, 3) := by decide +kernel
theorem d_Nm_add_12 : decode prog_13_method_2_code 12 = .ok (.iconst 2, 1) := by decide +kernel
theorem d_Nm_add_13 : decode prog_13_method_2_code 13 = .ok (.aload_n 0, 1) := by decide +kernel
theorem d_Nm_add_14 : decode prog_13_method_2_code 14 = .ok (.getfield 7, 3) := by decide +kernel
theorem d_Nm_add_17 : decode prog_13_method_2_code 17 = .ok (.arraylength, 1) := by decide +kernel
theorem d_Nm_add_18 : decode prog_13_method_2_code 18 = .ok (.imul, 1) := by decide +kernel
theorem d_Nm_add_19 : decode prog_13_method_2_code 19 = .ok (.newarray .int, 2) := by decide +kernel
theorem d_Nm_add_21 : decode prog_13_method_2_code 21 = .ok (.astore_n 2, 1) := by decide +kernel
theorem d_Nm_add_22 : decode prog_13_method_2_code 22 = .ok (.iconst 0, 1) := by decide +kernel
theorem d_Nm_add_23 : decode prog_13_method_2_code 23 = .ok (.istore_n 3, 1) := by decide +kernel
theorem d_Nm_add_24 : decode prog_13_method_2_code 24 = .ok (.iload_n 3, 1) := by decide +kernel
theorem d_Nm_add_25 : decode prog_13_method_2_code 25 = .ok (.aload_n 0, 1) := by decide +kernel
theorem d_Nm_add_26 : decode prog_13_method_2_code 26 = .ok (.getfield 13, 3) := by decide +kernel
theorem d_Nm_add_29 : decode prog_13_method_2_code 29 = .ok (.if_icmp .ge 18, 3) := by decide +kernel
theorem d_Nm_add_32 : decode prog_13_method_2_code 32 = .ok (.aload_n 2, 1) := by decide +kernel
theorem d_Nm_add_33 : decode prog_13_method_2_code 33 = .ok (.iload_n 3, 1) := by decide +kernel
theorem d_Nm_add_34 : decode prog_13_method_2_code 34 = .ok (.aload_n 0, 1) := by decide +kernel
theorem d_Nm_add_35 : decode prog_13_method_2_code 35 = .ok (.getfield 7, 3) := by decide +kernel
theorem d_Nm_add_38 : decode prog_13_method_2_code 38 = .ok (.iload_n 3, 1) := by decide +kernel
theorem d_Nm_add_39 : decode prog_13_method_2_code 39 = .ok (.iaload, 1) := by decide +kernel
theorem d_Nm_add_40 : decode prog_13_method_2_code 40 = .ok (.iastore, 1) := by decide +kernel
theorem d_Nm_add_41 : decode prog_13_method_2_code 41 = .ok (.iinc 3 1, 3) := by decide +kernel
theorem d_Nm_add_44 : decode prog_13_method_2_code 44 = .ok (.goto (-20), 3) := by decide +kernel
theorem d_Nm_add_47 : decode prog_13_method_2_code 47 = .ok (.aload_n 0, 1) := by decide +kernel
theorem d_Nm_add_48 : decode prog_13_method_2_code 48 = .ok (.aload_n 2, 1) := by decide +kernel
theorem d_Nm_add_49 : decode prog_13_method_2_code 49 = .ok (.putfield 7, 3) := by decide +kernel
theorem d_Nm_add_52 : decode prog_13_method_2_code 52 = .ok (.aload_n 0, 1) := by decide +kernel
theorem d_Nm_add_53 : decode prog_13_method_2_code 53 = .ok (.getfield 7, 3) := by decide +kernel
theorem d_Nm_add_56 : decode prog_13_method_2_code 56 = .ok (.aload_n 0, 1) := by decide +kernel
theorem d_Nm_add_57 : decode prog_13_method_2_code 57 = .ok (.getfield 13, 3) := by decide +kernel
theorem d_Nm_add_60 : decode prog_13_method_2_code 60 = .ok (.iload_n 1, 1) := by decide +kernel
theorem d_Nm_add_61 : decode prog_13_method_2_code 61 = .ok (.iastore, 1) := by decide +kernel
theorem d_Nm_add_62 : decode prog_13_method_2_code 62 = .ok (.aload_n 0, 1) := by decide +kernel
theorem d_Nm_add_63 : decode prog_13_method_2_code 63 = .ok (.aload_n 0, 1) := by decide +kernel
theorem d_Nm_add_64 : decode prog_13_method_2_code 64 = .ok (.getfield 13, 3) := by decide +kernel
theorem d_Nm_add_67 : decode prog_13_method_2_code 67 = .ok (.iconst 1, 1) := by decide +kernel
theorem d_Nm_add_68 : decode prog_13_method_2_code 68 = .ok (.iadd, 1) := by decide +kernel
theorem d_Nm_add_69 : decode prog_13_method_2_code 69 = .ok (.putfield 13, 3) := by decide +kernel
theorem d_Nm_add_72 : decode prog_13_method_2_code 72 = .ok (.return_, 1) := by decide +kernel
set_option maxHeartbeats 4000000 in
set_option maxRecDepth 100000 in
theorem L_Nm_add_52 (l : Launch) (D : va_G) (cI cB cJ cS : ClassId) (h0 : Nat) (a_all_h0 : Nat) (p1 : Int32) (size_h0 : Int32) (n_a_all_h0 : Nat) (b_a_all_h0 : Nat → Int32) (on_nq_0_0 : Nat) (ob_nq_0_0 : Nat → Int32) (mc ms : Nat) (p : Program) (e : Env) (s : State) (m : MethodId) (below : List Frame) (meth : Method) (c : Code) (hr : meth.sig.returnType = (Option.none : Option Jvm.ClassFile.FieldType)) (hnm : meth.name = y_Nm_add.name) : ∀ (q0_0_52 : Nat) (n1_52 : Nat) (b1_52 : Nat → Int32) (cl_52 sl_52 C_52 S_52 : Nat), F_Nm_add_52 p1 size_h0   n1_52 b1_52 = some ((on_nq_0_0, ob_nq_0_0), C_52, S_52) → cl_52 + C_52 ≤ mc → sl_52 + S_52 ≤ ms → J (KxOf p l e { frames := 0, cells := mc, slots := ms, locals := 0 } s m [.ref h0, .int p1].toArray below meth c D (gT cI cB cJ cS) [(h0, .inr (8, [.ref a_all_h0, .int size_h0])), (a_all_h0, .inl (cI, n_a_all_h0, .inl b_a_all_h0))] (fun v w => ∃ nq_0_0 : Nat, v = none ∧ w = [(h0, .inr (8, [.ref nq_0_0, .int (size_h0 + 1)])), (nq_0_0, .inl (cI, on_nq_0_0, .inl ob_nq_0_0))]) mc ms) prog_13_method_2_code 4 R_Nm 52 [(0, .ref h0), (1, .int p1)] [] [(h0, .inr (8, [.ref q0_0_52, .int size_h0])), (q0_0_52, .inl (cI, n1_52, .inl b1_52))] cl_52 sl_52 := by
  intro q0_0_52 n1_52 b1_52 cl_52 sl_52 C_52 S_52 h hC hS
  unfold F_Nm_add_52 at h
  refine j_aload_n d_Nm_add_52 rfl 0 rfl ?_
  refine j_get ig_Nm rfl 0 rfl 0 (by decide) rfl m_1101 rfl d_Nm_add_53 ?_
  refine j_aload_n d_Nm_add_56 rfl 0 rfl ?_
  refine j_get ig_Nm rfl 0 rfl 1 (by decide) rfl m_1103 rfl d_Nm_add_57 ?_
  refine j_iload_n d_Nm_add_60 rfl 1 rfl ?_
  replace h := inb_s h
  obtain ⟨i1, h⟩ := h
  refine j_iast (t0 := 0) (ws' := [(h0, .inr (8, [.ref q0_0_52, .int size_h0])), (q0_0_52, .inl (cI, n1_52, .inl (upd b1_52 (Int32.toNatClampNeg size_h0) p1)))]) 1 rfl rfl i1 d_Nm_add_61 rfl ?_
  refine j_aload_n d_Nm_add_62 rfl 0 rfl ?_
  refine j_aload_n d_Nm_add_63 rfl 0 rfl ?_
  refine j_get ig_Nm rfl 0 rfl 1 (by decide) rfl m_1103 rfl d_Nm_add_64 ?_
  refine j_iconst (v := 1) d_Nm_add_67 (by decide) ?_
  refine j_iadd d_Nm_add_68 ?_
  refine j_put (ws' := [(h0, .inr (8, [.ref q0_0_52, .int (size_h0 + 1)])), (q0_0_52, .inl (cI, n1_52, .inl (upd b1_52 (Int32.toNatClampNeg size_h0) p1)))]) ig_Nm tk_Nm nm_Nm rfl 0 rfl 1 (by decide) rfl m_1103 rfl (tk_Nm 1 (by decide)) rfl rfl (Nat.le_of_ble_eq_true rfl) d_Nm_add_69 rfl ?_
  replace h := lf_s h
  obtain ⟨h, e1, e2⟩ := h
  replace h := Prod.mk.inj h
  obtain ⟨h9, h⟩ := h
  subst h9
  subst h
  refine j_widen (cl' := mc) (sl' := ms) (by omega) (by omega) ?_
  exact j_vret (w := [(h0, .inr (8, [.ref q0_0_52, .int (size_h0 + 1)])), (q0_0_52, .inl (cI, n1_52, .inl (upd b1_52 (Int32.toNatClampNeg size_h0) p1)))]) hr d_Nm_add_72 [0, 1] rfl (by decide) ⟨q0_0_52, rfl, rfl⟩
set_option maxHeartbeats 4000000 in
set_option maxRecDepth 100000 in
theorem L_Nm_add_24 (l : Launch) (D : va_G) (cI cB cJ cS : ClassId) (h0 : Nat) (a_all_h0 : Nat) (p1 : Int32) (size_h0 : Int32) (n_a_all_h0 : Nat) (b_a_all_h0 : Nat → Int32) (on_nq_0_0 : Nat) (ob_nq_0_0 : Nat → Int32) (mc ms : Nat) (p : Program) (e : Env) (s : State) (m : MethodId) (below : List Frame) (meth : Method) (c : Code) (hr : meth.sig.returnType = (Option.none : Option Jvm.ClassFile.FieldType)) (hnm : meth.name = y_Nm_add.name) : ∀ (k_24 : Nat) (qL2_24 : Nat) (v3_24 : Int32) (b2_24 : Nat → Int32) (cl_24 sl_24 C_24 S_24 : Nat), F_Nm_add_24 p1 size_h0 n_a_all_h0 b_a_all_h0  k_24 v3_24 b2_24 = some ((on_nq_0_0, ob_nq_0_0), C_24, S_24) → cl_24 + C_24 ≤ mc → sl_24 + S_24 ≤ ms → J (KxOf p l e { frames := 0, cells := mc, slots := ms, locals := 0 } s m [.ref h0, .int p1].toArray below meth c D (gT cI cB cJ cS) [(h0, .inr (8, [.ref a_all_h0, .int size_h0])), (a_all_h0, .inl (cI, n_a_all_h0, .inl b_a_all_h0))] (fun v w => ∃ nq_0_0 : Nat, v = none ∧ w = [(h0, .inr (8, [.ref nq_0_0, .int (size_h0 + 1)])), (nq_0_0, .inl (cI, on_nq_0_0, .inl ob_nq_0_0))]) mc ms) prog_13_method_2_code 4 R_Nm 24 [(3, .int v3_24), (2, .ref qL2_24), (0, .ref h0), (1, .int p1)] [] [(h0, .inr (8, [.ref a_all_h0, .int size_h0])), (a_all_h0, .inl (cI, n_a_all_h0, .inl b_a_all_h0)), (qL2_24, .inl (cI, (Int32.toNatClampNeg (2 * (nI n_a_all_h0))), .inl b2_24))] cl_24 sl_24 := by
  intro k_24
  induction k_24 with
  | zero => intro qL2_24 v3_24 b2_24 cl_24 sl_24 C_24 S_24 h; rw [F_Nm_add_24] at h; cases h
  | succ k_24 ih_24 =>
    intro qL2_24 v3_24 b2_24 cl_24 sl_24 C_24 S_24 h hC hS
    rw [F_Nm_add_24] at h
    refine j_iload_n d_Nm_add_24 rfl 0 rfl ?_
    refine j_aload_n d_Nm_add_25 rfl 2 rfl ?_
    refine j_get ig_Nm rfl 0 rfl 1 (by decide) rfl m_1103 rfl d_Nm_add_26 ?_
    refine j_icmp_ge (tgt := 47) d_Nm_add_29 (by decide) (fun c2 => ?_) (fun c2 => ?_)
    · replace h := it_t c2 h
      refine j_aload_n d_Nm_add_47 rfl 2 rfl ?_
      refine j_aload_n d_Nm_add_48 rfl 1 rfl ?_
      refine j_put (ws' := [(h0, .inr (8, [.ref qL2_24, .int size_h0])), (a_all_h0, .inl (cI, n_a_all_h0, .inl b_a_all_h0)), (qL2_24, .inl (cI, (Int32.toNatClampNeg (2 * (nI n_a_all_h0))), .inl b2_24))]) ig_Nm tk_Nm nm_Nm rfl 0 rfl 0 (by decide) rfl m_1101 rfl (tk_Nm 0 (by decide)) rfl rfl (Nat.le_of_ble_eq_true rfl) d_Nm_add_49 rfl ?_
      refine j_sub (w := [(h0, .inr (8, [.ref qL2_24, .int size_h0])), (qL2_24, .inl (cI, (Int32.toNatClampNeg (2 * (nI n_a_all_h0))), .inl b2_24))]) (lv' := [(0, .ref h0), (1, .int p1)]) [0, 2] rfl (by decide) [2, 3] rfl ?_
      exact L_Nm_add_52 l D cI cB cJ cS h0 a_all_h0 p1 size_h0 n_a_all_h0 b_a_all_h0 on_nq_0_0 ob_nq_0_0 mc ms p e s m below meth c hr hnm qL2_24 (Int32.toNatClampNeg (2 * (nI n_a_all_h0))) b2_24 cl_24 sl_24 C_24 S_24 h hC hS
    · replace h := it_f c2 h
      refine j_aload_n d_Nm_add_32 rfl 1 rfl ?_
      refine j_iload_n d_Nm_add_33 rfl 0 rfl ?_
      refine j_aload_n d_Nm_add_34 rfl 2 rfl ?_
      refine j_get ig_Nm rfl 0 rfl 0 (by decide) rfl m_1101 rfl d_Nm_add_35 ?_
      refine j_iload_n d_Nm_add_38 rfl 0 rfl ?_
      replace h := inb_s h
      obtain ⟨i3, h⟩ := h
      refine j_iald (t0 := 0) 1 rfl rfl i3 d_Nm_add_39 ?_
      replace h := inb_s h
      obtain ⟨i4, h⟩ := h
      refine j_iast (t0 := 0) (ws' := [(h0, .inr (8, [.ref a_all_h0, .int size_h0])), (a_all_h0, .inl (cI, n_a_all_h0, .inl b_a_all_h0)), (qL2_24, .inl (cI, (Int32.toNatClampNeg (2 * (nI n_a_all_h0))), .inl (upd b2_24 (Int32.toNatClampNeg v3_24) (b_a_all_h0 (Int32.toNatClampNeg v3_24)))))]) 2 rfl rfl i4 d_Nm_add_40 rfl ?_
      refine j_iinc (v := v3_24 + 1) (lv' := [(3, .int (v3_24 + 1)), (2, .ref qL2_24), (0, .ref h0), (1, .int p1)]) d_Nm_add_41 0 rfl rfl (by decide) rfl ?_
      refine j_goto (tgt := 24) d_Nm_add_44 (by decide) ?_
      refine j_sub (w := [(h0, .inr (8, [.ref a_all_h0, .int size_h0])), (a_all_h0, .inl (cI, n_a_all_h0, .inl b_a_all_h0)), (qL2_24, .inl (cI, (Int32.toNatClampNeg (2 * (nI n_a_all_h0))), .inl (upd b2_24 (Int32.toNatClampNeg v3_24) (b_a_all_h0 (Int32.toNatClampNeg v3_24)))))]) (lv' := [(3, .int (v3_24 + 1)), (2, .ref qL2_24), (0, .ref h0), (1, .int p1)]) [0, 1, 2] rfl (by decide) [0, 1, 2, 3] rfl ?_
      exact ih_24 qL2_24 (v3_24 + 1) (upd b2_24 (Int32.toNatClampNeg v3_24) (b_a_all_h0 (Int32.toNatClampNeg v3_24))) cl_24 sl_24 C_24 S_24 h hC hS
set_option maxHeartbeats 4000000 in
set_option maxRecDepth 100000 in
theorem c_Nm_add (l : Launch) (D : va_G) (cI cB cJ cS : ClassId) (h0 : Nat) (a_all_h0 : Nat) (p1 : Int32) (size_h0 : Int32) (n_a_all_h0 : Nat) (b_a_all_h0 : Nat → Int32) (on_nq_0_0 : Nat) (ob_nq_0_0 : Nat → Int32) (mc ms : Nat) (h : F_Nm_add p1 size_h0 n_a_all_h0 b_a_all_h0 = some ((on_nq_0_0, ob_nq_0_0), mc, ms)) : Ct l D (gT cI cB cJ cS) y_Nm_add prog_13_method_2_code 4 (Option.none : Option Jvm.ClassFile.FieldType) 0 0 mc ms [.ref h0, .int p1] [(h0, .inr (8, [.ref a_all_h0, .int size_h0])), (a_all_h0, .inl (cI, n_a_all_h0, .inl b_a_all_h0))] (fun v w => ∃ nq_0_0 : Nat, v = none ∧ w = [(h0, .inr (8, [.ref nq_0_0, .int (size_h0 + 1)])), (nq_0_0, .inl (cI, on_nq_0_0, .inl ob_nq_0_0))]) := by
  refine Ct.mk (by decide) (Nat.le_of_ble_eq_true rfl) ?_
  intro p e s m below meth c hr hnm
  refine j_norm (pc' := 0) (lv' := [(0, .ref h0), (1, .int p1)]) (st' := []) (ws' := [(h0, .inr (8, [.ref a_all_h0, .int size_h0])), (a_all_h0, .inl (cI, n_a_all_h0, .inl b_a_all_h0))]) (cl' := 0) (sl' := 0) rfl rfl rfl rfl rfl rfl ?_
  unfold F_Nm_add at h
  have hC : 0 + mc ≤ mc := by omega
  have hS : 0 + ms ≤ ms := by omega
  refine j_aload_n d_Nm_add_0 rfl 0 rfl ?_
  refine j_get ig_Nm rfl 0 rfl 1 (by decide) rfl m_1103 rfl d_Nm_add_1 ?_
  refine j_aload_n d_Nm_add_4 rfl 0 rfl ?_
  refine j_get ig_Nm rfl 0 rfl 0 (by decide) rfl m_1101 rfl d_Nm_add_5 ?_
  refine j_alen (t0 := 0) 1 rfl rfl rfl d_Nm_add_8 ?_
  refine j_icmp_ne (tgt := 52) d_Nm_add_9 (by decide) (fun c5 => ?_) (fun c5 => ?_)
  · replace h := it_f c5 h
    refine j_sub (w := [(h0, .inr (8, [.ref a_all_h0, .int size_h0])), (a_all_h0, .inl (cI, n_a_all_h0, .inl b_a_all_h0))]) (lv' := [(0, .ref h0), (1, .int p1)]) [0, 1] rfl (by decide) [0, 1] rfl ?_
    exact L_Nm_add_52 l D cI cB cJ cS h0 a_all_h0 p1 size_h0 n_a_all_h0 b_a_all_h0 on_nq_0_0 ob_nq_0_0 mc ms p e s m below meth c hr hnm a_all_h0 n_a_all_h0 b_a_all_h0 0 0 mc ms h hC hS
  · replace h := it_t c5 h
    refine j_iconst (v := 2) d_Nm_add_12 (by decide) ?_
    refine j_aload_n d_Nm_add_13 rfl 0 rfl ?_
    refine j_get ig_Nm rfl 0 rfl 0 (by decide) rfl m_1101 rfl d_Nm_add_14 ?_
    refine j_alen (t0 := 0) 1 rfl rfl rfl d_Nm_add_17 ?_
    refine j_imul d_Nm_add_18 ?_
    replace h := nwa_s h
    obtain ⟨i9, i10, C7, S8, h, e1, e2⟩ := h
    replace hC : 0 + 1 + C7 ≤ mc := by omega
    replace hS : 0 + (Int32.toNatClampNeg (2 * (nI n_a_all_h0))) + S8 ≤ ms := by omega
    clear e1 e2
    refine j_newa (atype := .int) (ty := .int) (t0 := 0) (cA := cI) (a0 := ((Int32.toNatClampNeg (2 * (nI n_a_all_h0))), .inl (fun _ => 0))) m_86 rfl rfl (fun _ => rfl) i9 rfl (show (Int32.toNatClampNeg (2 * (nI n_a_all_h0))) * 4 ≤ 536870912 by omega) (show 0 + 1 ≤ mc by omega) (show 0 + (Int32.toNatClampNeg (2 * (nI n_a_all_h0))) ≤ ms by omega) d_Nm_add_19 (fun q6 => ?_)
    refine j_norm (pc' := 21) (st' := [.ref q6]) (ws' := [(h0, .inr (8, [.ref a_all_h0, .int size_h0])), (a_all_h0, .inl (cI, n_a_all_h0, .inl b_a_all_h0)), (q6, .inl (cI, (Int32.toNatClampNeg (2 * (nI n_a_all_h0))), .inl (fun _ => 0)))]) (cl' := 0 + 1) (sl' := 0 + (Int32.toNatClampNeg (2 * (nI n_a_all_h0)))) rfl rfl rfl rfl rfl rfl ?_
    refine j_astore_n (lv' := [(2, .ref q6), (0, .ref h0), (1, .int p1)]) d_Nm_add_21 rfl (by decide) rfl ?_
    refine j_iconst (v := 0) d_Nm_add_22 (by decide) ?_
    refine j_istore_n (lv' := [(3, .int 0), (2, .ref q6), (0, .ref h0), (1, .int p1)]) d_Nm_add_23 rfl (by decide) rfl ?_
    refine j_sub (w := [(h0, .inr (8, [.ref a_all_h0, .int size_h0])), (a_all_h0, .inl (cI, n_a_all_h0, .inl b_a_all_h0)), (q6, .inl (cI, (Int32.toNatClampNeg (2 * (nI n_a_all_h0))), .inl (fun _ => 0)))]) (lv' := [(3, .int 0), (2, .ref q6), (0, .ref h0), (1, .int p1)]) [0, 1, 2] rfl (by decide) [0, 1, 2, 3] rfl ?_
    exact L_Nm_add_24 l D cI cB cJ cS h0 a_all_h0 p1 size_h0 n_a_all_h0 b_a_all_h0 on_nq_0_0 ob_nq_0_0 mc ms p e s m below meth c hr hnm FU q6 0 (fun _ => 0) (0 + 1) (0 + (Int32.toNatClampNeg (2 * (nI n_a_all_h0)))) C7 S8 h hC hS
def F_Nm_at (p1 : Int32) (size_h0 : Int32) (n_a_all_h0 : Nat) (b_a_all_h0 : Nat → Int32) : Option (Unit) :=
  inb p1 n_a_all_h0 (some ())
theorem d_Nm_at_0 : decode prog_13_method_3_code 0 = .ok (.aload_n 0, 1) := by decide +kernel
theorem d_Nm_at_1 : decode prog_13_method_3_code 1 = .ok (.getfield 7, 3) := by decide +kernel
theorem d_Nm_at_4 : decode prog_13_method_3_code 4 = .ok (.iload_n 1, 1) := by decide +kernel
theorem d_Nm_at_5 : decode prog_13_method_3_code 5 = .ok (.iaload, 1) := by decide +kernel
theorem d_Nm_at_6 : decode prog_13_method_3_code 6 = .ok (.ireturn, 1) := by decide +kernel
set_option maxHeartbeats 4000000 in
set_option maxRecDepth 100000 in
theorem c_Nm_at (l : Launch) (D : va_G) (cI cB cJ cS : ClassId) (h0 : Nat) (a_all_h0 : Nat) (p1 : Int32) (size_h0 : Int32) (n_a_all_h0 : Nat) (b_a_all_h0 : Nat → Int32) (h : F_Nm_at p1 size_h0 n_a_all_h0 b_a_all_h0 = some ()) : Ct l D (gT cI cB cJ cS) y_Nm_at prog_13_method_3_code 2 (Option.some Jvm.ClassFile.FieldType.int) 0 0 0 0 [.ref h0, .int p1] [(h0, .inr (8, [.ref a_all_h0, .int size_h0])), (a_all_h0, .inl (cI, n_a_all_h0, .inl b_a_all_h0))] (fun v w => v = some (.int (b_a_all_h0 (Int32.toNatClampNeg p1))) ∧ w = [(h0, .inr (8, [.ref a_all_h0, .int size_h0])), (a_all_h0, .inl (cI, n_a_all_h0, .inl b_a_all_h0))]) := by
  refine Ct.mk (by decide) (Nat.le_of_ble_eq_true rfl) ?_
  intro p e s m below meth c hr hnm
  refine j_norm (pc' := 0) (lv' := [(0, .ref h0), (1, .int p1)]) (st' := []) (ws' := [(h0, .inr (8, [.ref a_all_h0, .int size_h0])), (a_all_h0, .inl (cI, n_a_all_h0, .inl b_a_all_h0))]) (cl' := 0) (sl' := 0) rfl rfl rfl rfl rfl rfl ?_
  unfold F_Nm_at at h
  refine j_aload_n d_Nm_at_0 rfl 0 rfl ?_
  refine j_get ig_Nm rfl 0 rfl 0 (by decide) rfl m_1101 rfl d_Nm_at_1 ?_
  refine j_iload_n d_Nm_at_4 rfl 1 rfl ?_
  replace h := inb_s h
  obtain ⟨i1, h⟩ := h
  refine j_iald (t0 := 0) 1 rfl rfl i1 d_Nm_at_5 ?_
  replace h := Option.some.inj h
  exact j_iret (w := [(h0, .inr (8, [.ref a_all_h0, .int size_h0])), (a_all_h0, .inl (cI, n_a_all_h0, .inl b_a_all_h0))]) hr d_Nm_at_6 [0, 1] rfl (by decide) ⟨rfl, rfl⟩
def F_Nm_last (size_h0 : Int32) (n_a_all_h0 : Nat) (b_a_all_h0 : Nat → Int32) : Option (Unit) :=
  inb (size_h0 - 1) n_a_all_h0 (some ())
theorem d_Nm_last_0 : decode prog_13_method_4_code 0 = .ok (.aload_n 0, 1) := by decide +kernel
theorem d_Nm_last_1 : decode prog_13_method_4_code 1 = .ok (.getfield 7, 3) := by decide +kernel
theorem d_Nm_last_4 : decode prog_13_method_4_code 4 = .ok (.aload_n 0, 1) := by decide +kernel
theorem d_Nm_last_5 : decode prog_13_method_4_code 5 = .ok (.getfield 13, 3) := by decide +kernel
theorem d_Nm_last_8 : decode prog_13_method_4_code 8 = .ok (.iconst 1, 1) := by decide +kernel
theorem d_Nm_last_9 : decode prog_13_method_4_code 9 = .ok (.isub, 1) := by decide +kernel
theorem d_Nm_last_10 : decode prog_13_method_4_code 10 = .ok (.iaload, 1) := by decide +kernel
theorem d_Nm_last_11 : decode prog_13_method_4_code 11 = .ok (.ireturn, 1) := by decide +kernel
set_option maxHeartbeats 4000000 in
set_option maxRecDepth 100000 in
theorem c_Nm_last (l : Launch) (D : va_G) (cI cB cJ cS : ClassId) (h0 : Nat) (a_all_h0 : Nat) (size_h0 : Int32) (n_a_all_h0 : Nat) (b_a_all_h0 : Nat → Int32) (h : F_Nm_last size_h0 n_a_all_h0 b_a_all_h0 = some ()) : Ct l D (gT cI cB cJ cS) y_Nm_last prog_13_method_4_code 1 (Option.some Jvm.ClassFile.FieldType.int) 0 0 0 0 [.ref h0] [(h0, .inr (8, [.ref a_all_h0, .int size_h0])), (a_all_h0, .inl (cI, n_a_all_h0, .inl b_a_all_h0))] (fun v w => v = some (.int (b_a_all_h0 (Int32.toNatClampNeg (size_h0 - 1)))) ∧ w = [(h0, .inr (8, [.ref a_all_h0, .int size_h0])), (a_all_h0, .inl (cI, n_a_all_h0, .inl b_a_all_h0))]) := by
  refine Ct.mk (by decide) (Nat.le_of_ble_eq_true rfl) ?_
  intro p e s m below meth c hr hnm
  refine j_norm (pc' := 0) (lv' := [(0, .ref h0)]) (st' := []) (ws' := [(h0, .inr (8, [.ref a_all_h0, .int size_h0])), (a_all_h0, .inl (cI, n_a_all_h0, .inl b_a_all_h0))]) (cl' := 0) (sl' := 0) rfl rfl rfl rfl rfl rfl ?_
  unfold F_Nm_last at h
  refine j_aload_n d_Nm_last_0 rfl 0 rfl ?_
  refine j_get ig_Nm rfl 0 rfl 0 (by decide) rfl m_1101 rfl d_Nm_last_1 ?_
  refine j_aload_n d_Nm_last_4 rfl 0 rfl ?_
  refine j_get ig_Nm rfl 0 rfl 1 (by decide) rfl m_1103 rfl d_Nm_last_5 ?_
  refine j_iconst (v := 1) d_Nm_last_8 (by decide) ?_
  refine j_isub d_Nm_last_9 ?_
  replace h := inb_s h
  obtain ⟨i1, h⟩ := h
  refine j_iald (t0 := 0) 1 rfl rfl i1 d_Nm_last_10 ?_
  replace h := Option.some.inj h
  exact j_iret (w := [(h0, .inr (8, [.ref a_all_h0, .int size_h0])), (a_all_h0, .inl (cI, n_a_all_h0, .inl b_a_all_h0))]) hr d_Nm_last_11 [0, 1] rfl (by decide) ⟨rfl, rfl⟩
theorem d_Nm_drop_0 : decode prog_13_method_5_code 0 = .ok (.aload_n 0, 1) := by decide +kernel
theorem d_Nm_drop_1 : decode prog_13_method_5_code 1 = .ok (.aload_n 0, 1) := by decide +kernel
theorem d_Nm_drop_2 : decode prog_13_method_5_code 2 = .ok (.getfield 13, 3) := by decide +kernel
theorem d_Nm_drop_5 : decode prog_13_method_5_code 5 = .ok (.iload_n 1, 1) := by decide +kernel
theorem d_Nm_drop_6 : decode prog_13_method_5_code 6 = .ok (.isub, 1) := by decide +kernel
theorem d_Nm_drop_7 : decode prog_13_method_5_code 7 = .ok (.putfield 13, 3) := by decide +kernel
theorem d_Nm_drop_10 : decode prog_13_method_5_code 10 = .ok (.return_, 1) := by decide +kernel
set_option maxHeartbeats 4000000 in
set_option maxRecDepth 100000 in
theorem c_Nm_drop (l : Launch) (D : va_G) (cI cB cJ cS : ClassId) (h0 : Nat) (a_all_h0 : Nat) (p1 : Int32) (size_h0 : Int32) : Ct l D (gT cI cB cJ cS) y_Nm_drop prog_13_method_5_code 2 (Option.none : Option Jvm.ClassFile.FieldType) 0 0 0 0 [.ref h0, .int p1] [(h0, .inr (8, [.ref a_all_h0, .int size_h0]))] (fun v w => v = none ∧ w = [(h0, .inr (8, [.ref a_all_h0, .int (size_h0 - p1)]))]) := by
  refine Ct.mk (by decide) (Nat.le_of_ble_eq_true rfl) ?_
  intro p e s m below meth c hr hnm
  refine j_norm (pc' := 0) (lv' := [(0, .ref h0), (1, .int p1)]) (st' := []) (ws' := [(h0, .inr (8, [.ref a_all_h0, .int size_h0]))]) (cl' := 0) (sl' := 0) rfl rfl rfl rfl rfl rfl ?_
  refine j_aload_n d_Nm_drop_0 rfl 0 rfl ?_
  refine j_aload_n d_Nm_drop_1 rfl 0 rfl ?_
  refine j_get ig_Nm rfl 0 rfl 1 (by decide) rfl m_1103 rfl d_Nm_drop_2 ?_
  refine j_iload_n d_Nm_drop_5 rfl 1 rfl ?_
  refine j_isub d_Nm_drop_6 ?_
  refine j_put (ws' := [(h0, .inr (8, [.ref a_all_h0, .int (size_h0 - p1)]))]) ig_Nm tk_Nm nm_Nm rfl 0 rfl 1 (by decide) rfl m_1103 rfl (tk_Nm 1 (by decide)) rfl rfl (Nat.le_of_ble_eq_true rfl) d_Nm_drop_7 rfl ?_
  exact j_vret (w := [(h0, .inr (8, [.ref a_all_h0, .int (size_h0 - p1)]))]) hr d_Nm_drop_10 [0] rfl (by decide) ⟨rfl, rfl⟩
noncomputable def F_Nm_become_7 (size_g1 : Int32) (n_a_all_g1 : Nat) (b_a_all_g1 : Nat → Int32) : Nat → Int32 → Int32 → Nat → (Nat → Int32) → Option ((Int32 × Nat × (Nat → Int32)) × Nat × Nat)
  | 0, _, _, _, _ => none
  | k_7 + 1, v2_7, f0_1_7, n3_7, b3_7 =>
    if size_g1 ≤ v2_7 then (some ((f0_1_7, n3_7, b3_7), 0, 0))
    else (inb v2_7 n_a_all_g1 (bw (F_Nm_add (b_a_all_g1 (Int32.toNatClampNeg v2_7)) f0_1_7 n3_7 b3_7) fun ⟨r3, r4⟩ =>
      F_Nm_become_7 size_g1 n_a_all_g1 b_a_all_g1  k_7 (v2_7 + 1) (f0_1_7 + 1) r3 r4))
noncomputable def F_Nm_become (size_h0 : Int32) (size_g1 : Int32) (n_a_all_g1 : Nat) (b_a_all_g1 : Nat → Int32) (n_a_all_h0 : Nat) (b_a_all_h0 : Nat → Int32) : Option ((Int32 × Nat × (Nat → Int32)) × Nat × Nat) :=
  F_Nm_become_7 size_g1 n_a_all_g1 b_a_all_g1  FU 0 0 n_a_all_h0 b_a_all_h0
theorem d_Nm_become_0 : decode prog_13_method_6_code 0 = .ok (.aload_n 0, 1) := by decide +kernel
theorem d_Nm_become_1 : decode prog_13_method_6_code 1 = .ok (.iconst 0, 1) := by decide +kernel
theorem d_Nm_become_2 : decode prog_13_method_6_code 2 = .ok (.putfield 13, 3) := by decide +kernel
theorem d_Nm_become_5 : decode prog_13_method_6_code 5 = .ok (.iconst 0, 1) := by decide +kernel
theorem d_Nm_become_6 : decode prog_13_method_6_code 6 = .ok (.istore_n 2, 1) := by decide +kernel
theorem d_Nm_become_7 : decode prog_13_method_6_code 7 = .ok (.iload_n 2, 1) := by decide +kernel
theorem d_Nm_become_8 : decode prog_13_method_6_code 8 = .ok (.aload_n 1, 1) := by decide +kernel
theorem d_Nm_become_9 : decode prog_13_method_6_code 9 = .ok (.getfield 13, 3) := by decide +kernel
theorem d_Nm_become_12 : decode prog_13_method_6_code 12 = .ok (.if_icmp .ge 19, 3) := by decide +kernel
theorem d_Nm_become_15 : decode prog_13_method_6_code 15 = .ok (.aload_n 0, 1) := by decide +kernel
theorem d_Nm_become_16 : decode prog_13_method_6_code 16 = .ok (.aload_n 1, 1) := by decide +kernel
theorem d_Nm_become_17 : decode prog_13_method_6_code 17 = .ok (.getfield 7, 3) := by decide +kernel
theorem d_Nm_become_20 : decode prog_13_method_6_code 20 = .ok (.iload_n 2, 1) := by decide +kernel
theorem d_Nm_become_21 : decode prog_13_method_6_code 21 = .ok (.iaload, 1) := by decide +kernel
theorem d_Nm_become_22 : decode prog_13_method_6_code 22 = .ok (.invokevirtual 17, 3) := by decide +kernel
theorem d_Nm_become_25 : decode prog_13_method_6_code 25 = .ok (.iinc 2 1, 3) := by decide +kernel
theorem d_Nm_become_28 : decode prog_13_method_6_code 28 = .ok (.goto (-21), 3) := by decide +kernel
theorem d_Nm_become_31 : decode prog_13_method_6_code 31 = .ok (.return_, 1) := by decide +kernel
set_option maxHeartbeats 4000000 in
set_option maxRecDepth 100000 in
theorem L_Nm_become_7 (l : Launch) (D : va_G) (cI cB cJ cS : ClassId) (h0 : Nat) (g1 : Nat) (a_all_h0 : Nat) (a_all_g1 : Nat) (size_h0 : Int32) (size_g1 : Int32) (n_a_all_g1 : Nat) (b_a_all_g1 : Nat → Int32) (n_a_all_h0 : Nat) (b_a_all_h0 : Nat → Int32) (o_0_1 : Int32) (on_nq_0_0 : Nat) (ob_nq_0_0 : Nat → Int32) (mc ms : Nat) (p : Program) (e : Env) (s : State) (m : MethodId) (below : List Frame) (meth : Method) (c : Code) (hr : meth.sig.returnType = (Option.none : Option Jvm.ClassFile.FieldType)) (hnm : meth.name = y_Nm_become.name) : ∀ (k_7 : Nat) (q0_0_7 : Nat) (v2_7 : Int32) (f0_1_7 : Int32) (n3_7 : Nat) (b3_7 : Nat → Int32) (cl_7 sl_7 C_7 S_7 : Nat), F_Nm_become_7 size_g1 n_a_all_g1 b_a_all_g1  k_7 v2_7 f0_1_7 n3_7 b3_7 = some ((o_0_1, on_nq_0_0, ob_nq_0_0), C_7, S_7) → cl_7 + C_7 ≤ mc → sl_7 + S_7 ≤ ms → J (KxOf p l e { frames := 1, cells := mc, slots := ms, locals := 23 } s m [.ref h0, .ref g1].toArray below meth c D (gT cI cB cJ cS) [(h0, .inr (8, [.ref a_all_h0, .int size_h0])), (g1, .inr (8, [.ref a_all_g1, .int size_g1])), (a_all_g1, .inl (cI, n_a_all_g1, .inl b_a_all_g1)), (a_all_h0, .inl (cI, n_a_all_h0, .inl b_a_all_h0))] (fun v w => ∃ nq_0_0 : Nat, v = none ∧ w = [(h0, .inr (8, [.ref nq_0_0, .int o_0_1])), (g1, .inr (8, [.ref a_all_g1, .int size_g1])), (a_all_g1, .inl (cI, n_a_all_g1, .inl b_a_all_g1)), (nq_0_0, .inl (cI, on_nq_0_0, .inl ob_nq_0_0))]) mc ms) prog_13_method_6_code 3 R_Nm 7 [(2, .int v2_7), (0, .ref h0), (1, .ref g1)] [] [(h0, .inr (8, [.ref q0_0_7, .int f0_1_7])), (g1, .inr (8, [.ref a_all_g1, .int size_g1])), (a_all_g1, .inl (cI, n_a_all_g1, .inl b_a_all_g1)), (q0_0_7, .inl (cI, n3_7, .inl b3_7))] cl_7 sl_7 := by
  intro k_7
  induction k_7 with
  | zero => intro q0_0_7 v2_7 f0_1_7 n3_7 b3_7 cl_7 sl_7 C_7 S_7 h; rw [F_Nm_become_7] at h; cases h
  | succ k_7 ih_7 =>
    intro q0_0_7 v2_7 f0_1_7 n3_7 b3_7 cl_7 sl_7 C_7 S_7 h hC hS
    rw [F_Nm_become_7] at h
    refine j_iload_n d_Nm_become_7 rfl 0 rfl ?_
    refine j_aload_n d_Nm_become_8 rfl 2 rfl ?_
    refine j_get ig_Nm rfl 1 rfl 1 (by decide) rfl m_1103 rfl d_Nm_become_9 ?_
    refine j_icmp_ge (tgt := 31) d_Nm_become_12 (by decide) (fun c1 => ?_) (fun c1 => ?_)
    · replace h := it_t c1 h
      replace h := lf_s h
      obtain ⟨h, e1, e2⟩ := h
      replace h := Prod.mk.inj h
      obtain ⟨h9, h⟩ := h
      subst h9
      replace h := Prod.mk.inj h
      obtain ⟨h9, h⟩ := h
      subst h9
      subst h
      refine j_widen (cl' := mc) (sl' := ms) (by omega) (by omega) ?_
      exact j_vret (w := [(h0, .inr (8, [.ref q0_0_7, .int f0_1_7])), (g1, .inr (8, [.ref a_all_g1, .int size_g1])), (a_all_g1, .inl (cI, n_a_all_g1, .inl b_a_all_g1)), (q0_0_7, .inl (cI, n3_7, .inl b3_7))]) hr d_Nm_become_31 [0, 1, 2, 3] rfl (by decide) ⟨q0_0_7, rfl, rfl⟩
    · replace h := it_f c1 h
      refine j_aload_n d_Nm_become_15 rfl 1 rfl ?_
      refine j_aload_n d_Nm_become_16 rfl 2 rfl ?_
      refine j_get ig_Nm rfl 1 rfl 0 (by decide) rfl m_1101 rfl d_Nm_become_17 ?_
      refine j_iload_n d_Nm_become_20 rfl 0 rfl ?_
      replace h := inb_s h
      obtain ⟨i2, h⟩ := h
      refine j_iald (t0 := 0) 2 rfl rfl i2 d_Nm_become_21 ?_
      replace h := bw_s h
      obtain ⟨⟨r3, r4⟩, C6, S7, C8, S9, k10, h, e1, e2⟩ := h
      replace hC : cl_7 + C6 + C8 ≤ mc := by omega
      replace hS : sl_7 + S7 + S9 ≤ ms := by omega
      clear e1 e2
      refine j_callV (n := 1) (As := [.int (b_a_all_g1 (Int32.toNatClampNeg v2_7))]) (rest := []) (wr := [(g1, .inr (8, [.ref a_all_g1, .int size_g1])), (a_all_g1, .inl (cI, n_a_all_g1, .inl b_a_all_g1))]) (c_Nm_add l D cI cB cJ cS h0 q0_0_7 (b_a_all_g1 (Int32.toNatClampNeg v2_7)) f0_1_7 n3_7 b3_7  r3 r4 C6 S7 k10) k_Nm_17 (by decide) ⟨Nat.le_of_ble_eq_true rfl, Nat.le_of_ble_eq_true rfl⟩ rfl 0 rfl [0, 3] [1, 2] rfl (by decide) rfl (by decide) (by decide) rfl rfl (Nat.le_of_ble_eq_true rfl) d_Nm_become_22 ⟨show cl_7 + C6 ≤ mc by omega, show sl_7 + S7 ≤ ms by omega⟩ (fun v w hq => ?_)
      obtain ⟨q5, rfl, rfl⟩ := hq
      refine j_norm (pc' := 25) (st' := []) (ws' := [(g1, .inr (8, [.ref a_all_g1, .int size_g1])), (a_all_g1, .inl (cI, n_a_all_g1, .inl b_a_all_g1)), (h0, .inr (8, [.ref q5, .int (f0_1_7 + 1)])), (q5, .inl (cI, r3, .inl r4))]) (cl' := cl_7 + C6) (sl' := sl_7 + S7) rfl rfl rfl rfl rfl rfl ?_
      refine j_iinc (v := v2_7 + 1) (lv' := [(2, .int (v2_7 + 1)), (0, .ref h0), (1, .ref g1)]) d_Nm_become_25 0 rfl rfl (by decide) rfl ?_
      refine j_goto (tgt := 7) d_Nm_become_28 (by decide) ?_
      refine j_sub (w := [(h0, .inr (8, [.ref q5, .int (f0_1_7 + 1)])), (g1, .inr (8, [.ref a_all_g1, .int size_g1])), (a_all_g1, .inl (cI, n_a_all_g1, .inl b_a_all_g1)), (q5, .inl (cI, r3, .inl r4))]) (lv' := [(2, .int (v2_7 + 1)), (0, .ref h0), (1, .ref g1)]) [2, 0, 1, 3] rfl (by decide) [0, 1, 2] rfl ?_
      exact ih_7 q5 (v2_7 + 1) (f0_1_7 + 1) r3 r4 (cl_7 + C6) (sl_7 + S7) C8 S9 h hC hS
set_option maxHeartbeats 4000000 in
set_option maxRecDepth 100000 in
theorem c_Nm_become (l : Launch) (D : va_G) (cI cB cJ cS : ClassId) (h0 : Nat) (g1 : Nat) (a_all_h0 : Nat) (a_all_g1 : Nat) (size_h0 : Int32) (size_g1 : Int32) (n_a_all_g1 : Nat) (b_a_all_g1 : Nat → Int32) (n_a_all_h0 : Nat) (b_a_all_h0 : Nat → Int32) (o_0_1 : Int32) (on_nq_0_0 : Nat) (ob_nq_0_0 : Nat → Int32) (mc ms : Nat) (h : F_Nm_become size_h0 size_g1 n_a_all_g1 b_a_all_g1 n_a_all_h0 b_a_all_h0 = some ((o_0_1, on_nq_0_0, ob_nq_0_0), mc, ms)) : Ct l D (gT cI cB cJ cS) y_Nm_become prog_13_method_6_code 3 (Option.none : Option Jvm.ClassFile.FieldType) 1 23 mc ms [.ref h0, .ref g1] [(h0, .inr (8, [.ref a_all_h0, .int size_h0])), (g1, .inr (8, [.ref a_all_g1, .int size_g1])), (a_all_g1, .inl (cI, n_a_all_g1, .inl b_a_all_g1)), (a_all_h0, .inl (cI, n_a_all_h0, .inl b_a_all_h0))] (fun v w => ∃ nq_0_0 : Nat, v = none ∧ w = [(h0, .inr (8, [.ref nq_0_0, .int o_0_1])), (g1, .inr (8, [.ref a_all_g1, .int size_g1])), (a_all_g1, .inl (cI, n_a_all_g1, .inl b_a_all_g1)), (nq_0_0, .inl (cI, on_nq_0_0, .inl ob_nq_0_0))]) := by
  refine Ct.mk (by decide) (Nat.le_of_ble_eq_true rfl) ?_
  intro p e s m below meth c hr hnm
  refine j_norm (pc' := 0) (lv' := [(0, .ref h0), (1, .ref g1)]) (st' := []) (ws' := [(h0, .inr (8, [.ref a_all_h0, .int size_h0])), (g1, .inr (8, [.ref a_all_g1, .int size_g1])), (a_all_g1, .inl (cI, n_a_all_g1, .inl b_a_all_g1)), (a_all_h0, .inl (cI, n_a_all_h0, .inl b_a_all_h0))]) (cl' := 0) (sl' := 0) rfl rfl rfl rfl rfl rfl ?_
  unfold F_Nm_become at h
  have hC : 0 + mc ≤ mc := by omega
  have hS : 0 + ms ≤ ms := by omega
  refine j_aload_n d_Nm_become_0 rfl 0 rfl ?_
  refine j_iconst (v := 0) d_Nm_become_1 (by decide) ?_
  refine j_put (ws' := [(h0, .inr (8, [.ref a_all_h0, .int 0])), (g1, .inr (8, [.ref a_all_g1, .int size_g1])), (a_all_g1, .inl (cI, n_a_all_g1, .inl b_a_all_g1)), (a_all_h0, .inl (cI, n_a_all_h0, .inl b_a_all_h0))]) ig_Nm tk_Nm nm_Nm rfl 0 rfl 1 (by decide) rfl m_1103 rfl (tk_Nm 1 (by decide)) rfl rfl (Nat.le_of_ble_eq_true rfl) d_Nm_become_2 rfl ?_
  refine j_iconst (v := 0) d_Nm_become_5 (by decide) ?_
  refine j_istore_n (lv' := [(2, .int 0), (0, .ref h0), (1, .ref g1)]) d_Nm_become_6 rfl (by decide) rfl ?_
  refine j_sub (w := [(h0, .inr (8, [.ref a_all_h0, .int 0])), (g1, .inr (8, [.ref a_all_g1, .int size_g1])), (a_all_g1, .inl (cI, n_a_all_g1, .inl b_a_all_g1)), (a_all_h0, .inl (cI, n_a_all_h0, .inl b_a_all_h0))]) (lv' := [(2, .int 0), (0, .ref h0), (1, .ref g1)]) [0, 1, 2, 3] rfl (by decide) [0, 1, 2] rfl ?_
  exact L_Nm_become_7 l D cI cB cJ cS h0 g1 a_all_h0 a_all_g1 size_h0 size_g1 n_a_all_g1 b_a_all_g1 n_a_all_h0 b_a_all_h0 o_0_1 on_nq_0_0 ob_nq_0_0 mc ms p e s m below meth c hr hnm FU a_all_h0 0 0 n_a_all_h0 b_a_all_h0 0 0 mc ms h hC hS
noncomputable def F_Nm_fill_7 (p1 : Int32) (p2 : Int32) : Nat → Int32 → Int32 → Nat → (Nat → Int32) → Option ((Int32 × Nat × (Nat → Int32)) × Nat × Nat)
  | 0, _, _, _, _ => none
  | k_7 + 1, v3_7, f0_1_7, n1_7, b1_7 =>
    if p1 ≤ v3_7 then (some ((f0_1_7, n1_7, b1_7), 0, 0))
    else (bw (F_Nm_add p2 f0_1_7 n1_7 b1_7) fun ⟨r2, r3⟩ =>
      F_Nm_fill_7 p1 p2  k_7 (v3_7 + 1) (f0_1_7 + 1) r2 r3)
noncomputable def F_Nm_fill (p1 : Int32) (p2 : Int32) (size_h0 : Int32) (n_a_all_h0 : Nat) (b_a_all_h0 : Nat → Int32) : Option ((Int32 × Nat × (Nat → Int32)) × Nat × Nat) :=
  F_Nm_fill_7 p1 p2  FU 0 0 n_a_all_h0 b_a_all_h0
theorem d_Nm_fill_0 : decode prog_13_method_7_code 0 = .ok (.aload_n 0, 1) := by decide +kernel
theorem d_Nm_fill_1 : decode prog_13_method_7_code 1 = .ok (.iconst 0, 1) := by decide +kernel
theorem d_Nm_fill_2 : decode prog_13_method_7_code 2 = .ok (.putfield 13, 3) := by decide +kernel
theorem d_Nm_fill_5 : decode prog_13_method_7_code 5 = .ok (.iconst 0, 1) := by decide +kernel
theorem d_Nm_fill_6 : decode prog_13_method_7_code 6 = .ok (.istore_n 3, 1) := by decide +kernel
theorem d_Nm_fill_7 : decode prog_13_method_7_code 7 = .ok (.iload_n 3, 1) := by decide +kernel
theorem d_Nm_fill_8 : decode prog_13_method_7_code 8 = .ok (.iload_n 1, 1) := by decide +kernel
theorem d_Nm_fill_9 : decode prog_13_method_7_code 9 = .ok (.if_icmp .ge 14, 3) := by decide +kernel
theorem d_Nm_fill_12 : decode prog_13_method_7_code 12 = .ok (.aload_n 0, 1) := by decide +kernel
theorem d_Nm_fill_13 : decode prog_13_method_7_code 13 = .ok (.iload_n 2, 1) := by decide +kernel
theorem d_Nm_fill_14 : decode prog_13_method_7_code 14 = .ok (.invokevirtual 17, 3) := by decide +kernel
theorem d_Nm_fill_17 : decode prog_13_method_7_code 17 = .ok (.iinc 3 1, 3) := by decide +kernel
theorem d_Nm_fill_20 : decode prog_13_method_7_code 20 = .ok (.goto (-13), 3) := by decide +kernel
theorem d_Nm_fill_23 : decode prog_13_method_7_code 23 = .ok (.return_, 1) := by decide +kernel
set_option maxHeartbeats 4000000 in
set_option maxRecDepth 100000 in
theorem L_Nm_fill_7 (l : Launch) (D : va_G) (cI cB cJ cS : ClassId) (h0 : Nat) (a_all_h0 : Nat) (p1 : Int32) (p2 : Int32) (size_h0 : Int32) (n_a_all_h0 : Nat) (b_a_all_h0 : Nat → Int32) (o_0_1 : Int32) (on_nq_0_0 : Nat) (ob_nq_0_0 : Nat → Int32) (mc ms : Nat) (p : Program) (e : Env) (s : State) (m : MethodId) (below : List Frame) (meth : Method) (c : Code) (hr : meth.sig.returnType = (Option.none : Option Jvm.ClassFile.FieldType)) (hnm : meth.name = y_Nm_fill.name) : ∀ (k_7 : Nat) (q0_0_7 : Nat) (v3_7 : Int32) (f0_1_7 : Int32) (n1_7 : Nat) (b1_7 : Nat → Int32) (cl_7 sl_7 C_7 S_7 : Nat), F_Nm_fill_7 p1 p2  k_7 v3_7 f0_1_7 n1_7 b1_7 = some ((o_0_1, on_nq_0_0, ob_nq_0_0), C_7, S_7) → cl_7 + C_7 ≤ mc → sl_7 + S_7 ≤ ms → J (KxOf p l e { frames := 1, cells := mc, slots := ms, locals := 23 } s m [.ref h0, .int p1, .int p2].toArray below meth c D (gT cI cB cJ cS) [(h0, .inr (8, [.ref a_all_h0, .int size_h0])), (a_all_h0, .inl (cI, n_a_all_h0, .inl b_a_all_h0))] (fun v w => ∃ nq_0_0 : Nat, v = none ∧ w = [(h0, .inr (8, [.ref nq_0_0, .int o_0_1])), (nq_0_0, .inl (cI, on_nq_0_0, .inl ob_nq_0_0))]) mc ms) prog_13_method_7_code 4 R_Nm 7 [(3, .int v3_7), (0, .ref h0), (1, .int p1), (2, .int p2)] [] [(h0, .inr (8, [.ref q0_0_7, .int f0_1_7])), (q0_0_7, .inl (cI, n1_7, .inl b1_7))] cl_7 sl_7 := by
  intro k_7
  induction k_7 with
  | zero => intro q0_0_7 v3_7 f0_1_7 n1_7 b1_7 cl_7 sl_7 C_7 S_7 h; rw [F_Nm_fill_7] at h; cases h
  | succ k_7 ih_7 =>
    intro q0_0_7 v3_7 f0_1_7 n1_7 b1_7 cl_7 sl_7 C_7 S_7 h hC hS
    rw [F_Nm_fill_7] at h
    refine j_iload_n d_Nm_fill_7 rfl 0 rfl ?_
    refine j_iload_n d_Nm_fill_8 rfl 2 rfl ?_
    refine j_icmp_ge (tgt := 23) d_Nm_fill_9 (by decide) (fun c1 => ?_) (fun c1 => ?_)
    · replace h := it_t c1 h
      replace h := lf_s h
      obtain ⟨h, e1, e2⟩ := h
      replace h := Prod.mk.inj h
      obtain ⟨h9, h⟩ := h
      subst h9
      replace h := Prod.mk.inj h
      obtain ⟨h9, h⟩ := h
      subst h9
      subst h
      refine j_widen (cl' := mc) (sl' := ms) (by omega) (by omega) ?_
      exact j_vret (w := [(h0, .inr (8, [.ref q0_0_7, .int f0_1_7])), (q0_0_7, .inl (cI, n1_7, .inl b1_7))]) hr d_Nm_fill_23 [0, 1] rfl (by decide) ⟨q0_0_7, rfl, rfl⟩
    · replace h := it_f c1 h
      refine j_aload_n d_Nm_fill_12 rfl 1 rfl ?_
      refine j_iload_n d_Nm_fill_13 rfl 3 rfl ?_
      replace h := bw_s h
      obtain ⟨⟨r2, r3⟩, C5, S6, C7, S8, k9, h, e1, e2⟩ := h
      replace hC : cl_7 + C5 + C7 ≤ mc := by omega
      replace hS : sl_7 + S6 + S8 ≤ ms := by omega
      clear e1 e2
      refine j_callV (n := 1) (As := [.int p2]) (rest := []) (wr := []) (c_Nm_add l D cI cB cJ cS h0 q0_0_7 p2 f0_1_7 n1_7 b1_7  r2 r3 C5 S6 k9) k_Nm_17 (by decide) ⟨Nat.le_of_ble_eq_true rfl, Nat.le_of_ble_eq_true rfl⟩ rfl 0 rfl [0, 1] [] rfl (by decide) rfl (by decide) (by decide) rfl rfl (Nat.le_of_ble_eq_true rfl) d_Nm_fill_14 ⟨show cl_7 + C5 ≤ mc by omega, show sl_7 + S6 ≤ ms by omega⟩ (fun v w hq => ?_)
      obtain ⟨q4, rfl, rfl⟩ := hq
      refine j_norm (pc' := 17) (st' := []) (ws' := [(h0, .inr (8, [.ref q4, .int (f0_1_7 + 1)])), (q4, .inl (cI, r2, .inl r3))]) (cl' := cl_7 + C5) (sl' := sl_7 + S6) rfl rfl rfl rfl rfl rfl ?_
      refine j_iinc (v := v3_7 + 1) (lv' := [(3, .int (v3_7 + 1)), (0, .ref h0), (1, .int p1), (2, .int p2)]) d_Nm_fill_17 0 rfl rfl (by decide) rfl ?_
      refine j_goto (tgt := 7) d_Nm_fill_20 (by decide) ?_
      refine j_sub (w := [(h0, .inr (8, [.ref q4, .int (f0_1_7 + 1)])), (q4, .inl (cI, r2, .inl r3))]) (lv' := [(3, .int (v3_7 + 1)), (0, .ref h0), (1, .int p1), (2, .int p2)]) [0, 1] rfl (by decide) [0, 1, 2, 3] rfl ?_
      exact ih_7 q4 (v3_7 + 1) (f0_1_7 + 1) r2 r3 (cl_7 + C5) (sl_7 + S6) C7 S8 h hC hS
set_option maxHeartbeats 4000000 in
set_option maxRecDepth 100000 in
theorem c_Nm_fill (l : Launch) (D : va_G) (cI cB cJ cS : ClassId) (h0 : Nat) (a_all_h0 : Nat) (p1 : Int32) (p2 : Int32) (size_h0 : Int32) (n_a_all_h0 : Nat) (b_a_all_h0 : Nat → Int32) (o_0_1 : Int32) (on_nq_0_0 : Nat) (ob_nq_0_0 : Nat → Int32) (mc ms : Nat) (h : F_Nm_fill p1 p2 size_h0 n_a_all_h0 b_a_all_h0 = some ((o_0_1, on_nq_0_0, ob_nq_0_0), mc, ms)) : Ct l D (gT cI cB cJ cS) y_Nm_fill prog_13_method_7_code 4 (Option.none : Option Jvm.ClassFile.FieldType) 1 23 mc ms [.ref h0, .int p1, .int p2] [(h0, .inr (8, [.ref a_all_h0, .int size_h0])), (a_all_h0, .inl (cI, n_a_all_h0, .inl b_a_all_h0))] (fun v w => ∃ nq_0_0 : Nat, v = none ∧ w = [(h0, .inr (8, [.ref nq_0_0, .int o_0_1])), (nq_0_0, .inl (cI, on_nq_0_0, .inl ob_nq_0_0))]) := by
  refine Ct.mk (by decide) (Nat.le_of_ble_eq_true rfl) ?_
  intro p e s m below meth c hr hnm
  refine j_norm (pc' := 0) (lv' := [(0, .ref h0), (1, .int p1), (2, .int p2)]) (st' := []) (ws' := [(h0, .inr (8, [.ref a_all_h0, .int size_h0])), (a_all_h0, .inl (cI, n_a_all_h0, .inl b_a_all_h0))]) (cl' := 0) (sl' := 0) rfl rfl rfl rfl rfl rfl ?_
  unfold F_Nm_fill at h
  have hC : 0 + mc ≤ mc := by omega
  have hS : 0 + ms ≤ ms := by omega
  refine j_aload_n d_Nm_fill_0 rfl 0 rfl ?_
  refine j_iconst (v := 0) d_Nm_fill_1 (by decide) ?_
  refine j_put (ws' := [(h0, .inr (8, [.ref a_all_h0, .int 0])), (a_all_h0, .inl (cI, n_a_all_h0, .inl b_a_all_h0))]) ig_Nm tk_Nm nm_Nm rfl 0 rfl 1 (by decide) rfl m_1103 rfl (tk_Nm 1 (by decide)) rfl rfl (Nat.le_of_ble_eq_true rfl) d_Nm_fill_2 rfl ?_
  refine j_iconst (v := 0) d_Nm_fill_5 (by decide) ?_
  refine j_istore_n (lv' := [(3, .int 0), (0, .ref h0), (1, .int p1), (2, .int p2)]) d_Nm_fill_6 rfl (by decide) rfl ?_
  refine j_sub (w := [(h0, .inr (8, [.ref a_all_h0, .int 0])), (a_all_h0, .inl (cI, n_a_all_h0, .inl b_a_all_h0))]) (lv' := [(3, .int 0), (0, .ref h0), (1, .int p1), (2, .int p2)]) [0, 1] rfl (by decide) [0, 1, 2, 3] rfl ?_
  exact L_Nm_fill_7 l D cI cB cJ cS h0 a_all_h0 p1 p2 size_h0 n_a_all_h0 b_a_all_h0 o_0_1 on_nq_0_0 ob_nq_0_0 mc ms p e s m below meth c hr hnm FU a_all_h0 0 0 n_a_all_h0 b_a_all_h0 0 0 mc ms h hC hS
