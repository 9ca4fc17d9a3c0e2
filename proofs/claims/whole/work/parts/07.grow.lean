set_option maxRecDepth 20000 in
theorem m_292 : Cond.methodLink R_JA 304 y_JM_min ∈ gG := gG_in (List.mem_append_right _ (List.mem_of_getElem? (i := 292) (by decide +kernel))) rfl
set_option maxRecDepth 20000 in
theorem m_295 : Cond.methodLink R_JA 150 ⟨"java/lang/System", "arraycopy", "(Ljava/lang/Object;ILjava/lang/Object;II)V"⟩ ∈ gG := gG_in (List.mem_append_right _ (List.mem_of_getElem? (i := 295) (by decide +kernel))) rfl
set_option maxRecDepth 20000 in
theorem m_297 : Cond.native ⟨"java/lang/System", "arraycopy", "(Ljava/lang/Object;ILjava/lang/Object;II)V"⟩ ∈ gG := gG_in (List.mem_append_right _ (List.mem_of_getElem? (i := 297) (by decide +kernel))) rfl
set_option maxRecDepth 20000 in
theorem m_296 : Cond.static ⟨"java/lang/System", "arraycopy", "(Ljava/lang/Object;ILjava/lang/Object;II)V"⟩ ∈ gG := gG_in (List.mem_append_right _ (List.mem_of_getElem? (i := 296) (by decide +kernel))) rfl
set_option maxRecDepth 20000 in
theorem m_13 : Cond.initialized R_JY ∈ gG := gG_in (List.mem_append_right _ (List.mem_of_getElem? (i := 13) (by decide +kernel))) rfl
set_option maxRecDepth 20000 in
theorem mc_JA_copyOf2 : Cond.code y_JA_copyOf2 prog_24_method_123_code 3 (Option.some (Jvm.ClassFile.FieldType.array Jvm.ClassFile.FieldType.int)) ∈ gG := gG_in (List.mem_append_right _ (List.mem_of_getElem? (i := 461) rfl)) rfl
set_option maxRecDepth 20000 in
theorem m_459 : Cond.methodLink R_Nd 31 y_JA_copyOf2 ∈ gG := gG_in (List.mem_append_right _ (List.mem_of_getElem? (i := 459) (by decide +kernel))) rfl
set_option maxRecDepth 20000 in
theorem m_460 : Cond.static y_JA_copyOf2 ∈ gG := gG_in (List.mem_append_right _ (List.mem_of_getElem? (i := 460) (by decide +kernel))) rfl
set_option maxRecDepth 20000 in
theorem m_11 : Cond.initialized R_JA ∈ gG := gG_in (List.mem_append_right _ (List.mem_of_getElem? (i := 11) (by decide +kernel))) rfl
set_option maxRecDepth 20000 in
theorem mc_Nd_add : Cond.code y_Nd_add prog_4_method_10_code 9 (Option.none : Option Jvm.ClassFile.FieldType) ∈ gG := gG_in (List.mem_append_right _ (List.mem_of_getElem? (i := 456) rfl)) rfl
set_option maxRecDepth 20000 in
theorem m_561 : Cond.methodLink R_Nd 37 y_Nd_add ∈ gG := gG_in (List.mem_append_right _ (List.mem_of_getElem? (i := 561) (by decide +kernel))) rfl
set_option maxRecDepth 20000 in
theorem m_454 : Cond.instanceMethod y_Nd_add ∈ gG := gG_in (List.mem_append_right _ (List.mem_of_getElem? (i := 454) (by decide +kernel))) rfl
set_option maxRecDepth 20000 in
theorem m_455 : Cond.selects R_Nd y_Nd_add y_Nd_add ∈ gG := gG_in (List.mem_append_right _ (List.mem_of_getElem? (i := 455) (by decide +kernel))) rfl
set_option maxRecDepth 20000 in
theorem mc_Nd_addLeaf : Cond.code y_Nd_addLeaf prog_4_method_11_code 4 (Option.none : Option Jvm.ClassFile.FieldType) ∈ gG := gG_in (List.mem_append_right _ (List.mem_of_getElem? (i := 560) rfl)) rfl
set_option maxRecDepth 20000 in
theorem m_805 : Cond.methodLink R_Nd 44 y_Nd_addLeaf ∈ gG := gG_in (List.mem_append_right _ (List.mem_of_getElem? (i := 805) (by decide +kernel))) rfl
set_option maxRecDepth 20000 in
theorem m_558 : Cond.instanceMethod y_Nd_addLeaf ∈ gG := gG_in (List.mem_append_right _ (List.mem_of_getElem? (i := 558) (by decide +kernel))) rfl
set_option maxRecDepth 20000 in
theorem m_559 : Cond.selects R_Nd y_Nd_addLeaf y_Nd_addLeaf ∈ gG := gG_in (List.mem_append_right _ (List.mem_of_getElem? (i := 559) (by decide +kernel))) rfl
set_option maxRecDepth 20000 in
theorem mc_Nd_linkParts : Cond.code y_Nd_linkParts prog_4_method_13_code 7 (Option.none : Option Jvm.ClassFile.FieldType) ∈ gG := gG_in (List.mem_append_right _ (List.mem_of_getElem? (i := 813) rfl)) rfl
set_option maxRecDepth 20000 in
theorem m_810 : Cond.methodLink R_Nd 51 y_Nd_linkParts ∈ gG := gG_in (List.mem_append_right _ (List.mem_of_getElem? (i := 810) (by decide +kernel))) rfl
set_option maxRecDepth 20000 in
theorem m_812 : Cond.instanceMethod y_Nd_linkParts ∈ gG := gG_in (List.mem_append_right _ (List.mem_of_getElem? (i := 812) (by decide +kernel))) rfl
set_option maxRecDepth 20000 in
theorem ms_75 : Cond.selects R_Nd y_Nd_linkParts y_Nd_linkParts ∈ gG := gG_in (List.mem_append_left _ (List.mem_of_getElem? (i := 75) (by decide +kernel))) rfl
set_option maxRecDepth 20000 in
theorem mc_JA_copyOf : Cond.code y_JA_copyOf prog_24_method_121_code 3 (Option.some (Jvm.ClassFile.FieldType.array Jvm.ClassFile.FieldType.byte)) ∈ gG := gG_in (List.mem_append_right _ (List.mem_of_getElem? (i := 284) rfl)) rfl
set_option maxRecDepth 20000 in
theorem m_282 : Cond.methodLink R_Rw 20 y_JA_copyOf ∈ gG := gG_in (List.mem_append_right _ (List.mem_of_getElem? (i := 282) (by decide +kernel))) rfl
set_option maxRecDepth 20000 in
theorem m_283 : Cond.static y_JA_copyOf ∈ gG := gG_in (List.mem_append_right _ (List.mem_of_getElem? (i := 283) (by decide +kernel))) rfl
set_option maxRecDepth 20000 in
theorem mc_Rw_add : Cond.code y_Rw_add prog_7_method_4_code 2 (Option.some Jvm.ClassFile.FieldType.boolean) ∈ gG := gG_in (List.mem_append_right _ (List.mem_of_getElem? (i := 280) rfl)) rfl
set_option maxRecDepth 20000 in
theorem m_277 : Cond.methodLink R_Rw 26 y_Rw_add ∈ gG := gG_in (List.mem_append_right _ (List.mem_of_getElem? (i := 277) (by decide +kernel))) rfl
set_option maxRecDepth 20000 in
theorem m_278 : Cond.instanceMethod y_Rw_add ∈ gG := gG_in (List.mem_append_right _ (List.mem_of_getElem? (i := 278) (by decide +kernel))) rfl
set_option maxRecDepth 20000 in
theorem m_279 : Cond.selects R_Rw y_Rw_add y_Rw_add ∈ gG := gG_in (List.mem_append_right _ (List.mem_of_getElem? (i := 279) (by decide +kernel))) rfl
set_option maxRecDepth 20000 in
theorem m_574 : Cond.methodLink R_Tk 19 y_JA_copyOf2 ∈ gG := gG_in (List.mem_append_right _ (List.mem_of_getElem? (i := 574) (by decide +kernel))) rfl
theorem k_Nd_31 : GoodIn gG (va_wsS R_Nd 31 y_JA_copyOf2 (.code y_JA_copyOf2 prog_24_method_123_code 3 (Option.some (Jvm.ClassFile.FieldType.array Jvm.ClassFile.FieldType.int)) :: gG)) := gdS m_459 m_460 m_11 mc_JA_copyOf2
theorem k_Nd_37 : GoodIn gG (wsV R_Nd 37 R_Nd y_Nd_add (.code y_Nd_add prog_4_method_10_code 9 (Option.none : Option Jvm.ClassFile.FieldType) :: gG)) := gdV m_561 m_454 m_455 m_5 mc_Nd_add
theorem k_Nd_44 : GoodIn gG (wsV R_Nd 44 R_Nd y_Nd_addLeaf (.code y_Nd_addLeaf prog_4_method_11_code 4 (Option.none : Option Jvm.ClassFile.FieldType) :: gG)) := gdV m_805 m_558 m_559 m_5 mc_Nd_addLeaf
theorem k_Nd_51 : GoodIn gG (wsV R_Nd 51 R_Nd y_Nd_linkParts (.code y_Nd_linkParts prog_4_method_13_code 7 (Option.none : Option Jvm.ClassFile.FieldType) :: gG)) := gdV m_810 m_812 ms_75 m_5 mc_Nd_linkParts
theorem k_Rw_20 : GoodIn gG (va_wsS R_Rw 20 y_JA_copyOf (.code y_JA_copyOf prog_24_method_121_code 3 (Option.some (Jvm.ClassFile.FieldType.array Jvm.ClassFile.FieldType.byte)) :: gG)) := gdS m_282 m_283 m_11 mc_JA_copyOf
theorem k_Rw_26 : GoodIn gG (wsV R_Rw 26 R_Rw y_Rw_add (.code y_Rw_add prog_7_method_4_code 2 (Option.some Jvm.ClassFile.FieldType.boolean) :: gG)) := gdV m_277 m_278 m_279 m_4 mc_Rw_add
theorem k_Tk_19 : GoodIn gG (va_wsS R_Tk 19 y_JA_copyOf2 (.code y_JA_copyOf2 prog_24_method_123_code 3 (Option.some (Jvm.ClassFile.FieldType.array Jvm.ClassFile.FieldType.int)) :: gG)) := gdS m_574 m_460 m_11 mc_JA_copyOf2
noncomputable def F_JA_copyOf (p2 : Int32) (n_g1 : Nat) (b_g1 : Nat → Int32) : Option ((Unit) × Nat × Nat) :=
  if p2 = (nI n_g1) then (none)
  else (nwa p2 (acpB b_g1 n_g1 (Int32.toNatClampNeg p2) (mn (nI n_g1) p2) (some ((), 0, 0))))
theorem d_JA_copyOf_0 : decode prog_24_method_121_code 0 = .ok (.iload_n 1, 1) := by decide +kernel
theorem d_JA_copyOf_1 : decode prog_24_method_121_code 1 = .ok (.aload_n 0, 1) := by decide +kernel
theorem d_JA_copyOf_2 : decode prog_24_method_121_code 2 = .ok (.arraylength, 1) := by decide +kernel
theorem d_JA_copyOf_3 : decode prog_24_method_121_code 3 = .ok (.if_icmp .ne 11, 3) := by decide +kernel
theorem d_JA_copyOf_6 : decode prog_24_method_121_code 6 = .ok (.aload_n 0, 1) := by decide +kernel
theorem d_JA_copyOf_14 : decode prog_24_method_121_code 14 = .ok (.iload_n 1, 1) := by decide +kernel
theorem d_JA_copyOf_15 : decode prog_24_method_121_code 15 = .ok (.newarray .byte, 2) := by decide +kernel
theorem d_JA_copyOf_17 : decode prog_24_method_121_code 17 = .ok (.astore_n 2, 1) := by decide +kernel
theorem d_JA_copyOf_18 : decode prog_24_method_121_code 18 = .ok (.aload_n 0, 1) := by decide +kernel
theorem d_JA_copyOf_19 : decode prog_24_method_121_code 19 = .ok (.iconst 0, 1) := by decide +kernel
theorem d_JA_copyOf_20 : decode prog_24_method_121_code 20 = .ok (.aload_n 2, 1) := by decide +kernel
theorem d_JA_copyOf_21 : decode prog_24_method_121_code 21 = .ok (.iconst 0, 1) := by decide +kernel
theorem d_JA_copyOf_22 : decode prog_24_method_121_code 22 = .ok (.aload_n 0, 1) := by decide +kernel
theorem d_JA_copyOf_23 : decode prog_24_method_121_code 23 = .ok (.arraylength, 1) := by decide +kernel
theorem d_JA_copyOf_24 : decode prog_24_method_121_code 24 = .ok (.iload_n 1, 1) := by decide +kernel
theorem d_JA_copyOf_25 : decode prog_24_method_121_code 25 = .ok (.invokestatic 304, 3) := by decide +kernel
theorem d_JA_copyOf_28 : decode prog_24_method_121_code 28 = .ok (.invokestatic 150, 3) := by decide +kernel
theorem d_JA_copyOf_31 : decode prog_24_method_121_code 31 = .ok (.aload_n 2, 1) := by decide +kernel
theorem d_JA_copyOf_32 : decode prog_24_method_121_code 32 = .ok (.areturn, 1) := by decide +kernel
set_option maxHeartbeats 4000000 in
set_option maxRecDepth 100000 in
theorem c_JA_copyOf (l : Launch) (D : va_G) (cI cB cJ cS : ClassId) (g1 : Nat) (p2 : Int32) (n_g1 : Nat) (b_g1 : Nat → Int32) (mc ms : Nat) (h : F_JA_copyOf p2 n_g1 b_g1 = some ((), mc, ms)) : Ct l D (gT cI cB cJ cS) y_JA_copyOf prog_24_method_121_code 3 (Option.some (Jvm.ClassFile.FieldType.array Jvm.ClassFile.FieldType.byte)) 1 60 mc ms [.ref g1, .int p2] [(g1, .inl (cB, n_g1, .inl b_g1))] (fun v w => ∃ nq_ret : Nat, v = some (.ref nq_ret) ∧ w = [(g1, .inl (cB, n_g1, .inl b_g1)), (nq_ret, .inl (cB, (Int32.toNatClampNeg p2), .inl (va_cpy b_g1 (fun _ => 0) (Int32.toNatClampNeg 0) (Int32.toNatClampNeg 0) (Int32.toNatClampNeg (mn (nI n_g1) p2)))))]) := by
  refine Ct.mk (by decide) (Nat.le_of_ble_eq_true rfl) ?_
  intro p e s m below meth c hr hnm
  refine j_norm (pc' := 0) (lv' := [(0, .ref g1), (1, .int p2)]) (st' := []) (ws' := [(g1, .inl (cB, n_g1, .inl b_g1))]) (cl' := 0) (sl' := 0) rfl rfl rfl rfl rfl rfl ?_
  unfold F_JA_copyOf at h
  have hC : 0 + mc ≤ mc := by omega
  have hS : 0 + ms ≤ ms := by omega
  refine j_iload_n d_JA_copyOf_0 rfl 1 rfl ?_
  refine j_aload_n d_JA_copyOf_1 rfl 0 rfl ?_
  refine j_alen (t0 := 1) 0 rfl rfl rfl d_JA_copyOf_2 ?_
  refine j_icmp_ne (tgt := 14) d_JA_copyOf_3 (by decide) (fun c1 => ?_) (fun c1 => ?_)
  · replace h := it_f c1 h
    refine j_iload_n d_JA_copyOf_14 rfl 1 rfl ?_
    replace h := nwa_s h
    obtain ⟨i5, i6, C3, S4, h, e1, e2⟩ := h
    replace hC : 0 + 1 + C3 ≤ mc := by omega
    replace hS : 0 + (Int32.toNatClampNeg p2) + S4 ≤ ms := by omega
    clear e1 e2
    refine j_newa (atype := .byte) (ty := .byte) (t0 := 1) (cA := cB) (a0 := ((Int32.toNatClampNeg p2), .inl (fun _ => 0))) m_56 rfl rfl (fun _ => rfl) i5 rfl (show (Int32.toNatClampNeg p2) * 1 ≤ 536870912 by omega) (show 0 + 1 ≤ mc by omega) (show 0 + (Int32.toNatClampNeg p2) ≤ ms by omega) d_JA_copyOf_15 (fun q2 => ?_)
    refine j_norm (pc' := 17) (st' := [.ref q2]) (ws' := [(g1, .inl (cB, n_g1, .inl b_g1)), (q2, .inl (cB, (Int32.toNatClampNeg p2), .inl (fun _ => 0)))]) (cl' := 0 + 1) (sl' := 0 + (Int32.toNatClampNeg p2)) rfl rfl rfl rfl rfl rfl ?_
    refine j_astore_n (lv' := [(2, .ref q2), (0, .ref g1), (1, .int p2)]) d_JA_copyOf_17 rfl (by decide) rfl ?_
    refine j_aload_n d_JA_copyOf_18 rfl 1 rfl ?_
    refine j_iconst (v := 0) d_JA_copyOf_19 (by decide) ?_
    refine j_aload_n d_JA_copyOf_20 rfl 0 rfl ?_
    refine j_iconst (v := 0) d_JA_copyOf_21 (by decide) ?_
    refine j_aload_n d_JA_copyOf_22 rfl 1 rfl ?_
    refine j_alen (t0 := 1) 0 rfl rfl rfl d_JA_copyOf_23 ?_
    refine j_iload_n d_JA_copyOf_24 rfl 2 rfl ?_
    refine j_mmin m_292 m_293 m_12 mc_min (Nat.le_of_ble_eq_true rfl) (Nat.le_of_ble_eq_true rfl) (show 0 + 1 ≤ mc by omega) (show 0 + (Int32.toNatClampNeg p2) ≤ ms by omega) d_JA_copyOf_25 ?_
    replace h := acpB_s h
    obtain ⟨i10, i7, i8, i9, h⟩ := h
    refine j_acopy (ty := .byte) (t0 := 1) (ws' := [(g1, .inl (cB, n_g1, .inl b_g1)), (q2, .inl (cB, (Int32.toNatClampNeg p2), .inl (va_cpy b_g1 (fun _ => 0) (Int32.toNatClampNeg 0) (Int32.toNatClampNeg 0) (Int32.toNatClampNeg (mn (nI n_g1) p2)))))]) m_295 m_297 m_296 m_13 0 1 rfl rfl rfl (by decide) (by decide) (by decide) i7 (show Int32.toNatClampNeg 0 + _ ≤ _ by rw [show Int32.toNatClampNeg 0 = 0 by decide, Nat.zero_add]; exact i8) (show Int32.toNatClampNeg 0 + _ ≤ _ by rw [show Int32.toNatClampNeg 0 = 0 by decide, Nat.zero_add]; exact i9) (fun i hi => by rw [show Int32.toNatClampNeg 0 = 0 by decide, Nat.zero_add]; exact i10 i hi) (Nat.le_of_ble_eq_true rfl) (by show 0 + _ ≤ 60; rw [Nat.zero_add]; exact acw) d_JA_copyOf_28 rfl ?_
    refine j_aload_n d_JA_copyOf_31 rfl 0 rfl ?_
    replace h := lf_s h
    obtain ⟨h, e1, e2⟩ := h
    refine j_widen (cl' := mc) (sl' := ms) (by omega) (by omega) ?_
    exact j_aret (w := [(g1, .inl (cB, n_g1, .inl b_g1)), (q2, .inl (cB, (Int32.toNatClampNeg p2), .inl (va_cpy b_g1 (fun _ => 0) (Int32.toNatClampNeg 0) (Int32.toNatClampNeg 0) (Int32.toNatClampNeg (mn (nI n_g1) p2)))))]) hr (by first | exact Or.inl ⟨_, rfl⟩ | exact Or.inr ⟨_, rfl⟩) (by first | exact Or.inl rfl | exact Or.inr ⟨_, rfl⟩) d_JA_copyOf_32 [0, 1] rfl (by decide) ⟨q2, rfl, rfl⟩
  · replace h := it_t c1 h
    refine j_aload_n d_JA_copyOf_6 rfl 0 rfl ?_
    cases h
noncomputable def F_JA_copyOf2 (p2 : Int32) (n_g1 : Nat) (b_g1 : Nat → Int32) : Option ((Unit) × Nat × Nat) :=
  if p2 = (nI n_g1) then (none)
  else (nwa p2 (acpI n_g1 (Int32.toNatClampNeg p2) (mn (nI n_g1) p2) (some ((), 0, 0))))
theorem d_JA_copyOf2_0 : decode prog_24_method_123_code 0 = .ok (.iload_n 1, 1) := by decide +kernel
theorem d_JA_copyOf2_1 : decode prog_24_method_123_code 1 = .ok (.aload_n 0, 1) := by decide +kernel
theorem d_JA_copyOf2_2 : decode prog_24_method_123_code 2 = .ok (.arraylength, 1) := by decide +kernel
theorem d_JA_copyOf2_3 : decode prog_24_method_123_code 3 = .ok (.if_icmp .ne 11, 3) := by decide +kernel
theorem d_JA_copyOf2_6 : decode prog_24_method_123_code 6 = .ok (.aload_n 0, 1) := by decide +kernel
theorem d_JA_copyOf2_14 : decode prog_24_method_123_code 14 = .ok (.iload_n 1, 1) := by decide +kernel
theorem d_JA_copyOf2_15 : decode prog_24_method_123_code 15 = .ok (.newarray .int, 2) := by decide +kernel
theorem d_JA_copyOf2_17 : decode prog_24_method_123_code 17 = .ok (.astore_n 2, 1) := by decide +kernel
theorem d_JA_copyOf2_18 : decode prog_24_method_123_code 18 = .ok (.aload_n 0, 1) := by decide +kernel
theorem d_JA_copyOf2_19 : decode prog_24_method_123_code 19 = .ok (.iconst 0, 1) := by decide +kernel
theorem d_JA_copyOf2_20 : decode prog_24_method_123_code 20 = .ok (.aload_n 2, 1) := by decide +kernel
theorem d_JA_copyOf2_21 : decode prog_24_method_123_code 21 = .ok (.iconst 0, 1) := by decide +kernel
theorem d_JA_copyOf2_22 : decode prog_24_method_123_code 22 = .ok (.aload_n 0, 1) := by decide +kernel
theorem d_JA_copyOf2_23 : decode prog_24_method_123_code 23 = .ok (.arraylength, 1) := by decide +kernel
theorem d_JA_copyOf2_24 : decode prog_24_method_123_code 24 = .ok (.iload_n 1, 1) := by decide +kernel
theorem d_JA_copyOf2_25 : decode prog_24_method_123_code 25 = .ok (.invokestatic 304, 3) := by decide +kernel
theorem d_JA_copyOf2_28 : decode prog_24_method_123_code 28 = .ok (.invokestatic 150, 3) := by decide +kernel
theorem d_JA_copyOf2_31 : decode prog_24_method_123_code 31 = .ok (.aload_n 2, 1) := by decide +kernel
theorem d_JA_copyOf2_32 : decode prog_24_method_123_code 32 = .ok (.areturn, 1) := by decide +kernel
set_option maxHeartbeats 4000000 in
set_option maxRecDepth 100000 in
theorem c_JA_copyOf2 (l : Launch) (D : va_G) (cI cB cJ cS : ClassId) (g1 : Nat) (p2 : Int32) (n_g1 : Nat) (b_g1 : Nat → Int32) (mc ms : Nat) (h : F_JA_copyOf2 p2 n_g1 b_g1 = some ((), mc, ms)) : Ct l D (gT cI cB cJ cS) y_JA_copyOf2 prog_24_method_123_code 3 (Option.some (Jvm.ClassFile.FieldType.array Jvm.ClassFile.FieldType.int)) 1 60 mc ms [.ref g1, .int p2] [(g1, .inl (cI, n_g1, .inl b_g1))] (fun v w => ∃ nq_ret : Nat, v = some (.ref nq_ret) ∧ w = [(g1, .inl (cI, n_g1, .inl b_g1)), (nq_ret, .inl (cI, (Int32.toNatClampNeg p2), .inl (va_cpy b_g1 (fun _ => 0) (Int32.toNatClampNeg 0) (Int32.toNatClampNeg 0) (Int32.toNatClampNeg (mn (nI n_g1) p2)))))]) := by
  refine Ct.mk (by decide) (Nat.le_of_ble_eq_true rfl) ?_
  intro p e s m below meth c hr hnm
  refine j_norm (pc' := 0) (lv' := [(0, .ref g1), (1, .int p2)]) (st' := []) (ws' := [(g1, .inl (cI, n_g1, .inl b_g1))]) (cl' := 0) (sl' := 0) rfl rfl rfl rfl rfl rfl ?_
  unfold F_JA_copyOf2 at h
  have hC : 0 + mc ≤ mc := by omega
  have hS : 0 + ms ≤ ms := by omega
  refine j_iload_n d_JA_copyOf2_0 rfl 1 rfl ?_
  refine j_aload_n d_JA_copyOf2_1 rfl 0 rfl ?_
  refine j_alen (t0 := 0) 0 rfl rfl rfl d_JA_copyOf2_2 ?_
  refine j_icmp_ne (tgt := 14) d_JA_copyOf2_3 (by decide) (fun c1 => ?_) (fun c1 => ?_)
  · replace h := it_f c1 h
    refine j_iload_n d_JA_copyOf2_14 rfl 1 rfl ?_
    replace h := nwa_s h
    obtain ⟨i5, i6, C3, S4, h, e1, e2⟩ := h
    replace hC : 0 + 1 + C3 ≤ mc := by omega
    replace hS : 0 + (Int32.toNatClampNeg p2) + S4 ≤ ms := by omega
    clear e1 e2
    refine j_newa (atype := .int) (ty := .int) (t0 := 0) (cA := cI) (a0 := ((Int32.toNatClampNeg p2), .inl (fun _ => 0))) m_86 rfl rfl (fun _ => rfl) i5 rfl (show (Int32.toNatClampNeg p2) * 4 ≤ 536870912 by omega) (show 0 + 1 ≤ mc by omega) (show 0 + (Int32.toNatClampNeg p2) ≤ ms by omega) d_JA_copyOf2_15 (fun q2 => ?_)
    refine j_norm (pc' := 17) (st' := [.ref q2]) (ws' := [(g1, .inl (cI, n_g1, .inl b_g1)), (q2, .inl (cI, (Int32.toNatClampNeg p2), .inl (fun _ => 0)))]) (cl' := 0 + 1) (sl' := 0 + (Int32.toNatClampNeg p2)) rfl rfl rfl rfl rfl rfl ?_
    refine j_astore_n (lv' := [(2, .ref q2), (0, .ref g1), (1, .int p2)]) d_JA_copyOf2_17 rfl (by decide) rfl ?_
    refine j_aload_n d_JA_copyOf2_18 rfl 1 rfl ?_
    refine j_iconst (v := 0) d_JA_copyOf2_19 (by decide) ?_
    refine j_aload_n d_JA_copyOf2_20 rfl 0 rfl ?_
    refine j_iconst (v := 0) d_JA_copyOf2_21 (by decide) ?_
    refine j_aload_n d_JA_copyOf2_22 rfl 1 rfl ?_
    refine j_alen (t0 := 0) 0 rfl rfl rfl d_JA_copyOf2_23 ?_
    refine j_iload_n d_JA_copyOf2_24 rfl 2 rfl ?_
    refine j_mmin m_292 m_293 m_12 mc_min (Nat.le_of_ble_eq_true rfl) (Nat.le_of_ble_eq_true rfl) (show 0 + 1 ≤ mc by omega) (show 0 + (Int32.toNatClampNeg p2) ≤ ms by omega) d_JA_copyOf2_25 ?_
    replace h := acpI_s h
    obtain ⟨i7, i8, i9, h⟩ := h
    refine j_acopy (ty := .int) (t0 := 0) (ws' := [(g1, .inl (cI, n_g1, .inl b_g1)), (q2, .inl (cI, (Int32.toNatClampNeg p2), .inl (va_cpy b_g1 (fun _ => 0) (Int32.toNatClampNeg 0) (Int32.toNatClampNeg 0) (Int32.toNatClampNeg (mn (nI n_g1) p2)))))]) m_295 m_297 m_296 m_13 0 1 rfl rfl rfl (by decide) (by decide) (by decide) i7 (show Int32.toNatClampNeg 0 + _ ≤ _ by rw [show Int32.toNatClampNeg 0 = 0 by decide, Nat.zero_add]; exact i8) (show Int32.toNatClampNeg 0 + _ ≤ _ by rw [show Int32.toNatClampNeg 0 = 0 by decide, Nat.zero_add]; exact i9) (fun _ _ => rfl) (Nat.le_of_ble_eq_true rfl) (by show 0 + _ ≤ 60; rw [Nat.zero_add]; exact acw) d_JA_copyOf2_28 rfl ?_
    refine j_aload_n d_JA_copyOf2_31 rfl 0 rfl ?_
    replace h := lf_s h
    obtain ⟨h, e1, e2⟩ := h
    refine j_widen (cl' := mc) (sl' := ms) (by omega) (by omega) ?_
    exact j_aret (w := [(g1, .inl (cI, n_g1, .inl b_g1)), (q2, .inl (cI, (Int32.toNatClampNeg p2), .inl (va_cpy b_g1 (fun _ => 0) (Int32.toNatClampNeg 0) (Int32.toNatClampNeg 0) (Int32.toNatClampNeg (mn (nI n_g1) p2)))))]) hr (by first | exact Or.inl ⟨_, rfl⟩ | exact Or.inr ⟨_, rfl⟩) (by first | exact Or.inl rfl | exact Or.inr ⟨_, rfl⟩) d_JA_copyOf2_32 [0, 1] rfl (by decide) ⟨q2, rfl, rfl⟩
  · replace h := it_t c1 h
    refine j_aload_n d_JA_copyOf2_6 rfl 0 rfl ?_
    cases h
noncomputable def F_Nd_add_65 (p1 : Int32) (p2 : Int32) (p3 : Int32) (p4 : Int32) (p5 : Int32) (count_h0 : Int32) : Nat → Int32 → Int32 → Nat → (Nat → Int32) → Option ((Int32 × Nat × (Nat → Int32)) × Nat × Nat)
  | 0, _, _, _, _ => none
  | k_65 + 1, v8_65, v7_65, n1_65, b1_65 =>
    if p4 ≤ v8_65 then (inb ((count_h0 * 7) + 0) n1_65 (inb ((count_h0 * 7) + 1) n1_65 (inb ((count_h0 * 7) + 2) n1_65 (inb ((count_h0 * 7) + 3) n1_65 (inb ((count_h0 * 7) + 4) n1_65 (inb ((count_h0 * 7) + 5) n1_65 (inb ((count_h0 * 7) + 6) n1_65 (some ((count_h0 + 1, n1_65, upd (upd (upd (upd (upd (upd (upd b1_65 (Int32.toNatClampNeg ((count_h0 * 7) + 0)) p1) (Int32.toNatClampNeg ((count_h0 * 7) + 1)) p2) (Int32.toNatClampNeg ((count_h0 * 7) + 2)) p3) (Int32.toNatClampNeg ((count_h0 * 7) + 3)) p4) (Int32.toNatClampNeg ((count_h0 * 7) + 4)) p5) (Int32.toNatClampNeg ((count_h0 * 7) + 5)) ((count_h0 - v7_65) + 1)) (Int32.toNatClampNeg ((count_h0 * 7) + 6)) (-1)), 0, 0)))))))))
    else (Option.bind (F_Nd_get (v7_65 - 1) 5 count_h0 n1_65 b1_65) fun r9 =>
      F_Nd_add_65 p1 p2 p3 p4 p5 count_h0  k_65 (v8_65 + 1) (v7_65 - r9) n1_65 b1_65)
noncomputable def F_Nd_add (p1 : Int32) (p2 : Int32) (p3 : Int32) (p4 : Int32) (p5 : Int32) (count_h0 : Int32) (n_a_cells_h0 : Nat) (b_a_cells_h0 : Nat → Int32) : Option ((Int32 × Nat × (Nat → Int32)) × Nat × Nat) :=
  if count_h0 < 16385 then (if ((count_h0 * 7) + 7) ≤ (nI n_a_cells_h0) then (F_Nd_add_65 p1 p2 p3 p4 p5 count_h0  FU 0 count_h0 n_a_cells_h0 b_a_cells_h0)
    else (bw (F_JA_copyOf2 (mn (2 * (nI n_a_cells_h0)) 114695) n_a_cells_h0 b_a_cells_h0) fun _ =>
      F_Nd_add_65 p1 p2 p3 p4 p5 count_h0  FU 0 count_h0 (Int32.toNatClampNeg (mn (2 * (nI n_a_cells_h0)) 114695)) (va_cpy b_a_cells_h0 (fun _ => 0) (Int32.toNatClampNeg 0) (Int32.toNatClampNeg 0) (Int32.toNatClampNeg (mn (nI n_a_cells_h0) (mn (2 * (nI n_a_cells_h0)) 114695))))))
  else (some ((count_h0, n_a_cells_h0, b_a_cells_h0), 0, 0))
theorem d_Nd_add_0 : decode prog_4_method_10_code 0 = .ok (.aload_n 0, 1) := by decide +kernel
theorem d_Nd_add_1 : decode prog_4_method_10_code 1 = .ok (.getfield 15, 3) := by decide +kernel
theorem d_Nd_add_4 : decode prog_4_method_10_code 4 = .ok (.sipush 16385, 3) := by decide +kernel
theorem d_Nd_add_7 : decode prog_4_method_10_code 7 = .ok (.if_icmp .lt 4, 3) := by decide +kernel
theorem d_Nd_add_10 : decode prog_4_method_10_code 10 = .ok (.return_, 1) := by decide +kernel
theorem d_Nd_add_11 : decode prog_4_method_10_code 11 = .ok (.aload_n 0, 1) := by decide +kernel
theorem d_Nd_add_12 : decode prog_4_method_10_code 12 = .ok (.getfield 15, 3) := by decide +kernel
theorem d_Nd_add_15 : decode prog_4_method_10_code 15 = .ok (.bipush 7, 2) := by decide +kernel
theorem d_Nd_add_17 : decode prog_4_method_10_code 17 = .ok (.imul, 1) := by decide +kernel
theorem d_Nd_add_18 : decode prog_4_method_10_code 18 = .ok (.istore 6, 2) := by decide +kernel
theorem d_Nd_add_20 : decode prog_4_method_10_code 20 = .ok (.iload 6, 2) := by decide +kernel
theorem d_Nd_add_22 : decode prog_4_method_10_code 22 = .ok (.bipush 7, 2) := by decide +kernel
theorem d_Nd_add_24 : decode prog_4_method_10_code 24 = .ok (.iadd, 1) := by decide +kernel
theorem d_Nd_add_25 : decode prog_4_method_10_code 25 = .ok (.aload_n 0, 1) := by decide +kernel
theorem d_Nd_add_26 : decode prog_4_method_10_code 26 = .ok (.getfield 11, 3) := by decide +kernel
theorem d_Nd_add_29 : decode prog_4_method_10_code 29 = .ok (.arraylength, 1) := by decide +kernel
theorem d_Nd_add_30 : decode prog_4_method_10_code 30 = .ok (.if_icmp .le 26, 3) := by decide +kernel
theorem d_Nd_add_33 : decode prog_4_method_10_code 33 = .ok (.aload_n 0, 1) := by decide +kernel
theorem d_Nd_add_34 : decode prog_4_method_10_code 34 = .ok (.aload_n 0, 1) := by decide +kernel
theorem d_Nd_add_35 : decode prog_4_method_10_code 35 = .ok (.getfield 11, 3) := by decide +kernel
theorem d_Nd_add_38 : decode prog_4_method_10_code 38 = .ok (.iconst 2, 1) := by decide +kernel
theorem d_Nd_add_39 : decode prog_4_method_10_code 39 = .ok (.aload_n 0, 1) := by decide +kernel
theorem d_Nd_add_40 : decode prog_4_method_10_code 40 = .ok (.getfield 11, 3) := by decide +kernel
theorem d_Nd_add_43 : decode prog_4_method_10_code 43 = .ok (.arraylength, 1) := by decide +kernel
theorem d_Nd_add_44 : decode prog_4_method_10_code 44 = .ok (.imul, 1) := by decide +kernel
theorem d_Nd_add_45 : decode prog_4_method_10_code 45 = .ok (.ldc 25, 2) := by decide +kernel
theorem d_Nd_add_47 : decode prog_4_method_10_code 47 = .ok (.invokestatic 26, 3) := by decide +kernel
theorem d_Nd_add_50 : decode prog_4_method_10_code 50 = .ok (.invokestatic 31, 3) := by decide +kernel
theorem d_Nd_add_53 : decode prog_4_method_10_code 53 = .ok (.putfield 11, 3) := by decide +kernel
theorem d_Nd_add_56 : decode prog_4_method_10_code 56 = .ok (.aload_n 0, 1) := by decide +kernel
theorem d_Nd_add_57 : decode prog_4_method_10_code 57 = .ok (.getfield 15, 3) := by decide +kernel
theorem d_Nd_add_60 : decode prog_4_method_10_code 60 = .ok (.istore 7, 2) := by decide +kernel
theorem d_Nd_add_62 : decode prog_4_method_10_code 62 = .ok (.iconst 0, 1) := by decide +kernel
theorem d_Nd_add_63 : decode prog_4_method_10_code 63 = .ok (.istore 8, 2) := by decide +kernel
theorem d_Nd_add_65 : decode prog_4_method_10_code 65 = .ok (.iload 8, 2) := by decide +kernel
theorem d_Nd_add_67 : decode prog_4_method_10_code 67 = .ok (.iload 4, 2) := by decide +kernel
theorem d_Nd_add_69 : decode prog_4_method_10_code 69 = .ok (.if_icmp .ge 23, 3) := by decide +kernel
theorem d_Nd_add_72 : decode prog_4_method_10_code 72 = .ok (.iload 7, 2) := by decide +kernel
theorem d_Nd_add_74 : decode prog_4_method_10_code 74 = .ok (.aload_n 0, 1) := by decide +kernel
theorem d_Nd_add_75 : decode prog_4_method_10_code 75 = .ok (.iload 7, 2) := by decide +kernel
theorem d_Nd_add_77 : decode prog_4_method_10_code 77 = .ok (.iconst 1, 1) := by decide +kernel
theorem d_Nd_add_78 : decode prog_4_method_10_code 78 = .ok (.isub, 1) := by decide +kernel
theorem d_Nd_add_79 : decode prog_4_method_10_code 79 = .ok (.iconst 5, 1) := by decide +kernel
theorem d_Nd_add_80 : decode prog_4_method_10_code 80 = .ok (.invokevirtual 19, 3) := by decide +kernel
theorem d_Nd_add_83 : decode prog_4_method_10_code 83 = .ok (.isub, 1) := by decide +kernel
theorem d_Nd_add_84 : decode prog_4_method_10_code 84 = .ok (.istore 7, 2) := by decide +kernel
theorem d_Nd_add_86 : decode prog_4_method_10_code 86 = .ok (.iinc 8 1, 3) := by decide +kernel
theorem d_Nd_add_89 : decode prog_4_method_10_code 89 = .ok (.goto (-24), 3) := by decide +kernel
theorem d_Nd_add_92 : decode prog_4_method_10_code 92 = .ok (.aload_n 0, 1) := by decide +kernel
theorem d_Nd_add_93 : decode prog_4_method_10_code 93 = .ok (.getfield 11, 3) := by decide +kernel
theorem d_Nd_add_96 : decode prog_4_method_10_code 96 = .ok (.iload 6, 2) := by decide +kernel
theorem d_Nd_add_98 : decode prog_4_method_10_code 98 = .ok (.iconst 0, 1) := by decide +kernel
theorem d_Nd_add_99 : decode prog_4_method_10_code 99 = .ok (.iadd, 1) := by decide +kernel
theorem d_Nd_add_100 : decode prog_4_method_10_code 100 = .ok (.iload_n 1, 1) := by decide +kernel
theorem d_Nd_add_101 : decode prog_4_method_10_code 101 = .ok (.iastore, 1) := by decide +kernel
theorem d_Nd_add_102 : decode prog_4_method_10_code 102 = .ok (.aload_n 0, 1) := by decide +kernel
theorem d_Nd_add_103 : decode prog_4_method_10_code 103 = .ok (.getfield 11, 3) := by decide +kernel
theorem d_Nd_add_106 : decode prog_4_method_10_code 106 = .ok (.iload 6, 2) := by decide +kernel
theorem d_Nd_add_108 : decode prog_4_method_10_code 108 = .ok (.iconst 1, 1) := by decide +kernel
theorem d_Nd_add_109 : decode prog_4_method_10_code 109 = .ok (.iadd, 1) := by decide +kernel
theorem d_Nd_add_110 : decode prog_4_method_10_code 110 = .ok (.iload_n 2, 1) := by decide +kernel
theorem d_Nd_add_111 : decode prog_4_method_10_code 111 = .ok (.iastore, 1) := by decide +kernel
theorem d_Nd_add_112 : decode prog_4_method_10_code 112 = .ok (.aload_n 0, 1) := by decide +kernel
theorem d_Nd_add_113 : decode prog_4_method_10_code 113 = .ok (.getfield 11, 3) := by decide +kernel
theorem d_Nd_add_116 : decode prog_4_method_10_code 116 = .ok (.iload 6, 2) := by decide +kernel
theorem d_Nd_add_118 : decode prog_4_method_10_code 118 = .ok (.iconst 2, 1) := by decide +kernel
theorem d_Nd_add_119 : decode prog_4_method_10_code 119 = .ok (.iadd, 1) := by decide +kernel
theorem d_Nd_add_120 : decode prog_4_method_10_code 120 = .ok (.iload_n 3, 1) := by decide +kernel
theorem d_Nd_add_121 : decode prog_4_method_10_code 121 = .ok (.iastore, 1) := by decide +kernel
theorem d_Nd_add_122 : decode prog_4_method_10_code 122 = .ok (.aload_n 0, 1) := by decide +kernel
theorem d_Nd_add_123 : decode prog_4_method_10_code 123 = .ok (.getfield 11, 3) := by decide +kernel
theorem d_Nd_add_126 : decode prog_4_method_10_code 126 = .ok (.iload 6, 2) := by decide +kernel
theorem d_Nd_add_128 : decode prog_4_method_10_code 128 = .ok (.iconst 3, 1) := by decide +kernel
theorem d_Nd_add_129 : decode prog_4_method_10_code 129 = .ok (.iadd, 1) := by decide +kernel
theorem d_Nd_add_130 : decode prog_4_method_10_code 130 = .ok (.iload 4, 2) := by decide +kernel
theorem d_Nd_add_132 : decode prog_4_method_10_code 132 = .ok (.iastore, 1) := by decide +kernel
theorem d_Nd_add_133 : decode prog_4_method_10_code 133 = .ok (.aload_n 0, 1) := by decide +kernel
theorem d_Nd_add_134 : decode prog_4_method_10_code 134 = .ok (.getfield 11, 3) := by decide +kernel
theorem d_Nd_add_137 : decode prog_4_method_10_code 137 = .ok (.iload 6, 2) := by decide +kernel
theorem d_Nd_add_139 : decode prog_4_method_10_code 139 = .ok (.iconst 4, 1) := by decide +kernel
theorem d_Nd_add_140 : decode prog_4_method_10_code 140 = .ok (.iadd, 1) := by decide +kernel
theorem d_Nd_add_141 : decode prog_4_method_10_code 141 = .ok (.iload 5, 2) := by decide +kernel
theorem d_Nd_add_143 : decode prog_4_method_10_code 143 = .ok (.iastore, 1) := by decide +kernel
theorem d_Nd_add_144 : decode prog_4_method_10_code 144 = .ok (.aload_n 0, 1) := by decide +kernel
theorem d_Nd_add_145 : decode prog_4_method_10_code 145 = .ok (.getfield 11, 3) := by decide +kernel
theorem d_Nd_add_148 : decode prog_4_method_10_code 148 = .ok (.iload 6, 2) := by decide +kernel
theorem d_Nd_add_150 : decode prog_4_method_10_code 150 = .ok (.iconst 5, 1) := by decide +kernel
theorem d_Nd_add_151 : decode prog_4_method_10_code 151 = .ok (.iadd, 1) := by decide +kernel
theorem d_Nd_add_152 : decode prog_4_method_10_code 152 = .ok (.aload_n 0, 1) := by decide +kernel
theorem d_Nd_add_153 : decode prog_4_method_10_code 153 = .ok (.getfield 15, 3) := by decide +kernel
theorem d_Nd_add_156 : decode prog_4_method_10_code 156 = .ok (.iload 7, 2) := by decide +kernel
theorem d_Nd_add_158 : decode prog_4_method_10_code 158 = .ok (.isub, 1) := by decide +kernel
theorem d_Nd_add_159 : decode prog_4_method_10_code 159 = .ok (.iconst 1, 1) := by decide +kernel
theorem d_Nd_add_160 : decode prog_4_method_10_code 160 = .ok (.iadd, 1) := by decide +kernel
theorem d_Nd_add_161 : decode prog_4_method_10_code 161 = .ok (.iastore, 1) := by decide +kernel
theorem d_Nd_add_162 : decode prog_4_method_10_code 162 = .ok (.aload_n 0, 1) := by decide +kernel
theorem d_Nd_add_163 : decode prog_4_method_10_code 163 = .ok (.getfield 11, 3) := by decide +kernel
theorem d_Nd_add_166 : decode prog_4_method_10_code 166 = .ok (.iload 6, 2) := by decide +kernel
theorem d_Nd_add_168 : decode prog_4_method_10_code 168 = .ok (.bipush 6, 2) := by decide +kernel
theorem d_Nd_add_170 : decode prog_4_method_10_code 170 = .ok (.iadd, 1) := by decide +kernel
theorem d_Nd_add_171 : decode prog_4_method_10_code 171 = .ok (.iconst (-1), 1) := by decide +kernel
theorem d_Nd_add_172 : decode prog_4_method_10_code 172 = .ok (.iastore, 1) := by decide +kernel
theorem d_Nd_add_173 : decode prog_4_method_10_code 173 = .ok (.aload_n 0, 1) := by decide +kernel
theorem d_Nd_add_174 : decode prog_4_method_10_code 174 = .ok (.dup, 1) := by decide +kernel
theorem d_Nd_add_175 : decode prog_4_method_10_code 175 = .ok (.getfield 15, 3) := by decide +kernel
theorem d_Nd_add_178 : decode prog_4_method_10_code 178 = .ok (.iconst 1, 1) := by decide +kernel
theorem d_Nd_add_179 : decode prog_4_method_10_code 179 = .ok (.iadd, 1) := by decide +kernel
theorem d_Nd_add_180 : decode prog_4_method_10_code 180 = .ok (.putfield 15, 3) := by decide +kernel
theorem d_Nd_add_183 : decode prog_4_method_10_code 183 = .ok (.return_, 1) := by decide +kernel
set_option maxHeartbeats 4000000 in
set_option maxRecDepth 100000 in
theorem L_Nd_add_65 (l : Launch) (D : va_G) (cI cB cJ cS : ClassId) (h0 : Nat) (a_cells_h0 : Nat) (p1 : Int32) (p2 : Int32) (p3 : Int32) (p4 : Int32) (p5 : Int32) (count_h0 : Int32) (n_a_cells_h0 : Nat) (b_a_cells_h0 : Nat → Int32) (o_0_1 : Int32) (on_nq_0_0 : Nat) (ob_nq_0_0 : Nat → Int32) (mc ms : Nat) (p : Program) (e : Env) (s : State) (m : MethodId) (below : List Frame) (meth : Method) (c : Code) (hr : meth.sig.returnType = (Option.none : Option Jvm.ClassFile.FieldType)) (hnm : meth.name = y_Nd_add.name) : ∀ (k_65 : Nat) (q0_0_65 : Nat) (v8_65 : Int32) (v7_65 : Int32) (n1_65 : Nat) (b1_65 : Nat → Int32) (cl_65 sl_65 C_65 S_65 : Nat), F_Nd_add_65 p1 p2 p3 p4 p5 count_h0  k_65 v8_65 v7_65 n1_65 b1_65 = some ((o_0_1, on_nq_0_0, ob_nq_0_0), C_65, S_65) → cl_65 + C_65 ≤ mc → sl_65 + S_65 ≤ ms → J (KxOf p l e { frames := 2, cells := mc, slots := ms, locals := 82 } s m [.ref h0, .int p1, .int p2, .int p3, .int p4, .int p5].toArray below meth c D (gT cI cB cJ cS) [(h0, .inr (1, [.ref a_cells_h0, .int count_h0])), (a_cells_h0, .inl (cI, n_a_cells_h0, .inl b_a_cells_h0))] (fun v w => ∃ nq_0_0 : Nat, v = none ∧ w = [(h0, .inr (1, [.ref nq_0_0, .int o_0_1])), (nq_0_0, .inl (cI, on_nq_0_0, .inl ob_nq_0_0))]) mc ms) prog_4_method_10_code 9 R_Nd 65 [(8, .int v8_65), (7, .int v7_65), (6, .int (count_h0 * 7)), (0, .ref h0), (1, .int p1), (2, .int p2), (3, .int p3), (4, .int p4), (5, .int p5)] [] [(h0, .inr (1, [.ref q0_0_65, .int count_h0])), (q0_0_65, .inl (cI, n1_65, .inl b1_65))] cl_65 sl_65 := by
  intro k_65
  induction k_65 with
  | zero => intro q0_0_65 v8_65 v7_65 n1_65 b1_65 cl_65 sl_65 C_65 S_65 h; rw [F_Nd_add_65] at h; cases h
  | succ k_65 ih_65 =>
    intro q0_0_65 v8_65 v7_65 n1_65 b1_65 cl_65 sl_65 C_65 S_65 h hC hS
    rw [F_Nd_add_65] at h
    refine j_iload d_Nd_add_65 0 rfl ?_
    refine j_iload d_Nd_add_67 7 rfl ?_
    refine j_icmp_ge (tgt := 92) d_Nd_add_69 (by decide) (fun c1 => ?_) (fun c1 => ?_)
    · replace h := it_t c1 h
      refine j_aload_n d_Nd_add_92 rfl 3 rfl ?_
      refine j_get ig_Nd rfl 0 rfl 0 (by decide) rfl m_79 rfl d_Nd_add_93 ?_
      refine j_iload d_Nd_add_96 2 rfl ?_
      refine j_iconst (v := 0) d_Nd_add_98 (by decide) ?_
      refine j_iadd d_Nd_add_99 ?_
      refine j_iload_n d_Nd_add_100 rfl 4 rfl ?_
      replace h := inb_s h
      obtain ⟨i2, h⟩ := h
      refine j_iast (t0 := 0) (ws' := [(h0, .inr (1, [.ref q0_0_65, .int count_h0])), (q0_0_65, .inl (cI, n1_65, .inl (upd b1_65 (Int32.toNatClampNeg ((count_h0 * 7) + 0)) p1)))]) 1 rfl rfl i2 d_Nd_add_101 rfl ?_
      refine j_aload_n d_Nd_add_102 rfl 3 rfl ?_
      refine j_get ig_Nd rfl 0 rfl 0 (by decide) rfl m_79 rfl d_Nd_add_103 ?_
      refine j_iload d_Nd_add_106 2 rfl ?_
      refine j_iconst (v := 1) d_Nd_add_108 (by decide) ?_
      refine j_iadd d_Nd_add_109 ?_
      refine j_iload_n d_Nd_add_110 rfl 5 rfl ?_
      replace h := inb_s h
      obtain ⟨i3, h⟩ := h
      refine j_iast (t0 := 0) (ws' := [(h0, .inr (1, [.ref q0_0_65, .int count_h0])), (q0_0_65, .inl (cI, n1_65, .inl (upd (upd b1_65 (Int32.toNatClampNeg ((count_h0 * 7) + 0)) p1) (Int32.toNatClampNeg ((count_h0 * 7) + 1)) p2)))]) 1 rfl rfl i3 d_Nd_add_111 rfl ?_
      refine j_aload_n d_Nd_add_112 rfl 3 rfl ?_
      refine j_get ig_Nd rfl 0 rfl 0 (by decide) rfl m_79 rfl d_Nd_add_113 ?_
      refine j_iload d_Nd_add_116 2 rfl ?_
      refine j_iconst (v := 2) d_Nd_add_118 (by decide) ?_
      refine j_iadd d_Nd_add_119 ?_
      refine j_iload_n d_Nd_add_120 rfl 6 rfl ?_
      replace h := inb_s h
      obtain ⟨i4, h⟩ := h
      refine j_iast (t0 := 0) (ws' := [(h0, .inr (1, [.ref q0_0_65, .int count_h0])), (q0_0_65, .inl (cI, n1_65, .inl (upd (upd (upd b1_65 (Int32.toNatClampNeg ((count_h0 * 7) + 0)) p1) (Int32.toNatClampNeg ((count_h0 * 7) + 1)) p2) (Int32.toNatClampNeg ((count_h0 * 7) + 2)) p3)))]) 1 rfl rfl i4 d_Nd_add_121 rfl ?_
      refine j_aload_n d_Nd_add_122 rfl 3 rfl ?_
      refine j_get ig_Nd rfl 0 rfl 0 (by decide) rfl m_79 rfl d_Nd_add_123 ?_
      refine j_iload d_Nd_add_126 2 rfl ?_
      refine j_iconst (v := 3) d_Nd_add_128 (by decide) ?_
      refine j_iadd d_Nd_add_129 ?_
      refine j_iload d_Nd_add_130 7 rfl ?_
      replace h := inb_s h
      obtain ⟨i5, h⟩ := h
      refine j_iast (t0 := 0) (ws' := [(h0, .inr (1, [.ref q0_0_65, .int count_h0])), (q0_0_65, .inl (cI, n1_65, .inl (upd (upd (upd (upd b1_65 (Int32.toNatClampNeg ((count_h0 * 7) + 0)) p1) (Int32.toNatClampNeg ((count_h0 * 7) + 1)) p2) (Int32.toNatClampNeg ((count_h0 * 7) + 2)) p3) (Int32.toNatClampNeg ((count_h0 * 7) + 3)) p4)))]) 1 rfl rfl i5 d_Nd_add_132 rfl ?_
      refine j_aload_n d_Nd_add_133 rfl 3 rfl ?_
      refine j_get ig_Nd rfl 0 rfl 0 (by decide) rfl m_79 rfl d_Nd_add_134 ?_
      refine j_iload d_Nd_add_137 2 rfl ?_
      refine j_iconst (v := 4) d_Nd_add_139 (by decide) ?_
      refine j_iadd d_Nd_add_140 ?_
      refine j_iload d_Nd_add_141 8 rfl ?_
      replace h := inb_s h
      obtain ⟨i6, h⟩ := h
      refine j_iast (t0 := 0) (ws' := [(h0, .inr (1, [.ref q0_0_65, .int count_h0])), (q0_0_65, .inl (cI, n1_65, .inl (upd (upd (upd (upd (upd b1_65 (Int32.toNatClampNeg ((count_h0 * 7) + 0)) p1) (Int32.toNatClampNeg ((count_h0 * 7) + 1)) p2) (Int32.toNatClampNeg ((count_h0 * 7) + 2)) p3) (Int32.toNatClampNeg ((count_h0 * 7) + 3)) p4) (Int32.toNatClampNeg ((count_h0 * 7) + 4)) p5)))]) 1 rfl rfl i6 d_Nd_add_143 rfl ?_
      refine j_aload_n d_Nd_add_144 rfl 3 rfl ?_
      refine j_get ig_Nd rfl 0 rfl 0 (by decide) rfl m_79 rfl d_Nd_add_145 ?_
      refine j_iload d_Nd_add_148 2 rfl ?_
      refine j_iconst (v := 5) d_Nd_add_150 (by decide) ?_
      refine j_iadd d_Nd_add_151 ?_
      refine j_aload_n d_Nd_add_152 rfl 3 rfl ?_
      refine j_get ig_Nd rfl 0 rfl 1 (by decide) rfl m_80 rfl d_Nd_add_153 ?_
      refine j_iload d_Nd_add_156 1 rfl ?_
      refine j_isub d_Nd_add_158 ?_
      refine j_iconst (v := 1) d_Nd_add_159 (by decide) ?_
      refine j_iadd d_Nd_add_160 ?_
      replace h := inb_s h
      obtain ⟨i7, h⟩ := h
      refine j_iast (t0 := 0) (ws' := [(h0, .inr (1, [.ref q0_0_65, .int count_h0])), (q0_0_65, .inl (cI, n1_65, .inl (upd (upd (upd (upd (upd (upd b1_65 (Int32.toNatClampNeg ((count_h0 * 7) + 0)) p1) (Int32.toNatClampNeg ((count_h0 * 7) + 1)) p2) (Int32.toNatClampNeg ((count_h0 * 7) + 2)) p3) (Int32.toNatClampNeg ((count_h0 * 7) + 3)) p4) (Int32.toNatClampNeg ((count_h0 * 7) + 4)) p5) (Int32.toNatClampNeg ((count_h0 * 7) + 5)) ((count_h0 - v7_65) + 1))))]) 1 rfl rfl i7 d_Nd_add_161 rfl ?_
      refine j_aload_n d_Nd_add_162 rfl 3 rfl ?_
      refine j_get ig_Nd rfl 0 rfl 0 (by decide) rfl m_79 rfl d_Nd_add_163 ?_
      refine j_iload d_Nd_add_166 2 rfl ?_
      refine j_bipush (v := 6) d_Nd_add_168 (by decide) ?_
      refine j_iadd d_Nd_add_170 ?_
      refine j_iconst (v := (-1)) d_Nd_add_171 (by decide) ?_
      replace h := inb_s h
      obtain ⟨i8, h⟩ := h
      refine j_iast (t0 := 0) (ws' := [(h0, .inr (1, [.ref q0_0_65, .int count_h0])), (q0_0_65, .inl (cI, n1_65, .inl (upd (upd (upd (upd (upd (upd (upd b1_65 (Int32.toNatClampNeg ((count_h0 * 7) + 0)) p1) (Int32.toNatClampNeg ((count_h0 * 7) + 1)) p2) (Int32.toNatClampNeg ((count_h0 * 7) + 2)) p3) (Int32.toNatClampNeg ((count_h0 * 7) + 3)) p4) (Int32.toNatClampNeg ((count_h0 * 7) + 4)) p5) (Int32.toNatClampNeg ((count_h0 * 7) + 5)) ((count_h0 - v7_65) + 1)) (Int32.toNatClampNeg ((count_h0 * 7) + 6)) (-1))))]) 1 rfl rfl i8 d_Nd_add_172 rfl ?_
      refine j_aload_n d_Nd_add_173 rfl 3 rfl ?_
      refine j_dup rfl d_Nd_add_174 ?_
      refine j_get ig_Nd rfl 0 rfl 1 (by decide) rfl m_80 rfl d_Nd_add_175 ?_
      refine j_iconst (v := 1) d_Nd_add_178 (by decide) ?_
      refine j_iadd d_Nd_add_179 ?_
      refine j_put (ws' := [(h0, .inr (1, [.ref q0_0_65, .int (count_h0 + 1)])), (q0_0_65, .inl (cI, n1_65, .inl (upd (upd (upd (upd (upd (upd (upd b1_65 (Int32.toNatClampNeg ((count_h0 * 7) + 0)) p1) (Int32.toNatClampNeg ((count_h0 * 7) + 1)) p2) (Int32.toNatClampNeg ((count_h0 * 7) + 2)) p3) (Int32.toNatClampNeg ((count_h0 * 7) + 3)) p4) (Int32.toNatClampNeg ((count_h0 * 7) + 4)) p5) (Int32.toNatClampNeg ((count_h0 * 7) + 5)) ((count_h0 - v7_65) + 1)) (Int32.toNatClampNeg ((count_h0 * 7) + 6)) (-1))))]) ig_Nd tk_Nd nm_Nd rfl 0 rfl 1 (by decide) rfl m_80 rfl (tk_Nd 1 (by decide)) rfl rfl (Nat.le_of_ble_eq_true rfl) d_Nd_add_180 rfl ?_
      replace h := lf_s h
      obtain ⟨h, e1, e2⟩ := h
      replace h := Prod.mk.inj h
      obtain ⟨h9, h⟩ := h
      subst h9
      replace h := Prod.mk.inj h
      obtain ⟨h9, h⟩ := h
      subst h9
      subst h
      refine j_widen (cl' := mc) (sl' := ms) (by omega) (by omega) ?_
      exact j_vret (w := [(h0, .inr (1, [.ref q0_0_65, .int (count_h0 + 1)])), (q0_0_65, .inl (cI, n1_65, .inl (upd (upd (upd (upd (upd (upd (upd b1_65 (Int32.toNatClampNeg ((count_h0 * 7) + 0)) p1) (Int32.toNatClampNeg ((count_h0 * 7) + 1)) p2) (Int32.toNatClampNeg ((count_h0 * 7) + 2)) p3) (Int32.toNatClampNeg ((count_h0 * 7) + 3)) p4) (Int32.toNatClampNeg ((count_h0 * 7) + 4)) p5) (Int32.toNatClampNeg ((count_h0 * 7) + 5)) ((count_h0 - v7_65) + 1)) (Int32.toNatClampNeg ((count_h0 * 7) + 6)) (-1))))]) hr d_Nd_add_183 [0, 1] rfl (by decide) ⟨q0_0_65, rfl, rfl⟩
    · replace h := it_f c1 h
      refine j_iload d_Nd_add_72 1 rfl ?_
      refine j_aload_n d_Nd_add_74 rfl 3 rfl ?_
      refine j_iload d_Nd_add_75 1 rfl ?_
      refine j_iconst (v := 1) d_Nd_add_77 (by decide) ?_
      refine j_isub d_Nd_add_78 ?_
      refine j_iconst (v := 5) d_Nd_add_79 (by decide) ?_
      replace h := bd_s h
      obtain ⟨r9, k10, h⟩ := h
      refine j_callV (n := 2) (As := [.int (v7_65 - 1), .int 5]) (rest := [.int v7_65]) (wr := []) (c_Nd_get l D cI cB cJ cS h0 q0_0_65 (v7_65 - 1) 5 count_h0 n1_65 b1_65  r9 k10) k_Nd_19 (by decide) ⟨Nat.le_of_ble_eq_true rfl, Nat.le_of_ble_eq_true rfl⟩ rfl 0 rfl [0, 1] [] rfl (by decide) rfl (by decide) (by decide) rfl rfl (Nat.le_of_ble_eq_true rfl) d_Nd_add_80 ⟨show cl_65 + 0 ≤ mc by omega, show sl_65 + 0 ≤ ms by omega⟩ (fun v w hq => ?_)
      obtain ⟨rfl, rfl⟩ := hq
      refine j_norm (pc' := 83) (st' := [.int r9, .int v7_65]) (ws' := [(h0, .inr (1, [.ref q0_0_65, .int count_h0])), (q0_0_65, .inl (cI, n1_65, .inl b1_65))]) (cl' := cl_65) (sl' := sl_65) rfl rfl rfl rfl rfl rfl ?_
      refine j_isub d_Nd_add_83 ?_
      refine j_istore (lv' := [(7, .int (v7_65 - r9)), (8, .int v8_65), (6, .int (count_h0 * 7)), (0, .ref h0), (1, .int p1), (2, .int p2), (3, .int p3), (4, .int p4), (5, .int p5)]) d_Nd_add_84 (by decide) rfl ?_
      refine j_iinc (v := v8_65 + 1) (lv' := [(8, .int (v8_65 + 1)), (7, .int (v7_65 - r9)), (6, .int (count_h0 * 7)), (0, .ref h0), (1, .int p1), (2, .int p2), (3, .int p3), (4, .int p4), (5, .int p5)]) d_Nd_add_86 1 rfl rfl (by decide) rfl ?_
      refine j_goto (tgt := 65) d_Nd_add_89 (by decide) ?_
      refine j_sub (w := [(h0, .inr (1, [.ref q0_0_65, .int count_h0])), (q0_0_65, .inl (cI, n1_65, .inl b1_65))]) (lv' := [(8, .int (v8_65 + 1)), (7, .int (v7_65 - r9)), (6, .int (count_h0 * 7)), (0, .ref h0), (1, .int p1), (2, .int p2), (3, .int p3), (4, .int p4), (5, .int p5)]) [0, 1] rfl (by decide) [0, 1, 2, 3, 4, 5, 6, 7, 8] rfl ?_
      exact ih_65 q0_0_65 (v8_65 + 1) (v7_65 - r9) n1_65 b1_65 cl_65 sl_65 C_65 S_65 h hC hS
set_option maxHeartbeats 4000000 in
set_option maxRecDepth 100000 in
theorem c_Nd_add (l : Launch) (D : va_G) (cI cB cJ cS : ClassId) (h0 : Nat) (a_cells_h0 : Nat) (p1 : Int32) (p2 : Int32) (p3 : Int32) (p4 : Int32) (p5 : Int32) (count_h0 : Int32) (n_a_cells_h0 : Nat) (b_a_cells_h0 : Nat → Int32) (o_0_1 : Int32) (on_nq_0_0 : Nat) (ob_nq_0_0 : Nat → Int32) (mc ms : Nat) (h : F_Nd_add p1 p2 p3 p4 p5 count_h0 n_a_cells_h0 b_a_cells_h0 = some ((o_0_1, on_nq_0_0, ob_nq_0_0), mc, ms)) : Ct l D (gT cI cB cJ cS) y_Nd_add prog_4_method_10_code 9 (Option.none : Option Jvm.ClassFile.FieldType) 2 82 mc ms [.ref h0, .int p1, .int p2, .int p3, .int p4, .int p5] [(h0, .inr (1, [.ref a_cells_h0, .int count_h0])), (a_cells_h0, .inl (cI, n_a_cells_h0, .inl b_a_cells_h0))] (fun v w => ∃ nq_0_0 : Nat, v = none ∧ w = [(h0, .inr (1, [.ref nq_0_0, .int o_0_1])), (nq_0_0, .inl (cI, on_nq_0_0, .inl ob_nq_0_0))]) := by
  refine Ct.mk (by decide) (Nat.le_of_ble_eq_true rfl) ?_
  intro p e s m below meth c hr hnm
  refine j_norm (pc' := 0) (lv' := [(0, .ref h0), (1, .int p1), (2, .int p2), (3, .int p3), (4, .int p4), (5, .int p5)]) (st' := []) (ws' := [(h0, .inr (1, [.ref a_cells_h0, .int count_h0])), (a_cells_h0, .inl (cI, n_a_cells_h0, .inl b_a_cells_h0))]) (cl' := 0) (sl' := 0) rfl rfl rfl rfl rfl rfl ?_
  unfold F_Nd_add at h
  have hC : 0 + mc ≤ mc := by omega
  have hS : 0 + ms ≤ ms := by omega
  refine j_aload_n d_Nd_add_0 rfl 0 rfl ?_
  refine j_get ig_Nd rfl 0 rfl 1 (by decide) rfl m_80 rfl d_Nd_add_1 ?_
  refine j_sipush (v := 16385) d_Nd_add_4 (by decide) ?_
  refine j_icmp_lt (tgt := 11) d_Nd_add_7 (by decide) (fun c11 => ?_) (fun c11 => ?_)
  · replace h := it_t c11 h
    refine j_aload_n d_Nd_add_11 rfl 0 rfl ?_
    refine j_get ig_Nd rfl 0 rfl 1 (by decide) rfl m_80 rfl d_Nd_add_12 ?_
    refine j_bipush (v := 7) d_Nd_add_15 (by decide) ?_
    refine j_imul d_Nd_add_17 ?_
    refine j_istore (lv' := [(6, .int (count_h0 * 7)), (0, .ref h0), (1, .int p1), (2, .int p2), (3, .int p3), (4, .int p4), (5, .int p5)]) d_Nd_add_18 (by decide) rfl ?_
    refine j_iload d_Nd_add_20 0 rfl ?_
    refine j_bipush (v := 7) d_Nd_add_22 (by decide) ?_
    refine j_iadd d_Nd_add_24 ?_
    refine j_aload_n d_Nd_add_25 rfl 1 rfl ?_
    refine j_get ig_Nd rfl 0 rfl 0 (by decide) rfl m_79 rfl d_Nd_add_26 ?_
    refine j_alen (t0 := 0) 1 rfl rfl rfl d_Nd_add_29 ?_
    refine j_icmp_le (tgt := 56) d_Nd_add_30 (by decide) (fun c12 => ?_) (fun c12 => ?_)
    · replace h := it_t c12 h
      refine j_aload_n d_Nd_add_56 rfl 1 rfl ?_
      refine j_get ig_Nd rfl 0 rfl 1 (by decide) rfl m_80 rfl d_Nd_add_57 ?_
      refine j_istore (lv' := [(7, .int count_h0), (6, .int (count_h0 * 7)), (0, .ref h0), (1, .int p1), (2, .int p2), (3, .int p3), (4, .int p4), (5, .int p5)]) d_Nd_add_60 (by decide) rfl ?_
      refine j_iconst (v := 0) d_Nd_add_62 (by decide) ?_
      refine j_istore (lv' := [(8, .int 0), (7, .int count_h0), (6, .int (count_h0 * 7)), (0, .ref h0), (1, .int p1), (2, .int p2), (3, .int p3), (4, .int p4), (5, .int p5)]) d_Nd_add_63 (by decide) rfl ?_
      refine j_sub (w := [(h0, .inr (1, [.ref a_cells_h0, .int count_h0])), (a_cells_h0, .inl (cI, n_a_cells_h0, .inl b_a_cells_h0))]) (lv' := [(8, .int 0), (7, .int count_h0), (6, .int (count_h0 * 7)), (0, .ref h0), (1, .int p1), (2, .int p2), (3, .int p3), (4, .int p4), (5, .int p5)]) [0, 1] rfl (by decide) [0, 1, 2, 3, 4, 5, 6, 7, 8] rfl ?_
      exact L_Nd_add_65 l D cI cB cJ cS h0 a_cells_h0 p1 p2 p3 p4 p5 count_h0 n_a_cells_h0 b_a_cells_h0 o_0_1 on_nq_0_0 ob_nq_0_0 mc ms p e s m below meth c hr hnm FU a_cells_h0 0 count_h0 n_a_cells_h0 b_a_cells_h0 0 0 mc ms h hC hS
    · replace h := it_f c12 h
      refine j_aload_n d_Nd_add_33 rfl 1 rfl ?_
      refine j_aload_n d_Nd_add_34 rfl 1 rfl ?_
      refine j_get ig_Nd rfl 0 rfl 0 (by decide) rfl m_79 rfl d_Nd_add_35 ?_
      refine j_iconst (v := 2) d_Nd_add_38 (by decide) ?_
      refine j_aload_n d_Nd_add_39 rfl 1 rfl ?_
      refine j_get ig_Nd rfl 0 rfl 0 (by decide) rfl m_79 rfl d_Nd_add_40 ?_
      refine j_alen (t0 := 0) 1 rfl rfl rfl d_Nd_add_43 ?_
      refine j_imul d_Nd_add_44 ?_
      refine j_ldc (v := 114695) m_457 d_Nd_add_45 ?_
      refine j_mmin m_458 m_293 m_12 mc_min (Nat.le_of_ble_eq_true rfl) (Nat.le_of_ble_eq_true rfl) (show 0 ≤ mc by omega) (show 0 ≤ ms by omega) d_Nd_add_47 ?_
      replace h := bw_s h
      obtain ⟨_, C14, S15, C16, S17, k18, h, e1, e2⟩ := h
      replace hC : 0 + C14 + C16 ≤ mc := by omega
      replace hS : 0 + S15 + S17 ≤ ms := by omega
      clear e1 e2
      refine j_callS (n := 2) (As := [.ref a_cells_h0, .int (mn (2 * (nI n_a_cells_h0)) 114695)]) (rest := [.ref h0]) (wr := [(h0, .inr (1, [.ref a_cells_h0, .int count_h0]))]) (c_JA_copyOf2 l D cI cB cJ cS a_cells_h0 (mn (2 * (nI n_a_cells_h0)) 114695) n_a_cells_h0 b_a_cells_h0  C14 S15 k18) k_Nd_31 (by decide) ⟨Nat.le_of_ble_eq_true rfl, Nat.le_of_ble_eq_true rfl⟩ [1] [0] rfl (by decide) rfl (by decide) (by decide) rfl rfl (Nat.le_of_ble_eq_true rfl) d_Nd_add_50 ⟨show 0 + C14 ≤ mc by omega, show 0 + S15 ≤ ms by omega⟩ (fun v w hq => ?_)
      obtain ⟨q13, rfl, rfl⟩ := hq
      refine j_norm (pc' := 53) (st' := [.ref q13, .ref h0]) (ws' := [(h0, .inr (1, [.ref a_cells_h0, .int count_h0])), (a_cells_h0, .inl (cI, n_a_cells_h0, .inl b_a_cells_h0)), (q13, .inl (cI, (Int32.toNatClampNeg (mn (2 * (nI n_a_cells_h0)) 114695)), .inl (va_cpy b_a_cells_h0 (fun _ => 0) (Int32.toNatClampNeg 0) (Int32.toNatClampNeg 0) (Int32.toNatClampNeg (mn (nI n_a_cells_h0) (mn (2 * (nI n_a_cells_h0)) 114695))))))]) (cl' := 0 + C14) (sl' := 0 + S15) rfl rfl rfl rfl rfl rfl ?_
      refine j_put (ws' := [(h0, .inr (1, [.ref q13, .int count_h0])), (a_cells_h0, .inl (cI, n_a_cells_h0, .inl b_a_cells_h0)), (q13, .inl (cI, (Int32.toNatClampNeg (mn (2 * (nI n_a_cells_h0)) 114695)), .inl (va_cpy b_a_cells_h0 (fun _ => 0) (Int32.toNatClampNeg 0) (Int32.toNatClampNeg 0) (Int32.toNatClampNeg (mn (nI n_a_cells_h0) (mn (2 * (nI n_a_cells_h0)) 114695))))))]) ig_Nd tk_Nd nm_Nd rfl 0 rfl 0 (by decide) rfl m_79 rfl (tk_Nd 0 (by decide)) rfl rfl (Nat.le_of_ble_eq_true rfl) d_Nd_add_53 rfl ?_
      refine j_aload_n d_Nd_add_56 rfl 1 rfl ?_
      refine j_get ig_Nd rfl 0 rfl 1 (by decide) rfl m_80 rfl d_Nd_add_57 ?_
      refine j_istore (lv' := [(7, .int count_h0), (6, .int (count_h0 * 7)), (0, .ref h0), (1, .int p1), (2, .int p2), (3, .int p3), (4, .int p4), (5, .int p5)]) d_Nd_add_60 (by decide) rfl ?_
      refine j_iconst (v := 0) d_Nd_add_62 (by decide) ?_
      refine j_istore (lv' := [(8, .int 0), (7, .int count_h0), (6, .int (count_h0 * 7)), (0, .ref h0), (1, .int p1), (2, .int p2), (3, .int p3), (4, .int p4), (5, .int p5)]) d_Nd_add_63 (by decide) rfl ?_
      refine j_sub (w := [(h0, .inr (1, [.ref q13, .int count_h0])), (q13, .inl (cI, (Int32.toNatClampNeg (mn (2 * (nI n_a_cells_h0)) 114695)), .inl (va_cpy b_a_cells_h0 (fun _ => 0) (Int32.toNatClampNeg 0) (Int32.toNatClampNeg 0) (Int32.toNatClampNeg (mn (nI n_a_cells_h0) (mn (2 * (nI n_a_cells_h0)) 114695))))))]) (lv' := [(8, .int 0), (7, .int count_h0), (6, .int (count_h0 * 7)), (0, .ref h0), (1, .int p1), (2, .int p2), (3, .int p3), (4, .int p4), (5, .int p5)]) [0, 2] rfl (by decide) [0, 1, 2, 3, 4, 5, 6, 7, 8] rfl ?_
      exact L_Nd_add_65 l D cI cB cJ cS h0 a_cells_h0 p1 p2 p3 p4 p5 count_h0 n_a_cells_h0 b_a_cells_h0 o_0_1 on_nq_0_0 ob_nq_0_0 mc ms p e s m below meth c hr hnm FU q13 0 count_h0 (Int32.toNatClampNeg (mn (2 * (nI n_a_cells_h0)) 114695)) (va_cpy b_a_cells_h0 (fun _ => 0) (Int32.toNatClampNeg 0) (Int32.toNatClampNeg 0) (Int32.toNatClampNeg (mn (nI n_a_cells_h0) (mn (2 * (nI n_a_cells_h0)) 114695)))) (0 + C14) (0 + S15) C16 S17 h hC hS
  · replace h := it_f c11 h
    replace h := lf_s h
    obtain ⟨h, e1, e2⟩ := h
    replace h := Prod.mk.inj h
    obtain ⟨h9, h⟩ := h
    subst h9
    replace h := Prod.mk.inj h
    obtain ⟨h9, h⟩ := h
    subst h9
    subst h
    refine j_widen (cl' := mc) (sl' := ms) (by omega) (by omega) ?_
    exact j_vret (w := [(h0, .inr (1, [.ref a_cells_h0, .int count_h0])), (a_cells_h0, .inl (cI, n_a_cells_h0, .inl b_a_cells_h0))]) hr d_Nd_add_10 [0, 1] rfl (by decide) ⟨a_cells_h0, rfl, rfl⟩
noncomputable def F_Nd_addLeaf (p1 : Int32) (p2 : Int32) (p3 : Int32) (count_h0 : Int32) (n_a_cells_h0 : Nat) (b_a_cells_h0 : Nat → Int32) : Option ((Int32 × Nat × (Nat → Int32)) × Nat × Nat) :=
  bw (F_Nd_add p1 p2 (-1) 0 p3 count_h0 n_a_cells_h0 b_a_cells_h0) fun ⟨r1, r2, r3⟩ =>
  (some ((r1, r2, r3), 0, 0))
theorem d_Nd_addLeaf_0 : decode prog_4_method_11_code 0 = .ok (.aload_n 0, 1) := by decide +kernel
theorem d_Nd_addLeaf_1 : decode prog_4_method_11_code 1 = .ok (.iload_n 1, 1) := by decide +kernel
theorem d_Nd_addLeaf_2 : decode prog_4_method_11_code 2 = .ok (.iload_n 2, 1) := by decide +kernel
theorem d_Nd_addLeaf_3 : decode prog_4_method_11_code 3 = .ok (.iconst (-1), 1) := by decide +kernel
theorem d_Nd_addLeaf_4 : decode prog_4_method_11_code 4 = .ok (.iconst 0, 1) := by decide +kernel
theorem d_Nd_addLeaf_5 : decode prog_4_method_11_code 5 = .ok (.iload_n 3, 1) := by decide +kernel
theorem d_Nd_addLeaf_6 : decode prog_4_method_11_code 6 = .ok (.invokevirtual 37, 3) := by decide +kernel
theorem d_Nd_addLeaf_9 : decode prog_4_method_11_code 9 = .ok (.return_, 1) := by decide +kernel
set_option maxHeartbeats 4000000 in
set_option maxRecDepth 100000 in
theorem c_Nd_addLeaf (l : Launch) (D : va_G) (cI cB cJ cS : ClassId) (h0 : Nat) (a_cells_h0 : Nat) (p1 : Int32) (p2 : Int32) (p3 : Int32) (count_h0 : Int32) (n_a_cells_h0 : Nat) (b_a_cells_h0 : Nat → Int32) (o_0_1 : Int32) (on_nq_0_0 : Nat) (ob_nq_0_0 : Nat → Int32) (mc ms : Nat) (h : F_Nd_addLeaf p1 p2 p3 count_h0 n_a_cells_h0 b_a_cells_h0 = some ((o_0_1, on_nq_0_0, ob_nq_0_0), mc, ms)) : Ct l D (gT cI cB cJ cS) y_Nd_addLeaf prog_4_method_11_code 4 (Option.none : Option Jvm.ClassFile.FieldType) 3 110 mc ms [.ref h0, .int p1, .int p2, .int p3] [(h0, .inr (1, [.ref a_cells_h0, .int count_h0])), (a_cells_h0, .inl (cI, n_a_cells_h0, .inl b_a_cells_h0))] (fun v w => ∃ nq_0_0 : Nat, v = none ∧ w = [(h0, .inr (1, [.ref nq_0_0, .int o_0_1])), (nq_0_0, .inl (cI, on_nq_0_0, .inl ob_nq_0_0))]) := by
  refine Ct.mk (by decide) (Nat.le_of_ble_eq_true rfl) ?_
  intro p e s m below meth c hr hnm
  refine j_norm (pc' := 0) (lv' := [(0, .ref h0), (1, .int p1), (2, .int p2), (3, .int p3)]) (st' := []) (ws' := [(h0, .inr (1, [.ref a_cells_h0, .int count_h0])), (a_cells_h0, .inl (cI, n_a_cells_h0, .inl b_a_cells_h0))]) (cl' := 0) (sl' := 0) rfl rfl rfl rfl rfl rfl ?_
  unfold F_Nd_addLeaf at h
  have hC : 0 + mc ≤ mc := by omega
  have hS : 0 + ms ≤ ms := by omega
  refine j_aload_n d_Nd_addLeaf_0 rfl 0 rfl ?_
  refine j_iload_n d_Nd_addLeaf_1 rfl 1 rfl ?_
  refine j_iload_n d_Nd_addLeaf_2 rfl 2 rfl ?_
  refine j_iconst (v := (-1)) d_Nd_addLeaf_3 (by decide) ?_
  refine j_iconst (v := 0) d_Nd_addLeaf_4 (by decide) ?_
  refine j_iload_n d_Nd_addLeaf_5 rfl 3 rfl ?_
  replace h := bw_s h
  obtain ⟨⟨r1, r2, r3⟩, C5, S6, C7, S8, k9, h, e1, e2⟩ := h
  replace hC : 0 + C5 + C7 ≤ mc := by omega
  replace hS : 0 + S6 + S8 ≤ ms := by omega
  clear e1 e2
  refine j_callV (n := 5) (As := [.int p1, .int p2, .int (-1), .int 0, .int p3]) (rest := []) (wr := []) (c_Nd_add l D cI cB cJ cS h0 a_cells_h0 p1 p2 (-1) 0 p3 count_h0 n_a_cells_h0 b_a_cells_h0  r1 r2 r3 C5 S6 k9) k_Nd_37 (by decide) ⟨Nat.le_of_ble_eq_true rfl, Nat.le_of_ble_eq_true rfl⟩ rfl 0 rfl [0, 1] [] rfl (by decide) rfl (by decide) (by decide) rfl rfl (Nat.le_of_ble_eq_true rfl) d_Nd_addLeaf_6 ⟨show 0 + C5 ≤ mc by omega, show 0 + S6 ≤ ms by omega⟩ (fun v w hq => ?_)
  obtain ⟨q4, rfl, rfl⟩ := hq
  refine j_norm (pc' := 9) (st' := []) (ws' := [(h0, .inr (1, [.ref q4, .int r1])), (q4, .inl (cI, r2, .inl r3))]) (cl' := 0 + C5) (sl' := 0 + S6) rfl rfl rfl rfl rfl rfl ?_
  replace h := lf_s h
  obtain ⟨h, e1, e2⟩ := h
  replace h := Prod.mk.inj h
  obtain ⟨h9, h⟩ := h
  subst h9
  replace h := Prod.mk.inj h
  obtain ⟨h9, h⟩ := h
  subst h9
  subst h
  refine j_widen (cl' := mc) (sl' := ms) (by omega) (by omega) ?_
  exact j_vret (w := [(h0, .inr (1, [.ref q4, .int r1])), (q4, .inl (cI, r2, .inl r3))]) hr d_Nd_addLeaf_9 [0, 1] rfl (by decide) ⟨q4, rfl, rfl⟩
noncomputable def F_Nd_arrange_62 (count_g1 : Int32) (n_a_cells_g1 : Nat) (v2_47 : Int32) (n0_47 : Nat) (f1_1_47 : Int32) (b3_47 : Nat → Int32) (K_47 : Int32 → Nat → (Nat → Int32) → Int32 → (Nat → Int32) → Option ((Int32 × (Nat → Int32) × Nat × (Nat → Int32)) × Nat × Nat)) : Nat → Int32 → Int32 → (Nat → Int32) → Option ((Int32 × (Nat → Int32) × Nat × (Nat → Int32)) × Nat × Nat)
  | 0, _, _, _ => none
  | k_62 + 1, v4_62, v3_62, b0_62 =>
    if 5 < v4_62 then (Option.bind (F_Nd_linkParts v2_47 v3_62 f1_1_47 n0_47 b0_62 count_g1 n_a_cells_g1 b3_47) fun ⟨r2, r3⟩ =>
      K_47 (v2_47 + (-1)) n0_47 r2 f1_1_47 r3)
    else (Option.bind (F_Nd_get v2_47 v4_62 count_g1 n_a_cells_g1 b3_47) fun r5 =>
      Option.bind (F_Nd_set v3_62 v4_62 r5 f1_1_47 n0_47 b0_62) fun r7 =>
      F_Nd_arrange_62 count_g1 n_a_cells_g1 v2_47 n0_47 f1_1_47 b3_47 K_47 k_62 (v4_62 + 1) v3_62 r7)
noncomputable def F_Nd_arrange_47 (count_g1 : Int32) (n_a_cells_g1 : Nat) : Nat → Int32 → Nat → (Nat → Int32) → Int32 → (Nat → Int32) → Option ((Int32 × (Nat → Int32) × Nat × (Nat → Int32)) × Nat × Nat)
  | 0, _, _, _, _, _ => none
  | k_47 + 1, v2_47, n0_47, b0_47, f1_1_47, b3_47 =>
    if v2_47 < 0 then (some ((f1_1_47, b3_47, n0_47, b0_47), 0, 0))
    else (Option.bind (F_Nd_get v2_47 6 count_g1 n_a_cells_g1 b3_47) fun r10 =>
      F_Nd_arrange_62 count_g1 n_a_cells_g1 v2_47 n0_47 f1_1_47 b3_47 (F_Nd_arrange_47 count_g1 n_a_cells_g1  k_47) FU 0 r10 b0_47)
noncomputable def F_Nd_arrange_6 (count_g1 : Int32) (n_a_cells_g1 : Nat) (b_a_cells_g1 : Nat → Int32) : Nat → Int32 → Nat → (Nat → Int32) → Int32 → Option ((Int32 × (Nat → Int32) × Nat × (Nat → Int32)) × Nat × Nat)
  | 0, _, _, _, _ => none
  | k_6 + 1, v2_6, n2_6, b2_6, f3_1_6 =>
    if count_g1 ≤ v2_6 then (Option.bind (F_Nd_set (count_g1 - 1) 6 0 count_g1 n_a_cells_g1 b_a_cells_g1) fun r13 =>
      F_Nd_arrange_47 count_g1 n_a_cells_g1  FU (count_g1 - 1) n2_6 b2_6 f3_1_6 r13)
    else (bw (F_Nd_addLeaf (-1) (-1) 0 f3_1_6 n2_6 b2_6) fun ⟨r15, r16, r17⟩ =>
      F_Nd_arrange_6 count_g1 n_a_cells_g1 b_a_cells_g1  k_6 (v2_6 + 1) r16 r17 r15)
noncomputable def F_Nd_arrange (count_h0 : Int32) (count_g1 : Int32) (n_a_cells_g1 : Nat) (b_a_cells_g1 : Nat → Int32) (n_a_cells_h0 : Nat) (b_a_cells_h0 : Nat → Int32) : Option ((Int32 × (Nat → Int32) × Nat × (Nat → Int32)) × Nat × Nat) :=
  F_Nd_arrange_6 count_g1 n_a_cells_g1 b_a_cells_g1  FU 0 n_a_cells_h0 b_a_cells_h0 0
theorem d_Nd_arrange_0 : decode prog_4_method_12_code 0 = .ok (.aload_n 0, 1) := by decide +kernel
theorem d_Nd_arrange_1 : decode prog_4_method_12_code 1 = .ok (.invokevirtual 41, 3) := by decide +kernel
theorem d_Nd_arrange_4 : decode prog_4_method_12_code 4 = .ok (.iconst 0, 1) := by decide +kernel
theorem d_Nd_arrange_5 : decode prog_4_method_12_code 5 = .ok (.istore_n 2, 1) := by decide +kernel
theorem d_Nd_arrange_6 : decode prog_4_method_12_code 6 = .ok (.iload_n 2, 1) := by decide +kernel
theorem d_Nd_arrange_7 : decode prog_4_method_12_code 7 = .ok (.aload_n 1, 1) := by decide +kernel
theorem d_Nd_arrange_8 : decode prog_4_method_12_code 8 = .ok (.getfield 15, 3) := by decide +kernel
theorem d_Nd_arrange_11 : decode prog_4_method_12_code 11 = .ok (.if_icmp .ge 16, 3) := by decide +kernel
theorem d_Nd_arrange_14 : decode prog_4_method_12_code 14 = .ok (.aload_n 0, 1) := by decide +kernel
theorem d_Nd_arrange_15 : decode prog_4_method_12_code 15 = .ok (.iconst (-1), 1) := by decide +kernel
theorem d_Nd_arrange_16 : decode prog_4_method_12_code 16 = .ok (.iconst (-1), 1) := by decide +kernel
theorem d_Nd_arrange_17 : decode prog_4_method_12_code 17 = .ok (.iconst 0, 1) := by decide +kernel
theorem d_Nd_arrange_18 : decode prog_4_method_12_code 18 = .ok (.invokevirtual 44, 3) := by decide +kernel
theorem d_Nd_arrange_21 : decode prog_4_method_12_code 21 = .ok (.iinc 2 1, 3) := by decide +kernel
theorem d_Nd_arrange_24 : decode prog_4_method_12_code 24 = .ok (.goto (-18), 3) := by decide +kernel
theorem d_Nd_arrange_27 : decode prog_4_method_12_code 27 = .ok (.aload_n 1, 1) := by decide +kernel
theorem d_Nd_arrange_28 : decode prog_4_method_12_code 28 = .ok (.aload_n 1, 1) := by decide +kernel
theorem d_Nd_arrange_29 : decode prog_4_method_12_code 29 = .ok (.getfield 15, 3) := by decide +kernel
theorem d_Nd_arrange_32 : decode prog_4_method_12_code 32 = .ok (.iconst 1, 1) := by decide +kernel
theorem d_Nd_arrange_33 : decode prog_4_method_12_code 33 = .ok (.isub, 1) := by decide +kernel
theorem d_Nd_arrange_34 : decode prog_4_method_12_code 34 = .ok (.bipush 6, 2) := by decide +kernel
theorem d_Nd_arrange_36 : decode prog_4_method_12_code 36 = .ok (.iconst 0, 1) := by decide +kernel
theorem d_Nd_arrange_37 : decode prog_4_method_12_code 37 = .ok (.invokevirtual 48, 3) := by decide +kernel
theorem d_Nd_arrange_40 : decode prog_4_method_12_code 40 = .ok (.aload_n 1, 1) := by decide +kernel
theorem d_Nd_arrange_41 : decode prog_4_method_12_code 41 = .ok (.getfield 15, 3) := by decide +kernel
theorem d_Nd_arrange_44 : decode prog_4_method_12_code 44 = .ok (.iconst 1, 1) := by decide +kernel
theorem d_Nd_arrange_45 : decode prog_4_method_12_code 45 = .ok (.isub, 1) := by decide +kernel
theorem d_Nd_arrange_46 : decode prog_4_method_12_code 46 = .ok (.istore_n 2, 1) := by decide +kernel
theorem d_Nd_arrange_47 : decode prog_4_method_12_code 47 = .ok (.iload_n 2, 1) := by decide +kernel
theorem d_Nd_arrange_48 : decode prog_4_method_12_code 48 = .ok (.ifCond .lt 53, 3) := by decide +kernel
theorem d_Nd_arrange_51 : decode prog_4_method_12_code 51 = .ok (.aload_n 1, 1) := by decide +kernel
theorem d_Nd_arrange_52 : decode prog_4_method_12_code 52 = .ok (.iload_n 2, 1) := by decide +kernel
theorem d_Nd_arrange_53 : decode prog_4_method_12_code 53 = .ok (.bipush 6, 2) := by decide +kernel
theorem d_Nd_arrange_55 : decode prog_4_method_12_code 55 = .ok (.invokevirtual 19, 3) := by decide +kernel
theorem d_Nd_arrange_58 : decode prog_4_method_12_code 58 = .ok (.istore_n 3, 1) := by decide +kernel
theorem d_Nd_arrange_59 : decode prog_4_method_12_code 59 = .ok (.iconst 0, 1) := by decide +kernel
theorem d_Nd_arrange_60 : decode prog_4_method_12_code 60 = .ok (.istore 4, 2) := by decide +kernel
theorem d_Nd_arrange_62 : decode prog_4_method_12_code 62 = .ok (.iload 4, 2) := by decide +kernel
theorem d_Nd_arrange_64 : decode prog_4_method_12_code 64 = .ok (.iconst 5, 1) := by decide +kernel
theorem d_Nd_arrange_65 : decode prog_4_method_12_code 65 = .ok (.if_icmp .gt 23, 3) := by decide +kernel
theorem d_Nd_arrange_68 : decode prog_4_method_12_code 68 = .ok (.aload_n 0, 1) := by decide +kernel
theorem d_Nd_arrange_69 : decode prog_4_method_12_code 69 = .ok (.iload_n 3, 1) := by decide +kernel
theorem d_Nd_arrange_70 : decode prog_4_method_12_code 70 = .ok (.iload 4, 2) := by decide +kernel
theorem d_Nd_arrange_72 : decode prog_4_method_12_code 72 = .ok (.aload_n 1, 1) := by decide +kernel
theorem d_Nd_arrange_73 : decode prog_4_method_12_code 73 = .ok (.iload_n 2, 1) := by decide +kernel
theorem d_Nd_arrange_74 : decode prog_4_method_12_code 74 = .ok (.iload 4, 2) := by decide +kernel
theorem d_Nd_arrange_76 : decode prog_4_method_12_code 76 = .ok (.invokevirtual 19, 3) := by decide +kernel
theorem d_Nd_arrange_79 : decode prog_4_method_12_code 79 = .ok (.invokevirtual 48, 3) := by decide +kernel
theorem d_Nd_arrange_82 : decode prog_4_method_12_code 82 = .ok (.iinc 4 1, 3) := by decide +kernel
theorem d_Nd_arrange_85 : decode prog_4_method_12_code 85 = .ok (.goto (-23), 3) := by decide +kernel
theorem d_Nd_arrange_88 : decode prog_4_method_12_code 88 = .ok (.aload_n 0, 1) := by decide +kernel
theorem d_Nd_arrange_89 : decode prog_4_method_12_code 89 = .ok (.aload_n 1, 1) := by decide +kernel
theorem d_Nd_arrange_90 : decode prog_4_method_12_code 90 = .ok (.iload_n 2, 1) := by decide +kernel
theorem d_Nd_arrange_91 : decode prog_4_method_12_code 91 = .ok (.iload_n 3, 1) := by decide +kernel
theorem d_Nd_arrange_92 : decode prog_4_method_12_code 92 = .ok (.invokevirtual 51, 3) := by decide +kernel
theorem d_Nd_arrange_95 : decode prog_4_method_12_code 95 = .ok (.iinc 2 (-1), 3) := by decide +kernel
theorem d_Nd_arrange_98 : decode prog_4_method_12_code 98 = .ok (.goto (-51), 3) := by decide +kernel
theorem d_Nd_arrange_101 : decode prog_4_method_12_code 101 = .ok (.return_, 1) := by decide +kernel
set_option maxHeartbeats 4000000 in
set_option maxRecDepth 100000 in
theorem L_Nd_arrange_47 (l : Launch) (D : va_G) (cI cB cJ cS : ClassId) (h0 : Nat) (g1 : Nat) (a_cells_h0 : Nat) (a_cells_g1 : Nat) (count_h0 : Int32) (count_g1 : Int32) (n_a_cells_g1 : Nat) (b_a_cells_g1 : Nat → Int32) (n_a_cells_h0 : Nat) (b_a_cells_h0 : Nat → Int32) (o_0_1 : Int32) (ob_2 : Nat → Int32) (on_nq_0_0 : Nat) (ob_nq_0_0 : Nat → Int32) (mc ms : Nat) (p : Program) (e : Env) (s : State) (m : MethodId) (below : List Frame) (meth : Method) (c : Code) (hr : meth.sig.returnType = (Option.none : Option Jvm.ClassFile.FieldType)) (hnm : meth.name = y_Nd_arrange.name) : ∀ (k_47 : Nat) (q1_0_47 : Nat) (v2_47 : Int32) (n0_47 : Nat) (b0_47 : Nat → Int32) (f1_1_47 : Int32) (b3_47 : Nat → Int32) (cl_47 sl_47 C_47 S_47 : Nat), F_Nd_arrange_47 count_g1 n_a_cells_g1  k_47 v2_47 n0_47 b0_47 f1_1_47 b3_47 = some ((o_0_1, ob_2, on_nq_0_0, ob_nq_0_0), C_47, S_47) → cl_47 + C_47 ≤ mc → sl_47 + S_47 ≤ ms → J (KxOf p l e { frames := 4, cells := mc, slots := ms, locals := 133 } s m [.ref h0, .ref g1].toArray below meth c D (gT cI cB cJ cS) [(h0, .inr (1, [.ref a_cells_h0, .int count_h0])), (g1, .inr (1, [.ref a_cells_g1, .int count_g1])), (a_cells_g1, .inl (cI, n_a_cells_g1, .inl b_a_cells_g1)), (a_cells_h0, .inl (cI, n_a_cells_h0, .inl b_a_cells_h0))] (fun v w => ∃ nq_0_0 : Nat, v = none ∧ w = [(h0, .inr (1, [.ref nq_0_0, .int o_0_1])), (g1, .inr (1, [.ref a_cells_g1, .int count_g1])), (a_cells_g1, .inl (cI, n_a_cells_g1, .inl ob_2)), (nq_0_0, .inl (cI, on_nq_0_0, .inl ob_nq_0_0))]) mc ms) prog_4_method_12_code 5 R_Nd 47 [(2, .int v2_47), (0, .ref h0), (1, .ref g1)] [] [(q1_0_47, .inl (cI, n0_47, .inl b0_47)), (h0, .inr (1, [.ref q1_0_47, .int f1_1_47])), (g1, .inr (1, [.ref a_cells_g1, .int count_g1])), (a_cells_g1, .inl (cI, n_a_cells_g1, .inl b3_47))] cl_47 sl_47 := by
  intro k_47
  induction k_47 with
  | zero => intro q1_0_47 v2_47 n0_47 b0_47 f1_1_47 b3_47 cl_47 sl_47 C_47 S_47 h; rw [F_Nd_arrange_47] at h; cases h
  | succ k_47 ih_47 =>
    intro q1_0_47 v2_47 n0_47 b0_47 f1_1_47 b3_47 cl_47 sl_47 C_47 S_47 h hC hS
    rw [F_Nd_arrange_47] at h
    have L_62 : ∀ (k_62 : Nat) (v4_62 : Int32) (v3_62 : Int32) (b0_62 : Nat → Int32) (cl_62 sl_62 C_62 S_62 : Nat), F_Nd_arrange_62 count_g1 n_a_cells_g1 v2_47 n0_47 f1_1_47 b3_47 (F_Nd_arrange_47 count_g1 n_a_cells_g1  k_47) k_62 v4_62 v3_62 b0_62 = some ((o_0_1, ob_2, on_nq_0_0, ob_nq_0_0), C_62, S_62) → cl_62 + C_62 ≤ mc → sl_62 + S_62 ≤ ms → J (KxOf p l e { frames := 4, cells := mc, slots := ms, locals := 133 } s m [.ref h0, .ref g1].toArray below meth c D (gT cI cB cJ cS) [(h0, .inr (1, [.ref a_cells_h0, .int count_h0])), (g1, .inr (1, [.ref a_cells_g1, .int count_g1])), (a_cells_g1, .inl (cI, n_a_cells_g1, .inl b_a_cells_g1)), (a_cells_h0, .inl (cI, n_a_cells_h0, .inl b_a_cells_h0))] (fun v w => ∃ nq_0_0 : Nat, v = none ∧ w = [(h0, .inr (1, [.ref nq_0_0, .int o_0_1])), (g1, .inr (1, [.ref a_cells_g1, .int count_g1])), (a_cells_g1, .inl (cI, n_a_cells_g1, .inl ob_2)), (nq_0_0, .inl (cI, on_nq_0_0, .inl ob_nq_0_0))]) mc ms) prog_4_method_12_code 5 R_Nd 62 [(4, .int v4_62), (3, .int v3_62), (2, .int v2_47), (0, .ref h0), (1, .ref g1)] [] [(q1_0_47, .inl (cI, n0_47, .inl b0_62)), (h0, .inr (1, [.ref q1_0_47, .int f1_1_47])), (g1, .inr (1, [.ref a_cells_g1, .int count_g1])), (a_cells_g1, .inl (cI, n_a_cells_g1, .inl b3_47))] cl_62 sl_62 := by
      clear h
      intro k_62
      induction k_62 with
      | zero => intro v4_62 v3_62 b0_62 cl_62 sl_62 C_62 S_62 h; rw [F_Nd_arrange_62] at h; cases h
      | succ k_62 ih_62 =>
        intro v4_62 v3_62 b0_62 cl_62 sl_62 C_62 S_62 h hC hS
        rw [F_Nd_arrange_62] at h
        refine j_iload d_Nd_arrange_62 0 rfl ?_
        refine j_iconst (v := 5) d_Nd_arrange_64 (by decide) ?_
        refine j_icmp_gt (tgt := 88) d_Nd_arrange_65 (by decide) (fun c1 => ?_) (fun c1 => ?_)
        · replace h := it_t c1 h
          refine j_aload_n d_Nd_arrange_88 rfl 3 rfl ?_
          refine j_aload_n d_Nd_arrange_89 rfl 4 rfl ?_
          refine j_iload_n d_Nd_arrange_90 rfl 2 rfl ?_
          refine j_iload_n d_Nd_arrange_91 rfl 1 rfl ?_
          replace h := bd_s h
          obtain ⟨⟨r2, r3⟩, k4, h⟩ := h
          refine j_callV (n := 3) (As := [.ref g1, .int v2_47, .int v3_62]) (rest := []) (wr := []) (c_Nd_linkParts l D cI cB cJ cS h0 g1 q1_0_47 a_cells_g1 v2_47 v3_62 f1_1_47 n0_47 b0_62 count_g1 n_a_cells_g1 b3_47  r2 r3 k4) k_Nd_51 (by decide) ⟨Nat.le_of_ble_eq_true rfl, Nat.le_of_ble_eq_true rfl⟩ rfl 0 rfl [1, 0, 2, 3] [] rfl (by decide) rfl (by decide) (by decide) rfl rfl (Nat.le_of_ble_eq_true rfl) d_Nd_arrange_92 ⟨show cl_62 + 0 ≤ mc by omega, show sl_62 + 0 ≤ ms by omega⟩ (fun v w hq => ?_)
          obtain ⟨rfl, rfl⟩ := hq
          refine j_norm (pc' := 95) (st' := []) (ws' := [(h0, .inr (1, [.ref q1_0_47, .int f1_1_47])), (q1_0_47, .inl (cI, n0_47, .inl r2)), (g1, .inr (1, [.ref a_cells_g1, .int count_g1])), (a_cells_g1, .inl (cI, n_a_cells_g1, .inl r3))]) (cl' := cl_62) (sl' := sl_62) rfl rfl rfl rfl rfl rfl ?_
          refine j_iinc (v := v2_47 + (-1)) (lv' := [(2, .int (v2_47 + (-1))), (4, .int v4_62), (3, .int v3_62), (0, .ref h0), (1, .ref g1)]) d_Nd_arrange_95 2 rfl rfl (by decide) rfl ?_
          refine j_goto (tgt := 47) d_Nd_arrange_98 (by decide) ?_
          refine j_sub (w := [(q1_0_47, .inl (cI, n0_47, .inl r2)), (h0, .inr (1, [.ref q1_0_47, .int f1_1_47])), (g1, .inr (1, [.ref a_cells_g1, .int count_g1])), (a_cells_g1, .inl (cI, n_a_cells_g1, .inl r3))]) (lv' := [(2, .int (v2_47 + (-1))), (0, .ref h0), (1, .ref g1)]) [1, 0, 2, 3] rfl (by decide) [0, 3, 4] rfl ?_
          exact ih_47 q1_0_47 (v2_47 + (-1)) n0_47 r2 f1_1_47 r3 cl_62 sl_62 C_62 S_62 h hC hS
        · replace h := it_f c1 h
          refine j_aload_n d_Nd_arrange_68 rfl 3 rfl ?_
          refine j_iload_n d_Nd_arrange_69 rfl 1 rfl ?_
          refine j_iload d_Nd_arrange_70 0 rfl ?_
          refine j_aload_n d_Nd_arrange_72 rfl 4 rfl ?_
          refine j_iload_n d_Nd_arrange_73 rfl 2 rfl ?_
          refine j_iload d_Nd_arrange_74 0 rfl ?_
          replace h := bd_s h
          obtain ⟨r5, k6, h⟩ := h
          refine j_callV (n := 2) (As := [.int v2_47, .int v4_62]) (rest := [.int v4_62, .int v3_62, .ref h0]) (wr := [(q1_0_47, .inl (cI, n0_47, .inl b0_62)), (h0, .inr (1, [.ref q1_0_47, .int f1_1_47]))]) (c_Nd_get l D cI cB cJ cS g1 a_cells_g1 v2_47 v4_62 count_g1 n_a_cells_g1 b3_47  r5 k6) k_Nd_19 (by decide) ⟨Nat.le_of_ble_eq_true rfl, Nat.le_of_ble_eq_true rfl⟩ rfl 0 rfl [2, 3] [0, 1] rfl (by decide) rfl (by decide) (by decide) rfl rfl (Nat.le_of_ble_eq_true rfl) d_Nd_arrange_76 ⟨show cl_62 + 0 ≤ mc by omega, show sl_62 + 0 ≤ ms by omega⟩ (fun v w hq => ?_)
          obtain ⟨rfl, rfl⟩ := hq
          refine j_norm (pc' := 79) (st' := [.int r5, .int v4_62, .int v3_62, .ref h0]) (ws' := [(q1_0_47, .inl (cI, n0_47, .inl b0_62)), (h0, .inr (1, [.ref q1_0_47, .int f1_1_47])), (g1, .inr (1, [.ref a_cells_g1, .int count_g1])), (a_cells_g1, .inl (cI, n_a_cells_g1, .inl b3_47))]) (cl' := cl_62) (sl' := sl_62) rfl rfl rfl rfl rfl rfl ?_
          replace h := bd_s h
          obtain ⟨r7, k8, h⟩ := h
          refine j_callV (n := 3) (As := [.int v3_62, .int v4_62, .int r5]) (rest := []) (wr := [(g1, .inr (1, [.ref a_cells_g1, .int count_g1])), (a_cells_g1, .inl (cI, n_a_cells_g1, .inl b3_47))]) (c_Nd_set l D cI cB cJ cS h0 q1_0_47 v3_62 v4_62 r5 f1_1_47 n0_47 b0_62  r7 k8) k_Nd_48 (by decide) ⟨Nat.le_of_ble_eq_true rfl, Nat.le_of_ble_eq_true rfl⟩ rfl 0 rfl [1, 0] [2, 3] rfl (by decide) rfl (by decide) (by decide) rfl rfl (Nat.le_of_ble_eq_true rfl) d_Nd_arrange_79 ⟨show cl_62 + 0 ≤ mc by omega, show sl_62 + 0 ≤ ms by omega⟩ (fun v w hq => ?_)
          obtain ⟨rfl, rfl⟩ := hq
          refine j_norm (pc' := 82) (st' := []) (ws' := [(g1, .inr (1, [.ref a_cells_g1, .int count_g1])), (a_cells_g1, .inl (cI, n_a_cells_g1, .inl b3_47)), (h0, .inr (1, [.ref q1_0_47, .int f1_1_47])), (q1_0_47, .inl (cI, n0_47, .inl r7))]) (cl' := cl_62) (sl' := sl_62) rfl rfl rfl rfl rfl rfl ?_
          refine j_iinc (v := v4_62 + 1) (lv' := [(4, .int (v4_62 + 1)), (3, .int v3_62), (2, .int v2_47), (0, .ref h0), (1, .ref g1)]) d_Nd_arrange_82 0 rfl rfl (by decide) rfl ?_
          refine j_goto (tgt := 62) d_Nd_arrange_85 (by decide) ?_
          refine j_sub (w := [(q1_0_47, .inl (cI, n0_47, .inl r7)), (h0, .inr (1, [.ref q1_0_47, .int f1_1_47])), (g1, .inr (1, [.ref a_cells_g1, .int count_g1])), (a_cells_g1, .inl (cI, n_a_cells_g1, .inl b3_47))]) (lv' := [(4, .int (v4_62 + 1)), (3, .int v3_62), (2, .int v2_47), (0, .ref h0), (1, .ref g1)]) [3, 2, 0, 1] rfl (by decide) [0, 1, 2, 3, 4] rfl ?_
          exact ih_62 (v4_62 + 1) v3_62 r7 cl_62 sl_62 C_62 S_62 h hC hS
    refine j_iload_n d_Nd_arrange_47 rfl 0 rfl ?_
    refine j_if_lt (tgt := 101) d_Nd_arrange_48 (by decide) (fun c9 => ?_) (fun c9 => ?_)
    · replace h := it_t c9 h
      replace h := lf_s h
      obtain ⟨h, e1, e2⟩ := h
      replace h := Prod.mk.inj h
      obtain ⟨h9, h⟩ := h
      subst h9
      replace h := Prod.mk.inj h
      obtain ⟨h9, h⟩ := h
      subst h9
      replace h := Prod.mk.inj h
      obtain ⟨h9, h⟩ := h
      subst h9
      subst h
      refine j_widen (cl' := mc) (sl' := ms) (by omega) (by omega) ?_
      exact j_vret (w := [(h0, .inr (1, [.ref q1_0_47, .int f1_1_47])), (g1, .inr (1, [.ref a_cells_g1, .int count_g1])), (a_cells_g1, .inl (cI, n_a_cells_g1, .inl b3_47)), (q1_0_47, .inl (cI, n0_47, .inl b0_47))]) hr d_Nd_arrange_101 [1, 2, 3, 0] rfl (by decide) ⟨q1_0_47, rfl, rfl⟩
    · replace h := it_f c9 h
      refine j_aload_n d_Nd_arrange_51 rfl 2 rfl ?_
      refine j_iload_n d_Nd_arrange_52 rfl 0 rfl ?_
      refine j_bipush (v := 6) d_Nd_arrange_53 (by decide) ?_
      replace h := bd_s h
      obtain ⟨r10, k11, h⟩ := h
      refine j_callV (n := 2) (As := [.int v2_47, .int 6]) (rest := []) (wr := [(q1_0_47, .inl (cI, n0_47, .inl b0_47)), (h0, .inr (1, [.ref q1_0_47, .int f1_1_47]))]) (c_Nd_get l D cI cB cJ cS g1 a_cells_g1 v2_47 6 count_g1 n_a_cells_g1 b3_47  r10 k11) k_Nd_19 (by decide) ⟨Nat.le_of_ble_eq_true rfl, Nat.le_of_ble_eq_true rfl⟩ rfl 0 rfl [2, 3] [0, 1] rfl (by decide) rfl (by decide) (by decide) rfl rfl (Nat.le_of_ble_eq_true rfl) d_Nd_arrange_55 ⟨show cl_47 + 0 ≤ mc by omega, show sl_47 + 0 ≤ ms by omega⟩ (fun v w hq => ?_)
      obtain ⟨rfl, rfl⟩ := hq
      refine j_norm (pc' := 58) (st' := [.int r10]) (ws' := [(q1_0_47, .inl (cI, n0_47, .inl b0_47)), (h0, .inr (1, [.ref q1_0_47, .int f1_1_47])), (g1, .inr (1, [.ref a_cells_g1, .int count_g1])), (a_cells_g1, .inl (cI, n_a_cells_g1, .inl b3_47))]) (cl' := cl_47) (sl' := sl_47) rfl rfl rfl rfl rfl rfl ?_
      refine j_istore_n (lv' := [(3, .int r10), (2, .int v2_47), (0, .ref h0), (1, .ref g1)]) d_Nd_arrange_58 rfl (by decide) rfl ?_
      refine j_iconst (v := 0) d_Nd_arrange_59 (by decide) ?_
      refine j_istore (lv' := [(4, .int 0), (3, .int r10), (2, .int v2_47), (0, .ref h0), (1, .ref g1)]) d_Nd_arrange_60 (by decide) rfl ?_
      refine j_sub (w := [(q1_0_47, .inl (cI, n0_47, .inl b0_47)), (h0, .inr (1, [.ref q1_0_47, .int f1_1_47])), (g1, .inr (1, [.ref a_cells_g1, .int count_g1])), (a_cells_g1, .inl (cI, n_a_cells_g1, .inl b3_47))]) (lv' := [(4, .int 0), (3, .int r10), (2, .int v2_47), (0, .ref h0), (1, .ref g1)]) [0, 1, 2, 3] rfl (by decide) [0, 1, 2, 3, 4] rfl ?_
      exact L_62 FU 0 r10 b0_47 cl_47 sl_47 C_47 S_47 h hC hS
set_option maxHeartbeats 4000000 in
set_option maxRecDepth 100000 in
theorem L_Nd_arrange_6 (l : Launch) (D : va_G) (cI cB cJ cS : ClassId) (h0 : Nat) (g1 : Nat) (a_cells_h0 : Nat) (a_cells_g1 : Nat) (count_h0 : Int32) (count_g1 : Int32) (n_a_cells_g1 : Nat) (b_a_cells_g1 : Nat → Int32) (n_a_cells_h0 : Nat) (b_a_cells_h0 : Nat → Int32) (o_0_1 : Int32) (ob_2 : Nat → Int32) (on_nq_0_0 : Nat) (ob_nq_0_0 : Nat → Int32) (mc ms : Nat) (p : Program) (e : Env) (s : State) (m : MethodId) (below : List Frame) (meth : Method) (c : Code) (hr : meth.sig.returnType = (Option.none : Option Jvm.ClassFile.FieldType)) (hnm : meth.name = y_Nd_arrange.name) : ∀ (k_6 : Nat) (q3_0_6 : Nat) (v2_6 : Int32) (n2_6 : Nat) (b2_6 : Nat → Int32) (f3_1_6 : Int32) (cl_6 sl_6 C_6 S_6 : Nat), F_Nd_arrange_6 count_g1 n_a_cells_g1 b_a_cells_g1  k_6 v2_6 n2_6 b2_6 f3_1_6 = some ((o_0_1, ob_2, on_nq_0_0, ob_nq_0_0), C_6, S_6) → cl_6 + C_6 ≤ mc → sl_6 + S_6 ≤ ms → J (KxOf p l e { frames := 4, cells := mc, slots := ms, locals := 133 } s m [.ref h0, .ref g1].toArray below meth c D (gT cI cB cJ cS) [(h0, .inr (1, [.ref a_cells_h0, .int count_h0])), (g1, .inr (1, [.ref a_cells_g1, .int count_g1])), (a_cells_g1, .inl (cI, n_a_cells_g1, .inl b_a_cells_g1)), (a_cells_h0, .inl (cI, n_a_cells_h0, .inl b_a_cells_h0))] (fun v w => ∃ nq_0_0 : Nat, v = none ∧ w = [(h0, .inr (1, [.ref nq_0_0, .int o_0_1])), (g1, .inr (1, [.ref a_cells_g1, .int count_g1])), (a_cells_g1, .inl (cI, n_a_cells_g1, .inl ob_2)), (nq_0_0, .inl (cI, on_nq_0_0, .inl ob_nq_0_0))]) mc ms) prog_4_method_12_code 5 R_Nd 6 [(2, .int v2_6), (0, .ref h0), (1, .ref g1)] [] [(g1, .inr (1, [.ref a_cells_g1, .int count_g1])), (a_cells_g1, .inl (cI, n_a_cells_g1, .inl b_a_cells_g1)), (q3_0_6, .inl (cI, n2_6, .inl b2_6)), (h0, .inr (1, [.ref q3_0_6, .int f3_1_6]))] cl_6 sl_6 := by
  intro k_6
  induction k_6 with
  | zero => intro q3_0_6 v2_6 n2_6 b2_6 f3_1_6 cl_6 sl_6 C_6 S_6 h; rw [F_Nd_arrange_6] at h; cases h
  | succ k_6 ih_6 =>
    intro q3_0_6 v2_6 n2_6 b2_6 f3_1_6 cl_6 sl_6 C_6 S_6 h hC hS
    rw [F_Nd_arrange_6] at h
    refine j_iload_n d_Nd_arrange_6 rfl 0 rfl ?_
    refine j_aload_n d_Nd_arrange_7 rfl 2 rfl ?_
    refine j_get ig_Nd rfl 0 rfl 1 (by decide) rfl m_80 rfl d_Nd_arrange_8 ?_
    refine j_icmp_ge (tgt := 27) d_Nd_arrange_11 (by decide) (fun c12 => ?_) (fun c12 => ?_)
    · replace h := it_t c12 h
      refine j_aload_n d_Nd_arrange_27 rfl 2 rfl ?_
      refine j_aload_n d_Nd_arrange_28 rfl 2 rfl ?_
      refine j_get ig_Nd rfl 0 rfl 1 (by decide) rfl m_80 rfl d_Nd_arrange_29 ?_
      refine j_iconst (v := 1) d_Nd_arrange_32 (by decide) ?_
      refine j_isub d_Nd_arrange_33 ?_
      refine j_bipush (v := 6) d_Nd_arrange_34 (by decide) ?_
      refine j_iconst (v := 0) d_Nd_arrange_36 (by decide) ?_
      replace h := bd_s h
      obtain ⟨r13, k14, h⟩ := h
      refine j_callV (n := 3) (As := [.int (count_g1 - 1), .int 6, .int 0]) (rest := []) (wr := [(q3_0_6, .inl (cI, n2_6, .inl b2_6)), (h0, .inr (1, [.ref q3_0_6, .int f3_1_6]))]) (c_Nd_set l D cI cB cJ cS g1 a_cells_g1 (count_g1 - 1) 6 0 count_g1 n_a_cells_g1 b_a_cells_g1  r13 k14) k_Nd_48 (by decide) ⟨Nat.le_of_ble_eq_true rfl, Nat.le_of_ble_eq_true rfl⟩ rfl 0 rfl [0, 1] [2, 3] rfl (by decide) rfl (by decide) (by decide) rfl rfl (Nat.le_of_ble_eq_true rfl) d_Nd_arrange_37 ⟨show cl_6 + 0 ≤ mc by omega, show sl_6 + 0 ≤ ms by omega⟩ (fun v w hq => ?_)
      obtain ⟨rfl, rfl⟩ := hq
      refine j_norm (pc' := 40) (st' := []) (ws' := [(q3_0_6, .inl (cI, n2_6, .inl b2_6)), (h0, .inr (1, [.ref q3_0_6, .int f3_1_6])), (g1, .inr (1, [.ref a_cells_g1, .int count_g1])), (a_cells_g1, .inl (cI, n_a_cells_g1, .inl r13))]) (cl' := cl_6) (sl' := sl_6) rfl rfl rfl rfl rfl rfl ?_
      refine j_aload_n d_Nd_arrange_40 rfl 2 rfl ?_
      refine j_get ig_Nd rfl 2 rfl 1 (by decide) rfl m_80 rfl d_Nd_arrange_41 ?_
      refine j_iconst (v := 1) d_Nd_arrange_44 (by decide) ?_
      refine j_isub d_Nd_arrange_45 ?_
      refine j_istore_n (lv' := [(2, .int (count_g1 - 1)), (0, .ref h0), (1, .ref g1)]) d_Nd_arrange_46 rfl (by decide) rfl ?_
      refine j_sub (w := [(q3_0_6, .inl (cI, n2_6, .inl b2_6)), (h0, .inr (1, [.ref q3_0_6, .int f3_1_6])), (g1, .inr (1, [.ref a_cells_g1, .int count_g1])), (a_cells_g1, .inl (cI, n_a_cells_g1, .inl r13))]) (lv' := [(2, .int (count_g1 - 1)), (0, .ref h0), (1, .ref g1)]) [0, 1, 2, 3] rfl (by decide) [0, 1, 2] rfl ?_
      exact L_Nd_arrange_47 l D cI cB cJ cS h0 g1 a_cells_h0 a_cells_g1 count_h0 count_g1 n_a_cells_g1 b_a_cells_g1 n_a_cells_h0 b_a_cells_h0 o_0_1 ob_2 on_nq_0_0 ob_nq_0_0 mc ms p e s m below meth c hr hnm FU q3_0_6 (count_g1 - 1) n2_6 b2_6 f3_1_6 r13 cl_6 sl_6 C_6 S_6 h hC hS
    · replace h := it_f c12 h
      refine j_aload_n d_Nd_arrange_14 rfl 1 rfl ?_
      refine j_iconst (v := (-1)) d_Nd_arrange_15 (by decide) ?_
      refine j_iconst (v := (-1)) d_Nd_arrange_16 (by decide) ?_
      refine j_iconst (v := 0) d_Nd_arrange_17 (by decide) ?_
      replace h := bw_s h
      obtain ⟨⟨r15, r16, r17⟩, C19, S20, C21, S22, k23, h, e1, e2⟩ := h
      replace hC : cl_6 + C19 + C21 ≤ mc := by omega
      replace hS : sl_6 + S20 + S22 ≤ ms := by omega
      clear e1 e2
      refine j_callV (n := 3) (As := [.int (-1), .int (-1), .int 0]) (rest := []) (wr := [(g1, .inr (1, [.ref a_cells_g1, .int count_g1])), (a_cells_g1, .inl (cI, n_a_cells_g1, .inl b_a_cells_g1))]) (c_Nd_addLeaf l D cI cB cJ cS h0 q3_0_6 (-1) (-1) 0 f3_1_6 n2_6 b2_6  r15 r16 r17 C19 S20 k23) k_Nd_44 (by decide) ⟨Nat.le_of_ble_eq_true rfl, Nat.le_of_ble_eq_true rfl⟩ rfl 0 rfl [3, 2] [0, 1] rfl (by decide) rfl (by decide) (by decide) rfl rfl (Nat.le_of_ble_eq_true rfl) d_Nd_arrange_18 ⟨show cl_6 + C19 ≤ mc by omega, show sl_6 + S20 ≤ ms by omega⟩ (fun v w hq => ?_)
      obtain ⟨q18, rfl, rfl⟩ := hq
      refine j_norm (pc' := 21) (st' := []) (ws' := [(g1, .inr (1, [.ref a_cells_g1, .int count_g1])), (a_cells_g1, .inl (cI, n_a_cells_g1, .inl b_a_cells_g1)), (h0, .inr (1, [.ref q18, .int r15])), (q18, .inl (cI, r16, .inl r17))]) (cl' := cl_6 + C19) (sl' := sl_6 + S20) rfl rfl rfl rfl rfl rfl ?_
      refine j_iinc (v := v2_6 + 1) (lv' := [(2, .int (v2_6 + 1)), (0, .ref h0), (1, .ref g1)]) d_Nd_arrange_21 0 rfl rfl (by decide) rfl ?_
      refine j_goto (tgt := 6) d_Nd_arrange_24 (by decide) ?_
      refine j_sub (w := [(g1, .inr (1, [.ref a_cells_g1, .int count_g1])), (a_cells_g1, .inl (cI, n_a_cells_g1, .inl b_a_cells_g1)), (q18, .inl (cI, r16, .inl r17)), (h0, .inr (1, [.ref q18, .int r15]))]) (lv' := [(2, .int (v2_6 + 1)), (0, .ref h0), (1, .ref g1)]) [0, 1, 3, 2] rfl (by decide) [0, 1, 2] rfl ?_
      exact ih_6 q18 (v2_6 + 1) r16 r17 r15 (cl_6 + C19) (sl_6 + S20) C21 S22 h hC hS
set_option maxHeartbeats 4000000 in
set_option maxRecDepth 100000 in
theorem c_Nd_arrange (l : Launch) (D : va_G) (cI cB cJ cS : ClassId) (h0 : Nat) (g1 : Nat) (a_cells_h0 : Nat) (a_cells_g1 : Nat) (count_h0 : Int32) (count_g1 : Int32) (n_a_cells_g1 : Nat) (b_a_cells_g1 : Nat → Int32) (n_a_cells_h0 : Nat) (b_a_cells_h0 : Nat → Int32) (o_0_1 : Int32) (ob_2 : Nat → Int32) (on_nq_0_0 : Nat) (ob_nq_0_0 : Nat → Int32) (mc ms : Nat) (h : F_Nd_arrange count_h0 count_g1 n_a_cells_g1 b_a_cells_g1 n_a_cells_h0 b_a_cells_h0 = some ((o_0_1, ob_2, on_nq_0_0, ob_nq_0_0), mc, ms)) : Ct l D (gT cI cB cJ cS) y_Nd_arrange prog_4_method_12_code 5 (Option.none : Option Jvm.ClassFile.FieldType) 4 133 mc ms [.ref h0, .ref g1] [(h0, .inr (1, [.ref a_cells_h0, .int count_h0])), (g1, .inr (1, [.ref a_cells_g1, .int count_g1])), (a_cells_g1, .inl (cI, n_a_cells_g1, .inl b_a_cells_g1)), (a_cells_h0, .inl (cI, n_a_cells_h0, .inl b_a_cells_h0))] (fun v w => ∃ nq_0_0 : Nat, v = none ∧ w = [(h0, .inr (1, [.ref nq_0_0, .int o_0_1])), (g1, .inr (1, [.ref a_cells_g1, .int count_g1])), (a_cells_g1, .inl (cI, n_a_cells_g1, .inl ob_2)), (nq_0_0, .inl (cI, on_nq_0_0, .inl ob_nq_0_0))]) := by
  refine Ct.mk (by decide) (Nat.le_of_ble_eq_true rfl) ?_
  intro p e s m below meth c hr hnm
  refine j_norm (pc' := 0) (lv' := [(0, .ref h0), (1, .ref g1)]) (st' := []) (ws' := [(h0, .inr (1, [.ref a_cells_h0, .int count_h0])), (g1, .inr (1, [.ref a_cells_g1, .int count_g1])), (a_cells_g1, .inl (cI, n_a_cells_g1, .inl b_a_cells_g1)), (a_cells_h0, .inl (cI, n_a_cells_h0, .inl b_a_cells_h0))]) (cl' := 0) (sl' := 0) rfl rfl rfl rfl rfl rfl ?_
  unfold F_Nd_arrange at h
  have hC : 0 + mc ≤ mc := by omega
  have hS : 0 + ms ≤ ms := by omega
  refine j_aload_n d_Nd_arrange_0 rfl 0 rfl ?_
  refine j_callV (n := 0) (As := []) (rest := []) (wr := [(g1, .inr (1, [.ref a_cells_g1, .int count_g1])), (a_cells_g1, .inl (cI, n_a_cells_g1, .inl b_a_cells_g1)), (a_cells_h0, .inl (cI, n_a_cells_h0, .inl b_a_cells_h0))]) (c_Nd_clear l D cI cB cJ cS h0 a_cells_h0 count_h0  ) k_Nd_41 (by decide) ⟨Nat.le_of_ble_eq_true rfl, Nat.le_of_ble_eq_true rfl⟩ rfl 0 rfl [0] [1, 2, 3] rfl (by decide) rfl (by decide) (by decide) rfl rfl (Nat.le_of_ble_eq_true rfl) d_Nd_arrange_1 ⟨show 0 + 0 ≤ mc by omega, show 0 + 0 ≤ ms by omega⟩ (fun v w hq => ?_)
  obtain ⟨rfl, rfl⟩ := hq
  refine j_norm (pc' := 4) (st' := []) (ws' := [(g1, .inr (1, [.ref a_cells_g1, .int count_g1])), (a_cells_g1, .inl (cI, n_a_cells_g1, .inl b_a_cells_g1)), (a_cells_h0, .inl (cI, n_a_cells_h0, .inl b_a_cells_h0)), (h0, .inr (1, [.ref a_cells_h0, .int 0]))]) (cl' := 0) (sl' := 0) rfl rfl rfl rfl rfl rfl ?_
  refine j_iconst (v := 0) d_Nd_arrange_4 (by decide) ?_
  refine j_istore_n (lv' := [(2, .int 0), (0, .ref h0), (1, .ref g1)]) d_Nd_arrange_5 rfl (by decide) rfl ?_
  refine j_sub (w := [(g1, .inr (1, [.ref a_cells_g1, .int count_g1])), (a_cells_g1, .inl (cI, n_a_cells_g1, .inl b_a_cells_g1)), (a_cells_h0, .inl (cI, n_a_cells_h0, .inl b_a_cells_h0)), (h0, .inr (1, [.ref a_cells_h0, .int 0]))]) (lv' := [(2, .int 0), (0, .ref h0), (1, .ref g1)]) [0, 1, 2, 3] rfl (by decide) [0, 1, 2] rfl ?_
  exact L_Nd_arrange_6 l D cI cB cJ cS h0 g1 a_cells_h0 a_cells_g1 count_h0 count_g1 n_a_cells_g1 b_a_cells_g1 n_a_cells_h0 b_a_cells_h0 o_0_1 ob_2 on_nq_0_0 ob_nq_0_0 mc ms p e s m below meth c hr hnm FU a_cells_h0 0 n_a_cells_h0 b_a_cells_h0 0 0 0 mc ms h hC hS
noncomputable def F_Rw_add_42 (p1 : Int32) (size_h0 : Int32) (n1_42 : Nat) (b1_42 : Nat → Int32) : Option ((Int32 × Int32 × Nat × (Nat → Int32)) × Nat × Nat) :=
    inb size_h0 n1_42 (some ((1, size_h0 + 1, n1_42, upd b1_42 (Int32.toNatClampNeg size_h0) (vp_nar .byte p1.toInt8.toInt32)), 0, 0))
noncomputable def F_Rw_add (p1 : Int32) (size_h0 : Int32) (n_a_bytes_h0 : Nat) (b_a_bytes_h0 : Nat → Int32) : Option ((Int32 × Int32 × Nat × (Nat → Int32)) × Nat × Nat) :=
  if size_h0 < (nI n_a_bytes_h0) then (F_Rw_add_42 p1 size_h0   n_a_bytes_h0 b_a_bytes_h0)
  else if (nI n_a_bytes_h0) < 65536 then (bw (F_JA_copyOf (2 * (nI n_a_bytes_h0)) n_a_bytes_h0 b_a_bytes_h0) fun _ =>
    F_Rw_add_42 p1 size_h0   (Int32.toNatClampNeg (2 * (nI n_a_bytes_h0))) (va_cpy b_a_bytes_h0 (fun _ => 0) (Int32.toNatClampNeg 0) (Int32.toNatClampNeg 0) (Int32.toNatClampNeg (mn (nI n_a_bytes_h0) (2 * (nI n_a_bytes_h0))))))
  else (some ((0, size_h0, n_a_bytes_h0, b_a_bytes_h0), 0, 0))
theorem d_Rw_add_0 : decode prog_7_method_4_code 0 = .ok (.aload_n 0, 1) := by decide +kernel
theorem d_Rw_add_1 : decode prog_7_method_4_code 1 = .ok (.getfield 15, 3) := by decide +kernel
theorem d_Rw_add_4 : decode prog_7_method_4_code 4 = .ok (.aload_n 0, 1) := by decide +kernel
theorem d_Rw_add_5 : decode prog_7_method_4_code 5 = .ok (.getfield 11, 3) := by decide +kernel
theorem d_Rw_add_8 : decode prog_7_method_4_code 8 = .ok (.arraylength, 1) := by decide +kernel
theorem d_Rw_add_9 : decode prog_7_method_4_code 9 = .ok (.if_icmp .lt 33, 3) := by decide +kernel
theorem d_Rw_add_12 : decode prog_7_method_4_code 12 = .ok (.aload_n 0, 1) := by decide +kernel
theorem d_Rw_add_13 : decode prog_7_method_4_code 13 = .ok (.getfield 11, 3) := by decide +kernel
theorem d_Rw_add_16 : decode prog_7_method_4_code 16 = .ok (.arraylength, 1) := by decide +kernel
theorem d_Rw_add_17 : decode prog_7_method_4_code 17 = .ok (.ldc 19, 2) := by decide +kernel
theorem d_Rw_add_19 : decode prog_7_method_4_code 19 = .ok (.if_icmp .lt 5, 3) := by decide +kernel
theorem d_Rw_add_22 : decode prog_7_method_4_code 22 = .ok (.iconst 0, 1) := by decide +kernel
theorem d_Rw_add_23 : decode prog_7_method_4_code 23 = .ok (.ireturn, 1) := by decide +kernel
theorem d_Rw_add_24 : decode prog_7_method_4_code 24 = .ok (.aload_n 0, 1) := by decide +kernel
theorem d_Rw_add_25 : decode prog_7_method_4_code 25 = .ok (.aload_n 0, 1) := by decide +kernel
theorem d_Rw_add_26 : decode prog_7_method_4_code 26 = .ok (.getfield 11, 3) := by decide +kernel
theorem d_Rw_add_29 : decode prog_7_method_4_code 29 = .ok (.iconst 2, 1) := by decide +kernel
theorem d_Rw_add_30 : decode prog_7_method_4_code 30 = .ok (.aload_n 0, 1) := by decide +kernel
theorem d_Rw_add_31 : decode prog_7_method_4_code 31 = .ok (.getfield 11, 3) := by decide +kernel
theorem d_Rw_add_34 : decode prog_7_method_4_code 34 = .ok (.arraylength, 1) := by decide +kernel
theorem d_Rw_add_35 : decode prog_7_method_4_code 35 = .ok (.imul, 1) := by decide +kernel
theorem d_Rw_add_36 : decode prog_7_method_4_code 36 = .ok (.invokestatic 20, 3) := by decide +kernel
theorem d_Rw_add_39 : decode prog_7_method_4_code 39 = .ok (.putfield 11, 3) := by decide +kernel
theorem d_Rw_add_42 : decode prog_7_method_4_code 42 = .ok (.aload_n 0, 1) := by decide +kernel
theorem d_Rw_add_43 : decode prog_7_method_4_code 43 = .ok (.getfield 11, 3) := by decide +kernel
theorem d_Rw_add_46 : decode prog_7_method_4_code 46 = .ok (.aload_n 0, 1) := by decide +kernel
theorem d_Rw_add_47 : decode prog_7_method_4_code 47 = .ok (.getfield 15, 3) := by decide +kernel
theorem d_Rw_add_50 : decode prog_7_method_4_code 50 = .ok (.iload_n 1, 1) := by decide +kernel
theorem d_Rw_add_51 : decode prog_7_method_4_code 51 = .ok (.i2b, 1) := by decide +kernel
theorem d_Rw_add_52 : decode prog_7_method_4_code 52 = .ok (.bastore, 1) := by decide +kernel
theorem d_Rw_add_53 : decode prog_7_method_4_code 53 = .ok (.aload_n 0, 1) := by decide +kernel
theorem d_Rw_add_54 : decode prog_7_method_4_code 54 = .ok (.dup, 1) := by decide +kernel
theorem d_Rw_add_55 : decode prog_7_method_4_code 55 = .ok (.getfield 15, 3) := by decide +kernel
theorem d_Rw_add_58 : decode prog_7_method_4_code 58 = .ok (.iconst 1, 1) := by decide +kernel
theorem d_Rw_add_59 : decode prog_7_method_4_code 59 = .ok (.iadd, 1) := by decide +kernel
theorem d_Rw_add_60 : decode prog_7_method_4_code 60 = .ok (.putfield 15, 3) := by decide +kernel
theorem d_Rw_add_63 : decode prog_7_method_4_code 63 = .ok (.iconst 1, 1) := by decide +kernel
theorem d_Rw_add_64 : decode prog_7_method_4_code 64 = .ok (.ireturn, 1) := by decide +kernel
set_option maxHeartbeats 4000000 in
set_option maxRecDepth 100000 in
theorem L_Rw_add_42 (l : Launch) (D : va_G) (cI cB cJ cS : ClassId) (h0 : Nat) (a_bytes_h0 : Nat) (p1 : Int32) (size_h0 : Int32) (n_a_bytes_h0 : Nat) (b_a_bytes_h0 : Nat → Int32) (ret : Int32) (o_0_1 : Int32) (on_nq_0_0 : Nat) (ob_nq_0_0 : Nat → Int32) (mc ms : Nat) (p : Program) (e : Env) (s : State) (m : MethodId) (below : List Frame) (meth : Method) (c : Code) (hr : meth.sig.returnType = (Option.some Jvm.ClassFile.FieldType.boolean)) (hnm : meth.name = y_Rw_add.name) : ∀ (q0_0_42 : Nat) (n1_42 : Nat) (b1_42 : Nat → Int32) (cl_42 sl_42 C_42 S_42 : Nat), F_Rw_add_42 p1 size_h0   n1_42 b1_42 = some ((ret, o_0_1, on_nq_0_0, ob_nq_0_0), C_42, S_42) → cl_42 + C_42 ≤ mc → sl_42 + S_42 ≤ ms → J (KxOf p l e { frames := 2, cells := mc, slots := ms, locals := 82 } s m [.ref h0, .int p1].toArray below meth c D (gT cI cB cJ cS) [(h0, .inr (3, [.ref a_bytes_h0, .int size_h0])), (a_bytes_h0, .inl (cB, n_a_bytes_h0, .inl b_a_bytes_h0))] (fun v w => ∃ nq_0_0 : Nat, v = some (.int ret) ∧ zb ret ∧ w = [(h0, .inr (3, [.ref nq_0_0, .int o_0_1])), (nq_0_0, .inl (cB, on_nq_0_0, .inl ob_nq_0_0))]) mc ms) prog_7_method_4_code 2 R_Rw 42 [(0, .ref h0), (1, .int p1)] [] [(h0, .inr (3, [.ref q0_0_42, .int size_h0])), (q0_0_42, .inl (cB, n1_42, .inl b1_42))] cl_42 sl_42 := by
  intro q0_0_42 n1_42 b1_42 cl_42 sl_42 C_42 S_42 h hC hS
  unfold F_Rw_add_42 at h
  refine j_aload_n d_Rw_add_42 rfl 0 rfl ?_
  refine j_get ig_Rw rfl 0 rfl 0 (by decide) rfl m_49 rfl d_Rw_add_43 ?_
  refine j_aload_n d_Rw_add_46 rfl 0 rfl ?_
  refine j_get ig_Rw rfl 0 rfl 1 (by decide) rfl m_50 rfl d_Rw_add_47 ?_
  refine j_iload_n d_Rw_add_50 rfl 1 rfl ?_
  refine j_i2b d_Rw_add_51 ?_
  replace h := inb_s h
  obtain ⟨i1, h⟩ := h
  refine j_bast (t0 := 1) (ws' := [(h0, .inr (3, [.ref q0_0_42, .int size_h0])), (q0_0_42, .inl (cB, n1_42, .inl (upd b1_42 (Int32.toNatClampNeg size_h0) (vp_nar .byte p1.toInt8.toInt32))))]) 1 rfl rfl i1 d_Rw_add_52 rfl ?_
  refine j_aload_n d_Rw_add_53 rfl 0 rfl ?_
  refine j_dup rfl d_Rw_add_54 ?_
  refine j_get ig_Rw rfl 0 rfl 1 (by decide) rfl m_50 rfl d_Rw_add_55 ?_
  refine j_iconst (v := 1) d_Rw_add_58 (by decide) ?_
  refine j_iadd d_Rw_add_59 ?_
  refine j_put (ws' := [(h0, .inr (3, [.ref q0_0_42, .int (size_h0 + 1)])), (q0_0_42, .inl (cB, n1_42, .inl (upd b1_42 (Int32.toNatClampNeg size_h0) (vp_nar .byte p1.toInt8.toInt32))))]) ig_Rw tk_Rw nm_Rw rfl 0 rfl 1 (by decide) rfl m_50 rfl (tk_Rw 1 (by decide)) rfl rfl (Nat.le_of_ble_eq_true rfl) d_Rw_add_60 rfl ?_
  refine j_iconst (v := 1) d_Rw_add_63 (by decide) ?_
  replace h := lf_s h
  obtain ⟨h, e1, e2⟩ := h
  replace h := Prod.mk.inj h
  obtain ⟨h9, h⟩ := h
  subst h9
  replace h := Prod.mk.inj h
  obtain ⟨h9, h⟩ := h
  subst h9
  replace h := Prod.mk.inj h
  obtain ⟨h9, h⟩ := h
  subst h9
  subst h
  refine j_widen (cl' := mc) (sl' := ms) (by omega) (by omega) ?_
  exact j_zret (w := [(h0, .inr (3, [.ref q0_0_42, .int (size_h0 + 1)])), (q0_0_42, .inl (cB, n1_42, .inl (upd b1_42 (Int32.toNatClampNeg size_h0) (vp_nar .byte p1.toInt8.toInt32))))]) hr (zb_n zb1) d_Rw_add_64 [0, 1] rfl (by decide) ⟨q0_0_42, rfl, zb1, rfl⟩
set_option maxHeartbeats 4000000 in
set_option maxRecDepth 100000 in
theorem c_Rw_add (l : Launch) (D : va_G) (cI cB cJ cS : ClassId) (h0 : Nat) (a_bytes_h0 : Nat) (p1 : Int32) (size_h0 : Int32) (n_a_bytes_h0 : Nat) (b_a_bytes_h0 : Nat → Int32) (ret : Int32) (o_0_1 : Int32) (on_nq_0_0 : Nat) (ob_nq_0_0 : Nat → Int32) (mc ms : Nat) (h : F_Rw_add p1 size_h0 n_a_bytes_h0 b_a_bytes_h0 = some ((ret, o_0_1, on_nq_0_0, ob_nq_0_0), mc, ms)) : Ct l D (gT cI cB cJ cS) y_Rw_add prog_7_method_4_code 2 (Option.some Jvm.ClassFile.FieldType.boolean) 2 82 mc ms [.ref h0, .int p1] [(h0, .inr (3, [.ref a_bytes_h0, .int size_h0])), (a_bytes_h0, .inl (cB, n_a_bytes_h0, .inl b_a_bytes_h0))] (fun v w => ∃ nq_0_0 : Nat, v = some (.int ret) ∧ zb ret ∧ w = [(h0, .inr (3, [.ref nq_0_0, .int o_0_1])), (nq_0_0, .inl (cB, on_nq_0_0, .inl ob_nq_0_0))]) := by
  refine Ct.mk (by decide) (Nat.le_of_ble_eq_true rfl) ?_
  intro p e s m below meth c hr hnm
  refine j_norm (pc' := 0) (lv' := [(0, .ref h0), (1, .int p1)]) (st' := []) (ws' := [(h0, .inr (3, [.ref a_bytes_h0, .int size_h0])), (a_bytes_h0, .inl (cB, n_a_bytes_h0, .inl b_a_bytes_h0))]) (cl' := 0) (sl' := 0) rfl rfl rfl rfl rfl rfl ?_
  unfold F_Rw_add at h
  have hC : 0 + mc ≤ mc := by omega
  have hS : 0 + ms ≤ ms := by omega
  refine j_aload_n d_Rw_add_0 rfl 0 rfl ?_
  refine j_get ig_Rw rfl 0 rfl 1 (by decide) rfl m_50 rfl d_Rw_add_1 ?_
  refine j_aload_n d_Rw_add_4 rfl 0 rfl ?_
  refine j_get ig_Rw rfl 0 rfl 0 (by decide) rfl m_49 rfl d_Rw_add_5 ?_
  refine j_alen (t0 := 1) 1 rfl rfl rfl d_Rw_add_8 ?_
  refine j_icmp_lt (tgt := 42) d_Rw_add_9 (by decide) (fun c2 => ?_) (fun c2 => ?_)
  · replace h := it_t c2 h
    refine j_sub (w := [(h0, .inr (3, [.ref a_bytes_h0, .int size_h0])), (a_bytes_h0, .inl (cB, n_a_bytes_h0, .inl b_a_bytes_h0))]) (lv' := [(0, .ref h0), (1, .int p1)]) [0, 1] rfl (by decide) [0, 1] rfl ?_
    exact L_Rw_add_42 l D cI cB cJ cS h0 a_bytes_h0 p1 size_h0 n_a_bytes_h0 b_a_bytes_h0 ret o_0_1 on_nq_0_0 ob_nq_0_0 mc ms p e s m below meth c hr hnm a_bytes_h0 n_a_bytes_h0 b_a_bytes_h0 0 0 mc ms h hC hS
  · replace h := it_f c2 h
    refine j_aload_n d_Rw_add_12 rfl 0 rfl ?_
    refine j_get ig_Rw rfl 0 rfl 0 (by decide) rfl m_49 rfl d_Rw_add_13 ?_
    refine j_alen (t0 := 1) 1 rfl rfl rfl d_Rw_add_16 ?_
    refine j_ldc (v := 65536) m_281 d_Rw_add_17 ?_
    refine j_icmp_lt (tgt := 24) d_Rw_add_19 (by decide) (fun c3 => ?_) (fun c3 => ?_)
    · replace h := it_t c3 h
      refine j_aload_n d_Rw_add_24 rfl 0 rfl ?_
      refine j_aload_n d_Rw_add_25 rfl 0 rfl ?_
      refine j_get ig_Rw rfl 0 rfl 0 (by decide) rfl m_49 rfl d_Rw_add_26 ?_
      refine j_iconst (v := 2) d_Rw_add_29 (by decide) ?_
      refine j_aload_n d_Rw_add_30 rfl 0 rfl ?_
      refine j_get ig_Rw rfl 0 rfl 0 (by decide) rfl m_49 rfl d_Rw_add_31 ?_
      refine j_alen (t0 := 1) 1 rfl rfl rfl d_Rw_add_34 ?_
      refine j_imul d_Rw_add_35 ?_
      replace h := bw_s h
      obtain ⟨_, C5, S6, C7, S8, k9, h, e1, e2⟩ := h
      replace hC : 0 + C5 + C7 ≤ mc := by omega
      replace hS : 0 + S6 + S8 ≤ ms := by omega
      clear e1 e2
      refine j_callS (n := 2) (As := [.ref a_bytes_h0, .int (2 * (nI n_a_bytes_h0))]) (rest := [.ref h0]) (wr := [(h0, .inr (3, [.ref a_bytes_h0, .int size_h0]))]) (c_JA_copyOf l D cI cB cJ cS a_bytes_h0 (2 * (nI n_a_bytes_h0)) n_a_bytes_h0 b_a_bytes_h0  C5 S6 k9) k_Rw_20 (by decide) ⟨Nat.le_of_ble_eq_true rfl, Nat.le_of_ble_eq_true rfl⟩ [1] [0] rfl (by decide) rfl (by decide) (by decide) rfl rfl (Nat.le_of_ble_eq_true rfl) d_Rw_add_36 ⟨show 0 + C5 ≤ mc by omega, show 0 + S6 ≤ ms by omega⟩ (fun v w hq => ?_)
      obtain ⟨q4, rfl, rfl⟩ := hq
      refine j_norm (pc' := 39) (st' := [.ref q4, .ref h0]) (ws' := [(h0, .inr (3, [.ref a_bytes_h0, .int size_h0])), (a_bytes_h0, .inl (cB, n_a_bytes_h0, .inl b_a_bytes_h0)), (q4, .inl (cB, (Int32.toNatClampNeg (2 * (nI n_a_bytes_h0))), .inl (va_cpy b_a_bytes_h0 (fun _ => 0) (Int32.toNatClampNeg 0) (Int32.toNatClampNeg 0) (Int32.toNatClampNeg (mn (nI n_a_bytes_h0) (2 * (nI n_a_bytes_h0)))))))]) (cl' := 0 + C5) (sl' := 0 + S6) rfl rfl rfl rfl rfl rfl ?_
      refine j_put (ws' := [(h0, .inr (3, [.ref q4, .int size_h0])), (a_bytes_h0, .inl (cB, n_a_bytes_h0, .inl b_a_bytes_h0)), (q4, .inl (cB, (Int32.toNatClampNeg (2 * (nI n_a_bytes_h0))), .inl (va_cpy b_a_bytes_h0 (fun _ => 0) (Int32.toNatClampNeg 0) (Int32.toNatClampNeg 0) (Int32.toNatClampNeg (mn (nI n_a_bytes_h0) (2 * (nI n_a_bytes_h0)))))))]) ig_Rw tk_Rw nm_Rw rfl 0 rfl 0 (by decide) rfl m_49 rfl (tk_Rw 0 (by decide)) rfl rfl (Nat.le_of_ble_eq_true rfl) d_Rw_add_39 rfl ?_
      refine j_sub (w := [(h0, .inr (3, [.ref q4, .int size_h0])), (q4, .inl (cB, (Int32.toNatClampNeg (2 * (nI n_a_bytes_h0))), .inl (va_cpy b_a_bytes_h0 (fun _ => 0) (Int32.toNatClampNeg 0) (Int32.toNatClampNeg 0) (Int32.toNatClampNeg (mn (nI n_a_bytes_h0) (2 * (nI n_a_bytes_h0)))))))]) (lv' := [(0, .ref h0), (1, .int p1)]) [0, 2] rfl (by decide) [0, 1] rfl ?_
      exact L_Rw_add_42 l D cI cB cJ cS h0 a_bytes_h0 p1 size_h0 n_a_bytes_h0 b_a_bytes_h0 ret o_0_1 on_nq_0_0 ob_nq_0_0 mc ms p e s m below meth c hr hnm q4 (Int32.toNatClampNeg (2 * (nI n_a_bytes_h0))) (va_cpy b_a_bytes_h0 (fun _ => 0) (Int32.toNatClampNeg 0) (Int32.toNatClampNeg 0) (Int32.toNatClampNeg (mn (nI n_a_bytes_h0) (2 * (nI n_a_bytes_h0))))) (0 + C5) (0 + S6) C7 S8 h hC hS
    · replace h := it_f c3 h
      refine j_iconst (v := 0) d_Rw_add_22 (by decide) ?_
      replace h := lf_s h
      obtain ⟨h, e1, e2⟩ := h
      replace h := Prod.mk.inj h
      obtain ⟨h9, h⟩ := h
      subst h9
      replace h := Prod.mk.inj h
      obtain ⟨h9, h⟩ := h
      subst h9
      replace h := Prod.mk.inj h
      obtain ⟨h9, h⟩ := h
      subst h9
      subst h
      refine j_widen (cl' := mc) (sl' := ms) (by omega) (by omega) ?_
      exact j_zret (w := [(h0, .inr (3, [.ref a_bytes_h0, .int size_h0])), (a_bytes_h0, .inl (cB, n_a_bytes_h0, .inl b_a_bytes_h0))]) hr (zb_n zb0) d_Rw_add_23 [0, 1] rfl (by decide) ⟨a_bytes_h0, rfl, zb0, rfl⟩
noncomputable def F_Rw_addFour_3 (p1 : Int32) : Nat → Int32 → Int32 → Nat → (Nat → Int32) → Option ((Int32 × Nat × (Nat → Int32)) × Nat × Nat)
  | 0, _, _, _, _ => none
  | k_3 + 1, v2_3, f0_1_3, n1_3, b1_3 =>
    if v2_3 < 0 then (some ((f0_1_3, n1_3, b1_3), 0, 0))
    else (bw (F_Rw_add (((p1.toUInt32 >>> (Int32.toUInt32 v2_3 &&& Int32.toUInt32 31)).toInt32) &&& 255) f0_1_3 n1_3 b1_3) fun ⟨r2, r3, r4, r5⟩ =>
      F_Rw_addFour_3 p1  k_3 (v2_3 + (-8)) r3 r4 r5)
noncomputable def F_Rw_addFour (p1 : Int32) (size_h0 : Int32) (n_a_bytes_h0 : Nat) (b_a_bytes_h0 : Nat → Int32) : Option ((Int32 × Nat × (Nat → Int32)) × Nat × Nat) :=
  F_Rw_addFour_3 p1  FU 24 size_h0 n_a_bytes_h0 b_a_bytes_h0
theorem d_Rw_addFour_0 : decode prog_7_method_5_code 0 = .ok (.bipush 24, 2) := by decide +kernel
theorem d_Rw_addFour_2 : decode prog_7_method_5_code 2 = .ok (.istore_n 2, 1) := by decide +kernel
theorem d_Rw_addFour_3 : decode prog_7_method_5_code 3 = .ok (.iload_n 2, 1) := by decide +kernel
theorem d_Rw_addFour_4 : decode prog_7_method_5_code 4 = .ok (.ifCond .lt 21, 3) := by decide +kernel
theorem d_Rw_addFour_7 : decode prog_7_method_5_code 7 = .ok (.aload_n 0, 1) := by decide +kernel
theorem d_Rw_addFour_8 : decode prog_7_method_5_code 8 = .ok (.iload_n 1, 1) := by decide +kernel
theorem d_Rw_addFour_9 : decode prog_7_method_5_code 9 = .ok (.iload_n 2, 1) := by decide +kernel
theorem d_Rw_addFour_10 : decode prog_7_method_5_code 10 = .ok (.iushr, 1) := by decide +kernel
theorem d_Rw_addFour_11 : decode prog_7_method_5_code 11 = .ok (.sipush 255, 3) := by decide +kernel
theorem d_Rw_addFour_14 : decode prog_7_method_5_code 14 = .ok (.iand, 1) := by decide +kernel
theorem d_Rw_addFour_15 : decode prog_7_method_5_code 15 = .ok (.invokevirtual 26, 3) := by decide +kernel
theorem d_Rw_addFour_18 : decode prog_7_method_5_code 18 = .ok (.pop, 1) := by decide +kernel
theorem d_Rw_addFour_19 : decode prog_7_method_5_code 19 = .ok (.iinc 2 (-8), 3) := by decide +kernel
theorem d_Rw_addFour_22 : decode prog_7_method_5_code 22 = .ok (.goto (-19), 3) := by decide +kernel
theorem d_Rw_addFour_25 : decode prog_7_method_5_code 25 = .ok (.return_, 1) := by decide +kernel
set_option maxHeartbeats 4000000 in
set_option maxRecDepth 100000 in
theorem L_Rw_addFour_3 (l : Launch) (D : va_G) (cI cB cJ cS : ClassId) (h0 : Nat) (a_bytes_h0 : Nat) (p1 : Int32) (size_h0 : Int32) (n_a_bytes_h0 : Nat) (b_a_bytes_h0 : Nat → Int32) (o_0_1 : Int32) (on_nq_0_0 : Nat) (ob_nq_0_0 : Nat → Int32) (mc ms : Nat) (p : Program) (e : Env) (s : State) (m : MethodId) (below : List Frame) (meth : Method) (c : Code) (hr : meth.sig.returnType = (Option.none : Option Jvm.ClassFile.FieldType)) (hnm : meth.name = y_Rw_addFour.name) : ∀ (k_3 : Nat) (q0_0_3 : Nat) (v2_3 : Int32) (f0_1_3 : Int32) (n1_3 : Nat) (b1_3 : Nat → Int32) (cl_3 sl_3 C_3 S_3 : Nat), F_Rw_addFour_3 p1  k_3 v2_3 f0_1_3 n1_3 b1_3 = some ((o_0_1, on_nq_0_0, ob_nq_0_0), C_3, S_3) → cl_3 + C_3 ≤ mc → sl_3 + S_3 ≤ ms → J (KxOf p l e { frames := 3, cells := mc, slots := ms, locals := 103 } s m [.ref h0, .int p1].toArray below meth c D (gT cI cB cJ cS) [(h0, .inr (3, [.ref a_bytes_h0, .int size_h0])), (a_bytes_h0, .inl (cB, n_a_bytes_h0, .inl b_a_bytes_h0))] (fun v w => ∃ nq_0_0 : Nat, v = none ∧ w = [(h0, .inr (3, [.ref nq_0_0, .int o_0_1])), (nq_0_0, .inl (cB, on_nq_0_0, .inl ob_nq_0_0))]) mc ms) prog_7_method_5_code 3 R_Rw 3 [(2, .int v2_3), (0, .ref h0), (1, .int p1)] [] [(h0, .inr (3, [.ref q0_0_3, .int f0_1_3])), (q0_0_3, .inl (cB, n1_3, .inl b1_3))] cl_3 sl_3 := by
  intro k_3
  induction k_3 with
  | zero => intro q0_0_3 v2_3 f0_1_3 n1_3 b1_3 cl_3 sl_3 C_3 S_3 h; rw [F_Rw_addFour_3] at h; cases h
  | succ k_3 ih_3 =>
    intro q0_0_3 v2_3 f0_1_3 n1_3 b1_3 cl_3 sl_3 C_3 S_3 h hC hS
    rw [F_Rw_addFour_3] at h
    refine j_iload_n d_Rw_addFour_3 rfl 0 rfl ?_
    refine j_if_lt (tgt := 25) d_Rw_addFour_4 (by decide) (fun c1 => ?_) (fun c1 => ?_)
    · replace h := it_t c1 h
      replace h := lf_s h
      obtain ⟨h, e1, e2⟩ := h
      replace h := Prod.mk.inj h
      obtain ⟨h9, h⟩ := h
      subst h9
      replace h := Prod.mk.inj h
      obtain ⟨h9, h⟩ := h
      subst h9
      subst h
      refine j_widen (cl' := mc) (sl' := ms) (by omega) (by omega) ?_
      exact j_vret (w := [(h0, .inr (3, [.ref q0_0_3, .int f0_1_3])), (q0_0_3, .inl (cB, n1_3, .inl b1_3))]) hr d_Rw_addFour_25 [0, 1] rfl (by decide) ⟨q0_0_3, rfl, rfl⟩
    · replace h := it_f c1 h
      refine j_aload_n d_Rw_addFour_7 rfl 1 rfl ?_
      refine j_iload_n d_Rw_addFour_8 rfl 2 rfl ?_
      refine j_iload_n d_Rw_addFour_9 rfl 0 rfl ?_
      refine j_iushr d_Rw_addFour_10 ?_
      refine j_sipush (v := 255) d_Rw_addFour_11 (by decide) ?_
      refine j_iand d_Rw_addFour_14 ?_
      replace h := bw_s h
      obtain ⟨⟨r2, r3, r4, r5⟩, C8, S9, C10, S11, k12, h, e1, e2⟩ := h
      replace hC : cl_3 + C8 + C10 ≤ mc := by omega
      replace hS : sl_3 + S9 + S11 ≤ ms := by omega
      clear e1 e2
      refine j_callV (n := 1) (As := [.int (((p1.toUInt32 >>> (Int32.toUInt32 v2_3 &&& Int32.toUInt32 31)).toInt32) &&& 255)]) (rest := []) (wr := []) (c_Rw_add l D cI cB cJ cS h0 q0_0_3 (((p1.toUInt32 >>> (Int32.toUInt32 v2_3 &&& Int32.toUInt32 31)).toInt32) &&& 255) f0_1_3 n1_3 b1_3  r2 r3 r4 r5 C8 S9 k12) k_Rw_26 (by decide) ⟨Nat.le_of_ble_eq_true rfl, Nat.le_of_ble_eq_true rfl⟩ rfl 0 rfl [0, 1] [] rfl (by decide) rfl (by decide) (by decide) rfl rfl (Nat.le_of_ble_eq_true rfl) d_Rw_addFour_15 ⟨show cl_3 + C8 ≤ mc by omega, show sl_3 + S9 ≤ ms by omega⟩ (fun v w hq => ?_)
      obtain ⟨q6, rfl, z7, rfl⟩ := hq
      refine j_norm (pc' := 18) (st' := [.int r2]) (ws' := [(h0, .inr (3, [.ref q6, .int r3])), (q6, .inl (cB, r4, .inl r5))]) (cl' := cl_3 + C8) (sl' := sl_3 + S9) rfl rfl rfl rfl rfl rfl ?_
      refine j_pop rfl d_Rw_addFour_18 ?_
      refine j_iinc (v := v2_3 + (-8)) (lv' := [(2, .int (v2_3 + (-8))), (0, .ref h0), (1, .int p1)]) d_Rw_addFour_19 0 rfl rfl (by decide) rfl ?_
      refine j_goto (tgt := 3) d_Rw_addFour_22 (by decide) ?_
      refine j_sub (w := [(h0, .inr (3, [.ref q6, .int r3])), (q6, .inl (cB, r4, .inl r5))]) (lv' := [(2, .int (v2_3 + (-8))), (0, .ref h0), (1, .int p1)]) [0, 1] rfl (by decide) [0, 1, 2] rfl ?_
      exact ih_3 q6 (v2_3 + (-8)) r3 r4 r5 (cl_3 + C8) (sl_3 + S9) C10 S11 h hC hS
set_option maxHeartbeats 4000000 in
set_option maxRecDepth 100000 in
theorem c_Rw_addFour (l : Launch) (D : va_G) (cI cB cJ cS : ClassId) (h0 : Nat) (a_bytes_h0 : Nat) (p1 : Int32) (size_h0 : Int32) (n_a_bytes_h0 : Nat) (b_a_bytes_h0 : Nat → Int32) (o_0_1 : Int32) (on_nq_0_0 : Nat) (ob_nq_0_0 : Nat → Int32) (mc ms : Nat) (h : F_Rw_addFour p1 size_h0 n_a_bytes_h0 b_a_bytes_h0 = some ((o_0_1, on_nq_0_0, ob_nq_0_0), mc, ms)) : Ct l D (gT cI cB cJ cS) y_Rw_addFour prog_7_method_5_code 3 (Option.none : Option Jvm.ClassFile.FieldType) 3 103 mc ms [.ref h0, .int p1] [(h0, .inr (3, [.ref a_bytes_h0, .int size_h0])), (a_bytes_h0, .inl (cB, n_a_bytes_h0, .inl b_a_bytes_h0))] (fun v w => ∃ nq_0_0 : Nat, v = none ∧ w = [(h0, .inr (3, [.ref nq_0_0, .int o_0_1])), (nq_0_0, .inl (cB, on_nq_0_0, .inl ob_nq_0_0))]) := by
  refine Ct.mk (by decide) (Nat.le_of_ble_eq_true rfl) ?_
  intro p e s m below meth c hr hnm
  refine j_norm (pc' := 0) (lv' := [(0, .ref h0), (1, .int p1)]) (st' := []) (ws' := [(h0, .inr (3, [.ref a_bytes_h0, .int size_h0])), (a_bytes_h0, .inl (cB, n_a_bytes_h0, .inl b_a_bytes_h0))]) (cl' := 0) (sl' := 0) rfl rfl rfl rfl rfl rfl ?_
  unfold F_Rw_addFour at h
  have hC : 0 + mc ≤ mc := by omega
  have hS : 0 + ms ≤ ms := by omega
  refine j_bipush (v := 24) d_Rw_addFour_0 (by decide) ?_
  refine j_istore_n (lv' := [(2, .int 24), (0, .ref h0), (1, .int p1)]) d_Rw_addFour_2 rfl (by decide) rfl ?_
  refine j_sub (w := [(h0, .inr (3, [.ref a_bytes_h0, .int size_h0])), (a_bytes_h0, .inl (cB, n_a_bytes_h0, .inl b_a_bytes_h0))]) (lv' := [(2, .int 24), (0, .ref h0), (1, .int p1)]) [0, 1] rfl (by decide) [0, 1, 2] rfl ?_
  exact L_Rw_addFour_3 l D cI cB cJ cS h0 a_bytes_h0 p1 size_h0 n_a_bytes_h0 b_a_bytes_h0 o_0_1 on_nq_0_0 ob_nq_0_0 mc ms p e s m below meth c hr hnm FU a_bytes_h0 24 size_h0 n_a_bytes_h0 b_a_bytes_h0 0 0 mc ms h hC hS
noncomputable def F_Rw_become_7 (size_g1 : Int32) (n_a_bytes_g1 : Nat) (b_a_bytes_g1 : Nat → Int32) : Nat → Int32 → Int32 → Nat → (Nat → Int32) → Option ((Int32 × Nat × (Nat → Int32)) × Nat × Nat)
  | 0, _, _, _, _ => none
  | k_7 + 1, v2_7, f0_1_7, n3_7, b3_7 =>
    if size_g1 ≤ v2_7 then (some ((f0_1_7, n3_7, b3_7), 0, 0))
    else (Option.bind (F_Rw_at v2_7 size_g1 n_a_bytes_g1 b_a_bytes_g1) fun r2 =>
      bw (F_Rw_add r2 f0_1_7 n3_7 b3_7) fun ⟨r4, r5, r6, r7⟩ =>
      F_Rw_become_7 size_g1 n_a_bytes_g1 b_a_bytes_g1  k_7 (v2_7 + 1) r5 r6 r7)
noncomputable def F_Rw_become (size_h0 : Int32) (size_g1 : Int32) (n_a_bytes_g1 : Nat) (b_a_bytes_g1 : Nat → Int32) (n_a_bytes_h0 : Nat) (b_a_bytes_h0 : Nat → Int32) : Option ((Int32 × Nat × (Nat → Int32)) × Nat × Nat) :=
  F_Rw_become_7 size_g1 n_a_bytes_g1 b_a_bytes_g1  FU 0 0 n_a_bytes_h0 b_a_bytes_h0
theorem d_Rw_become_0 : decode prog_7_method_7_code 0 = .ok (.aload_n 0, 1) := by decide +kernel
theorem d_Rw_become_1 : decode prog_7_method_7_code 1 = .ok (.iconst 0, 1) := by decide +kernel
theorem d_Rw_become_2 : decode prog_7_method_7_code 2 = .ok (.putfield 15, 3) := by decide +kernel
theorem d_Rw_become_5 : decode prog_7_method_7_code 5 = .ok (.iconst 0, 1) := by decide +kernel
theorem d_Rw_become_6 : decode prog_7_method_7_code 6 = .ok (.istore_n 2, 1) := by decide +kernel
theorem d_Rw_become_7 : decode prog_7_method_7_code 7 = .ok (.iload_n 2, 1) := by decide +kernel
theorem d_Rw_become_8 : decode prog_7_method_7_code 8 = .ok (.aload_n 1, 1) := by decide +kernel
theorem d_Rw_become_9 : decode prog_7_method_7_code 9 = .ok (.getfield 15, 3) := by decide +kernel
theorem d_Rw_become_12 : decode prog_7_method_7_code 12 = .ok (.if_icmp .ge 19, 3) := by decide +kernel
theorem d_Rw_become_15 : decode prog_7_method_7_code 15 = .ok (.aload_n 0, 1) := by decide +kernel
theorem d_Rw_become_16 : decode prog_7_method_7_code 16 = .ok (.aload_n 1, 1) := by decide +kernel
theorem d_Rw_become_17 : decode prog_7_method_7_code 17 = .ok (.iload_n 2, 1) := by decide +kernel
theorem d_Rw_become_18 : decode prog_7_method_7_code 18 = .ok (.invokevirtual 30, 3) := by decide +kernel
theorem d_Rw_become_21 : decode prog_7_method_7_code 21 = .ok (.invokevirtual 26, 3) := by decide +kernel
theorem d_Rw_become_24 : decode prog_7_method_7_code 24 = .ok (.pop, 1) := by decide +kernel
theorem d_Rw_become_25 : decode prog_7_method_7_code 25 = .ok (.iinc 2 1, 3) := by decide +kernel
theorem d_Rw_become_28 : decode prog_7_method_7_code 28 = .ok (.goto (-21), 3) := by decide +kernel
theorem d_Rw_become_31 : decode prog_7_method_7_code 31 = .ok (.return_, 1) := by decide +kernel
set_option maxHeartbeats 4000000 in
set_option maxRecDepth 100000 in
theorem L_Rw_become_7 (l : Launch) (D : va_G) (cI cB cJ cS : ClassId) (h0 : Nat) (g1 : Nat) (a_bytes_h0 : Nat) (a_bytes_g1 : Nat) (size_h0 : Int32) (size_g1 : Int32) (n_a_bytes_g1 : Nat) (b_a_bytes_g1 : Nat → Int32) (n_a_bytes_h0 : Nat) (b_a_bytes_h0 : Nat → Int32) (o_0_1 : Int32) (on_nq_0_0 : Nat) (ob_nq_0_0 : Nat → Int32) (mc ms : Nat) (p : Program) (e : Env) (s : State) (m : MethodId) (below : List Frame) (meth : Method) (c : Code) (hr : meth.sig.returnType = (Option.none : Option Jvm.ClassFile.FieldType)) (hnm : meth.name = y_Rw_become.name) : ∀ (k_7 : Nat) (q0_0_7 : Nat) (v2_7 : Int32) (f0_1_7 : Int32) (n3_7 : Nat) (b3_7 : Nat → Int32) (cl_7 sl_7 C_7 S_7 : Nat), F_Rw_become_7 size_g1 n_a_bytes_g1 b_a_bytes_g1  k_7 v2_7 f0_1_7 n3_7 b3_7 = some ((o_0_1, on_nq_0_0, ob_nq_0_0), C_7, S_7) → cl_7 + C_7 ≤ mc → sl_7 + S_7 ≤ ms → J (KxOf p l e { frames := 3, cells := mc, slots := ms, locals := 103 } s m [.ref h0, .ref g1].toArray below meth c D (gT cI cB cJ cS) [(h0, .inr (3, [.ref a_bytes_h0, .int size_h0])), (g1, .inr (3, [.ref a_bytes_g1, .int size_g1])), (a_bytes_g1, .inl (cB, n_a_bytes_g1, .inl b_a_bytes_g1)), (a_bytes_h0, .inl (cB, n_a_bytes_h0, .inl b_a_bytes_h0))] (fun v w => ∃ nq_0_0 : Nat, v = none ∧ w = [(h0, .inr (3, [.ref nq_0_0, .int o_0_1])), (g1, .inr (3, [.ref a_bytes_g1, .int size_g1])), (a_bytes_g1, .inl (cB, n_a_bytes_g1, .inl b_a_bytes_g1)), (nq_0_0, .inl (cB, on_nq_0_0, .inl ob_nq_0_0))]) mc ms) prog_7_method_7_code 3 R_Rw 7 [(2, .int v2_7), (0, .ref h0), (1, .ref g1)] [] [(h0, .inr (3, [.ref q0_0_7, .int f0_1_7])), (g1, .inr (3, [.ref a_bytes_g1, .int size_g1])), (a_bytes_g1, .inl (cB, n_a_bytes_g1, .inl b_a_bytes_g1)), (q0_0_7, .inl (cB, n3_7, .inl b3_7))] cl_7 sl_7 := by
  intro k_7
  induction k_7 with
  | zero => intro q0_0_7 v2_7 f0_1_7 n3_7 b3_7 cl_7 sl_7 C_7 S_7 h; rw [F_Rw_become_7] at h; cases h
  | succ k_7 ih_7 =>
    intro q0_0_7 v2_7 f0_1_7 n3_7 b3_7 cl_7 sl_7 C_7 S_7 h hC hS
    rw [F_Rw_become_7] at h
    refine j_iload_n d_Rw_become_7 rfl 0 rfl ?_
    refine j_aload_n d_Rw_become_8 rfl 2 rfl ?_
    refine j_get ig_Rw rfl 1 rfl 1 (by decide) rfl m_50 rfl d_Rw_become_9 ?_
    refine j_icmp_ge (tgt := 31) d_Rw_become_12 (by decide) (fun c1 => ?_) (fun c1 => ?_)
    · replace h := it_t c1 h
      replace h := lf_s h
      obtain ⟨h, e1, e2⟩ := h
      replace h := Prod.mk.inj h
      obtain ⟨h9, h⟩ := h
      subst h9
      replace h := Prod.mk.inj h
      obtain ⟨h9, h⟩ := h
      subst h9
      subst h
      refine j_widen (cl' := mc) (sl' := ms) (by omega) (by omega) ?_
      exact j_vret (w := [(h0, .inr (3, [.ref q0_0_7, .int f0_1_7])), (g1, .inr (3, [.ref a_bytes_g1, .int size_g1])), (a_bytes_g1, .inl (cB, n_a_bytes_g1, .inl b_a_bytes_g1)), (q0_0_7, .inl (cB, n3_7, .inl b3_7))]) hr d_Rw_become_31 [0, 1, 2, 3] rfl (by decide) ⟨q0_0_7, rfl, rfl⟩
    · replace h := it_f c1 h
      refine j_aload_n d_Rw_become_15 rfl 1 rfl ?_
      refine j_aload_n d_Rw_become_16 rfl 2 rfl ?_
      refine j_iload_n d_Rw_become_17 rfl 0 rfl ?_
      replace h := bd_s h
      obtain ⟨r2, k3, h⟩ := h
      refine j_callV (n := 1) (As := [.int v2_7]) (rest := [.ref h0]) (wr := [(h0, .inr (3, [.ref q0_0_7, .int f0_1_7])), (q0_0_7, .inl (cB, n3_7, .inl b3_7))]) (c_Rw_at l D cI cB cJ cS g1 a_bytes_g1 v2_7 size_g1 n_a_bytes_g1 b_a_bytes_g1  r2 k3) k_Rw_30 (by decide) ⟨Nat.le_of_ble_eq_true rfl, Nat.le_of_ble_eq_true rfl⟩ rfl 0 rfl [1, 2] [0, 3] rfl (by decide) rfl (by decide) (by decide) rfl rfl (Nat.le_of_ble_eq_true rfl) d_Rw_become_18 ⟨show cl_7 + 0 ≤ mc by omega, show sl_7 + 0 ≤ ms by omega⟩ (fun v w hq => ?_)
      obtain ⟨rfl, rfl⟩ := hq
      refine j_norm (pc' := 21) (st' := [.int r2, .ref h0]) (ws' := [(h0, .inr (3, [.ref q0_0_7, .int f0_1_7])), (q0_0_7, .inl (cB, n3_7, .inl b3_7)), (g1, .inr (3, [.ref a_bytes_g1, .int size_g1])), (a_bytes_g1, .inl (cB, n_a_bytes_g1, .inl b_a_bytes_g1))]) (cl' := cl_7) (sl' := sl_7) rfl rfl rfl rfl rfl rfl ?_
      replace h := bw_s h
      obtain ⟨⟨r4, r5, r6, r7⟩, C10, S11, C12, S13, k14, h, e1, e2⟩ := h
      replace hC : cl_7 + C10 + C12 ≤ mc := by omega
      replace hS : sl_7 + S11 + S13 ≤ ms := by omega
      clear e1 e2
      refine j_callV (n := 1) (As := [.int r2]) (rest := []) (wr := [(g1, .inr (3, [.ref a_bytes_g1, .int size_g1])), (a_bytes_g1, .inl (cB, n_a_bytes_g1, .inl b_a_bytes_g1))]) (c_Rw_add l D cI cB cJ cS h0 q0_0_7 r2 f0_1_7 n3_7 b3_7  r4 r5 r6 r7 C10 S11 k14) k_Rw_26 (by decide) ⟨Nat.le_of_ble_eq_true rfl, Nat.le_of_ble_eq_true rfl⟩ rfl 0 rfl [0, 1] [2, 3] rfl (by decide) rfl (by decide) (by decide) rfl rfl (Nat.le_of_ble_eq_true rfl) d_Rw_become_21 ⟨show cl_7 + C10 ≤ mc by omega, show sl_7 + S11 ≤ ms by omega⟩ (fun v w hq => ?_)
      obtain ⟨q8, rfl, z9, rfl⟩ := hq
      refine j_norm (pc' := 24) (st' := [.int r4]) (ws' := [(g1, .inr (3, [.ref a_bytes_g1, .int size_g1])), (a_bytes_g1, .inl (cB, n_a_bytes_g1, .inl b_a_bytes_g1)), (h0, .inr (3, [.ref q8, .int r5])), (q8, .inl (cB, r6, .inl r7))]) (cl' := cl_7 + C10) (sl' := sl_7 + S11) rfl rfl rfl rfl rfl rfl ?_
      refine j_pop rfl d_Rw_become_24 ?_
      refine j_iinc (v := v2_7 + 1) (lv' := [(2, .int (v2_7 + 1)), (0, .ref h0), (1, .ref g1)]) d_Rw_become_25 0 rfl rfl (by decide) rfl ?_
      refine j_goto (tgt := 7) d_Rw_become_28 (by decide) ?_
      refine j_sub (w := [(h0, .inr (3, [.ref q8, .int r5])), (g1, .inr (3, [.ref a_bytes_g1, .int size_g1])), (a_bytes_g1, .inl (cB, n_a_bytes_g1, .inl b_a_bytes_g1)), (q8, .inl (cB, r6, .inl r7))]) (lv' := [(2, .int (v2_7 + 1)), (0, .ref h0), (1, .ref g1)]) [2, 0, 1, 3] rfl (by decide) [0, 1, 2] rfl ?_
      exact ih_7 q8 (v2_7 + 1) r5 r6 r7 (cl_7 + C10) (sl_7 + S11) C12 S13 h hC hS
set_option maxHeartbeats 4000000 in
set_option maxRecDepth 100000 in
theorem c_Rw_become (l : Launch) (D : va_G) (cI cB cJ cS : ClassId) (h0 : Nat) (g1 : Nat) (a_bytes_h0 : Nat) (a_bytes_g1 : Nat) (size_h0 : Int32) (size_g1 : Int32) (n_a_bytes_g1 : Nat) (b_a_bytes_g1 : Nat → Int32) (n_a_bytes_h0 : Nat) (b_a_bytes_h0 : Nat → Int32) (o_0_1 : Int32) (on_nq_0_0 : Nat) (ob_nq_0_0 : Nat → Int32) (mc ms : Nat) (h : F_Rw_become size_h0 size_g1 n_a_bytes_g1 b_a_bytes_g1 n_a_bytes_h0 b_a_bytes_h0 = some ((o_0_1, on_nq_0_0, ob_nq_0_0), mc, ms)) : Ct l D (gT cI cB cJ cS) y_Rw_become prog_7_method_7_code 3 (Option.none : Option Jvm.ClassFile.FieldType) 3 103 mc ms [.ref h0, .ref g1] [(h0, .inr (3, [.ref a_bytes_h0, .int size_h0])), (g1, .inr (3, [.ref a_bytes_g1, .int size_g1])), (a_bytes_g1, .inl (cB, n_a_bytes_g1, .inl b_a_bytes_g1)), (a_bytes_h0, .inl (cB, n_a_bytes_h0, .inl b_a_bytes_h0))] (fun v w => ∃ nq_0_0 : Nat, v = none ∧ w = [(h0, .inr (3, [.ref nq_0_0, .int o_0_1])), (g1, .inr (3, [.ref a_bytes_g1, .int size_g1])), (a_bytes_g1, .inl (cB, n_a_bytes_g1, .inl b_a_bytes_g1)), (nq_0_0, .inl (cB, on_nq_0_0, .inl ob_nq_0_0))]) := by
  refine Ct.mk (by decide) (Nat.le_of_ble_eq_true rfl) ?_
  intro p e s m below meth c hr hnm
  refine j_norm (pc' := 0) (lv' := [(0, .ref h0), (1, .ref g1)]) (st' := []) (ws' := [(h0, .inr (3, [.ref a_bytes_h0, .int size_h0])), (g1, .inr (3, [.ref a_bytes_g1, .int size_g1])), (a_bytes_g1, .inl (cB, n_a_bytes_g1, .inl b_a_bytes_g1)), (a_bytes_h0, .inl (cB, n_a_bytes_h0, .inl b_a_bytes_h0))]) (cl' := 0) (sl' := 0) rfl rfl rfl rfl rfl rfl ?_
  unfold F_Rw_become at h
  have hC : 0 + mc ≤ mc := by omega
  have hS : 0 + ms ≤ ms := by omega
  refine j_aload_n d_Rw_become_0 rfl 0 rfl ?_
  refine j_iconst (v := 0) d_Rw_become_1 (by decide) ?_
  refine j_put (ws' := [(h0, .inr (3, [.ref a_bytes_h0, .int 0])), (g1, .inr (3, [.ref a_bytes_g1, .int size_g1])), (a_bytes_g1, .inl (cB, n_a_bytes_g1, .inl b_a_bytes_g1)), (a_bytes_h0, .inl (cB, n_a_bytes_h0, .inl b_a_bytes_h0))]) ig_Rw tk_Rw nm_Rw rfl 0 rfl 1 (by decide) rfl m_50 rfl (tk_Rw 1 (by decide)) rfl rfl (Nat.le_of_ble_eq_true rfl) d_Rw_become_2 rfl ?_
  refine j_iconst (v := 0) d_Rw_become_5 (by decide) ?_
  refine j_istore_n (lv' := [(2, .int 0), (0, .ref h0), (1, .ref g1)]) d_Rw_become_6 rfl (by decide) rfl ?_
  refine j_sub (w := [(h0, .inr (3, [.ref a_bytes_h0, .int 0])), (g1, .inr (3, [.ref a_bytes_g1, .int size_g1])), (a_bytes_g1, .inl (cB, n_a_bytes_g1, .inl b_a_bytes_g1)), (a_bytes_h0, .inl (cB, n_a_bytes_h0, .inl b_a_bytes_h0))]) (lv' := [(2, .int 0), (0, .ref h0), (1, .ref g1)]) [0, 1, 2, 3] rfl (by decide) [0, 1, 2] rfl ?_
  exact L_Rw_become_7 l D cI cB cJ cS h0 g1 a_bytes_h0 a_bytes_g1 size_h0 size_g1 n_a_bytes_g1 b_a_bytes_g1 n_a_bytes_h0 b_a_bytes_h0 o_0_1 on_nq_0_0 ob_nq_0_0 mc ms p e s m below meth c hr hnm FU a_bytes_h0 0 0 n_a_bytes_h0 b_a_bytes_h0 0 0 mc ms h hC hS
noncomputable def F_Tk_add_49 (p1 : Int32) (p2 : Int32) (p3 : Int32) (count_h0 : Int32) (n1_49 : Nat) (b1_49 : Nat → Int32) : Option ((Int32 × Nat × (Nat → Int32)) × Nat × Nat) :=
    inb ((count_h0 * 4) + 0) n1_49 (inb ((count_h0 * 4) + 1) n1_49 (inb ((count_h0 * 4) + 2) n1_49 (inb ((count_h0 * 4) + 3) n1_49 (some ((count_h0 + 1, n1_49, upd (upd (upd (upd b1_49 (Int32.toNatClampNeg ((count_h0 * 4) + 0)) p1) (Int32.toNatClampNeg ((count_h0 * 4) + 1)) p2) (Int32.toNatClampNeg ((count_h0 * 4) + 2)) (-1)) (Int32.toNatClampNeg ((count_h0 * 4) + 3)) p3), 0, 0)))))
noncomputable def F_Tk_add (p1 : Int32) (p2 : Int32) (p3 : Int32) (count_h0 : Int32) (n_a_cells_h0 : Nat) (b_a_cells_h0 : Nat → Int32) : Option ((Int32 × Nat × (Nat → Int32)) × Nat × Nat) :=
  if count_h0 < 16384 then (if ((count_h0 * 4) + 4) ≤ (nI n_a_cells_h0) then (F_Tk_add_49 p1 p2 p3 count_h0   n_a_cells_h0 b_a_cells_h0)
    else (bw (F_JA_copyOf2 (2 * (nI n_a_cells_h0)) n_a_cells_h0 b_a_cells_h0) fun _ =>
      F_Tk_add_49 p1 p2 p3 count_h0   (Int32.toNatClampNeg (2 * (nI n_a_cells_h0))) (va_cpy b_a_cells_h0 (fun _ => 0) (Int32.toNatClampNeg 0) (Int32.toNatClampNeg 0) (Int32.toNatClampNeg (mn (nI n_a_cells_h0) (2 * (nI n_a_cells_h0)))))))
  else (some ((count_h0, n_a_cells_h0, b_a_cells_h0), 0, 0))
theorem d_Tk_add_0 : decode prog_9_method_4_code 0 = .ok (.aload_n 0, 1) := by decide +kernel
theorem d_Tk_add_1 : decode prog_9_method_4_code 1 = .ok (.getfield 15, 3) := by decide +kernel
theorem d_Tk_add_4 : decode prog_9_method_4_code 4 = .ok (.sipush 16384, 3) := by decide +kernel
theorem d_Tk_add_7 : decode prog_9_method_4_code 7 = .ok (.if_icmp .lt 4, 3) := by decide +kernel
theorem d_Tk_add_10 : decode prog_9_method_4_code 10 = .ok (.return_, 1) := by decide +kernel
theorem d_Tk_add_11 : decode prog_9_method_4_code 11 = .ok (.aload_n 0, 1) := by decide +kernel
theorem d_Tk_add_12 : decode prog_9_method_4_code 12 = .ok (.getfield 15, 3) := by decide +kernel
theorem d_Tk_add_15 : decode prog_9_method_4_code 15 = .ok (.iconst 4, 1) := by decide +kernel
theorem d_Tk_add_16 : decode prog_9_method_4_code 16 = .ok (.imul, 1) := by decide +kernel
theorem d_Tk_add_17 : decode prog_9_method_4_code 17 = .ok (.istore 4, 2) := by decide +kernel
theorem d_Tk_add_19 : decode prog_9_method_4_code 19 = .ok (.iload 4, 2) := by decide +kernel
theorem d_Tk_add_21 : decode prog_9_method_4_code 21 = .ok (.iconst 4, 1) := by decide +kernel
theorem d_Tk_add_22 : decode prog_9_method_4_code 22 = .ok (.iadd, 1) := by decide +kernel
theorem d_Tk_add_23 : decode prog_9_method_4_code 23 = .ok (.aload_n 0, 1) := by decide +kernel
theorem d_Tk_add_24 : decode prog_9_method_4_code 24 = .ok (.getfield 11, 3) := by decide +kernel
theorem d_Tk_add_27 : decode prog_9_method_4_code 27 = .ok (.arraylength, 1) := by decide +kernel
theorem d_Tk_add_28 : decode prog_9_method_4_code 28 = .ok (.if_icmp .le 21, 3) := by decide +kernel
theorem d_Tk_add_31 : decode prog_9_method_4_code 31 = .ok (.aload_n 0, 1) := by decide +kernel
theorem d_Tk_add_32 : decode prog_9_method_4_code 32 = .ok (.aload_n 0, 1) := by decide +kernel
theorem d_Tk_add_33 : decode prog_9_method_4_code 33 = .ok (.getfield 11, 3) := by decide +kernel
theorem d_Tk_add_36 : decode prog_9_method_4_code 36 = .ok (.iconst 2, 1) := by decide +kernel
theorem d_Tk_add_37 : decode prog_9_method_4_code 37 = .ok (.aload_n 0, 1) := by decide +kernel
theorem d_Tk_add_38 : decode prog_9_method_4_code 38 = .ok (.getfield 11, 3) := by decide +kernel
theorem d_Tk_add_41 : decode prog_9_method_4_code 41 = .ok (.arraylength, 1) := by decide +kernel
theorem d_Tk_add_42 : decode prog_9_method_4_code 42 = .ok (.imul, 1) := by decide +kernel
theorem d_Tk_add_43 : decode prog_9_method_4_code 43 = .ok (.invokestatic 19, 3) := by decide +kernel
theorem d_Tk_add_46 : decode prog_9_method_4_code 46 = .ok (.putfield 11, 3) := by decide +kernel
theorem d_Tk_add_49 : decode prog_9_method_4_code 49 = .ok (.aload_n 0, 1) := by decide +kernel
theorem d_Tk_add_50 : decode prog_9_method_4_code 50 = .ok (.getfield 11, 3) := by decide +kernel
theorem d_Tk_add_53 : decode prog_9_method_4_code 53 = .ok (.iload 4, 2) := by decide +kernel
theorem d_Tk_add_55 : decode prog_9_method_4_code 55 = .ok (.iconst 0, 1) := by decide +kernel
theorem d_Tk_add_56 : decode prog_9_method_4_code 56 = .ok (.iadd, 1) := by decide +kernel
theorem d_Tk_add_57 : decode prog_9_method_4_code 57 = .ok (.iload_n 1, 1) := by decide +kernel
theorem d_Tk_add_58 : decode prog_9_method_4_code 58 = .ok (.iastore, 1) := by decide +kernel
theorem d_Tk_add_59 : decode prog_9_method_4_code 59 = .ok (.aload_n 0, 1) := by decide +kernel
theorem d_Tk_add_60 : decode prog_9_method_4_code 60 = .ok (.getfield 11, 3) := by decide +kernel
theorem d_Tk_add_63 : decode prog_9_method_4_code 63 = .ok (.iload 4, 2) := by decide +kernel
theorem d_Tk_add_65 : decode prog_9_method_4_code 65 = .ok (.iconst 1, 1) := by decide +kernel
theorem d_Tk_add_66 : decode prog_9_method_4_code 66 = .ok (.iadd, 1) := by decide +kernel
theorem d_Tk_add_67 : decode prog_9_method_4_code 67 = .ok (.iload_n 2, 1) := by decide +kernel
theorem d_Tk_add_68 : decode prog_9_method_4_code 68 = .ok (.iastore, 1) := by decide +kernel
theorem d_Tk_add_69 : decode prog_9_method_4_code 69 = .ok (.aload_n 0, 1) := by decide +kernel
theorem d_Tk_add_70 : decode prog_9_method_4_code 70 = .ok (.getfield 11, 3) := by decide +kernel
theorem d_Tk_add_73 : decode prog_9_method_4_code 73 = .ok (.iload 4, 2) := by decide +kernel
theorem d_Tk_add_75 : decode prog_9_method_4_code 75 = .ok (.iconst 2, 1) := by decide +kernel
theorem d_Tk_add_76 : decode prog_9_method_4_code 76 = .ok (.iadd, 1) := by decide +kernel
theorem d_Tk_add_77 : decode prog_9_method_4_code 77 = .ok (.iconst (-1), 1) := by decide +kernel
theorem d_Tk_add_78 : decode prog_9_method_4_code 78 = .ok (.iastore, 1) := by decide +kernel
theorem d_Tk_add_79 : decode prog_9_method_4_code 79 = .ok (.aload_n 0, 1) := by decide +kernel
theorem d_Tk_add_80 : decode prog_9_method_4_code 80 = .ok (.getfield 11, 3) := by decide +kernel
theorem d_Tk_add_83 : decode prog_9_method_4_code 83 = .ok (.iload 4, 2) := by decide +kernel
theorem d_Tk_add_85 : decode prog_9_method_4_code 85 = .ok (.iconst 3, 1) := by decide +kernel
theorem d_Tk_add_86 : decode prog_9_method_4_code 86 = .ok (.iadd, 1) := by decide +kernel
theorem d_Tk_add_87 : decode prog_9_method_4_code 87 = .ok (.iload_n 3, 1) := by decide +kernel
theorem d_Tk_add_88 : decode prog_9_method_4_code 88 = .ok (.iastore, 1) := by decide +kernel
theorem d_Tk_add_89 : decode prog_9_method_4_code 89 = .ok (.aload_n 0, 1) := by decide +kernel
theorem d_Tk_add_90 : decode prog_9_method_4_code 90 = .ok (.dup, 1) := by decide +kernel
theorem d_Tk_add_91 : decode prog_9_method_4_code 91 = .ok (.getfield 15, 3) := by decide +kernel
theorem d_Tk_add_94 : decode prog_9_method_4_code 94 = .ok (.iconst 1, 1) := by decide +kernel
theorem d_Tk_add_95 : decode prog_9_method_4_code 95 = .ok (.iadd, 1) := by decide +kernel
theorem d_Tk_add_96 : decode prog_9_method_4_code 96 = .ok (.putfield 15, 3) := by decide +kernel
theorem d_Tk_add_99 : decode prog_9_method_4_code 99 = .ok (.return_, 1) := by decide +kernel
set_option maxHeartbeats 4000000 in
set_option maxRecDepth 100000 in
theorem L_Tk_add_49 (l : Launch) (D : va_G) (cI cB cJ cS : ClassId) (h0 : Nat) (a_cells_h0 : Nat) (p1 : Int32) (p2 : Int32) (p3 : Int32) (count_h0 : Int32) (n_a_cells_h0 : Nat) (b_a_cells_h0 : Nat → Int32) (o_0_1 : Int32) (on_nq_0_0 : Nat) (ob_nq_0_0 : Nat → Int32) (mc ms : Nat) (p : Program) (e : Env) (s : State) (m : MethodId) (below : List Frame) (meth : Method) (c : Code) (hr : meth.sig.returnType = (Option.none : Option Jvm.ClassFile.FieldType)) (hnm : meth.name = y_Tk_add.name) : ∀ (q0_0_49 : Nat) (n1_49 : Nat) (b1_49 : Nat → Int32) (cl_49 sl_49 C_49 S_49 : Nat), F_Tk_add_49 p1 p2 p3 count_h0   n1_49 b1_49 = some ((o_0_1, on_nq_0_0, ob_nq_0_0), C_49, S_49) → cl_49 + C_49 ≤ mc → sl_49 + S_49 ≤ ms → J (KxOf p l e { frames := 2, cells := mc, slots := ms, locals := 82 } s m [.ref h0, .int p1, .int p2, .int p3].toArray below meth c D (gT cI cB cJ cS) [(h0, .inr (5, [.ref a_cells_h0, .int count_h0])), (a_cells_h0, .inl (cI, n_a_cells_h0, .inl b_a_cells_h0))] (fun v w => ∃ nq_0_0 : Nat, v = none ∧ w = [(h0, .inr (5, [.ref nq_0_0, .int o_0_1])), (nq_0_0, .inl (cI, on_nq_0_0, .inl ob_nq_0_0))]) mc ms) prog_9_method_4_code 5 R_Tk 49 [(4, .int (count_h0 * 4)), (0, .ref h0), (1, .int p1), (2, .int p2), (3, .int p3)] [] [(h0, .inr (5, [.ref q0_0_49, .int count_h0])), (q0_0_49, .inl (cI, n1_49, .inl b1_49))] cl_49 sl_49 := by
  intro q0_0_49 n1_49 b1_49 cl_49 sl_49 C_49 S_49 h hC hS
  unfold F_Tk_add_49 at h
  refine j_aload_n d_Tk_add_49 rfl 1 rfl ?_
  refine j_get ig_Tk rfl 0 rfl 0 (by decide) rfl m_93 rfl d_Tk_add_50 ?_
  refine j_iload d_Tk_add_53 0 rfl ?_
  refine j_iconst (v := 0) d_Tk_add_55 (by decide) ?_
  refine j_iadd d_Tk_add_56 ?_
  refine j_iload_n d_Tk_add_57 rfl 2 rfl ?_
  replace h := inb_s h
  obtain ⟨i1, h⟩ := h
  refine j_iast (t0 := 0) (ws' := [(h0, .inr (5, [.ref q0_0_49, .int count_h0])), (q0_0_49, .inl (cI, n1_49, .inl (upd b1_49 (Int32.toNatClampNeg ((count_h0 * 4) + 0)) p1)))]) 1 rfl rfl i1 d_Tk_add_58 rfl ?_
  refine j_aload_n d_Tk_add_59 rfl 1 rfl ?_
  refine j_get ig_Tk rfl 0 rfl 0 (by decide) rfl m_93 rfl d_Tk_add_60 ?_
  refine j_iload d_Tk_add_63 0 rfl ?_
  refine j_iconst (v := 1) d_Tk_add_65 (by decide) ?_
  refine j_iadd d_Tk_add_66 ?_
  refine j_iload_n d_Tk_add_67 rfl 3 rfl ?_
  replace h := inb_s h
  obtain ⟨i2, h⟩ := h
  refine j_iast (t0 := 0) (ws' := [(h0, .inr (5, [.ref q0_0_49, .int count_h0])), (q0_0_49, .inl (cI, n1_49, .inl (upd (upd b1_49 (Int32.toNatClampNeg ((count_h0 * 4) + 0)) p1) (Int32.toNatClampNeg ((count_h0 * 4) + 1)) p2)))]) 1 rfl rfl i2 d_Tk_add_68 rfl ?_
  refine j_aload_n d_Tk_add_69 rfl 1 rfl ?_
  refine j_get ig_Tk rfl 0 rfl 0 (by decide) rfl m_93 rfl d_Tk_add_70 ?_
  refine j_iload d_Tk_add_73 0 rfl ?_
  refine j_iconst (v := 2) d_Tk_add_75 (by decide) ?_
  refine j_iadd d_Tk_add_76 ?_
  refine j_iconst (v := (-1)) d_Tk_add_77 (by decide) ?_
  replace h := inb_s h
  obtain ⟨i3, h⟩ := h
  refine j_iast (t0 := 0) (ws' := [(h0, .inr (5, [.ref q0_0_49, .int count_h0])), (q0_0_49, .inl (cI, n1_49, .inl (upd (upd (upd b1_49 (Int32.toNatClampNeg ((count_h0 * 4) + 0)) p1) (Int32.toNatClampNeg ((count_h0 * 4) + 1)) p2) (Int32.toNatClampNeg ((count_h0 * 4) + 2)) (-1))))]) 1 rfl rfl i3 d_Tk_add_78 rfl ?_
  refine j_aload_n d_Tk_add_79 rfl 1 rfl ?_
  refine j_get ig_Tk rfl 0 rfl 0 (by decide) rfl m_93 rfl d_Tk_add_80 ?_
  refine j_iload d_Tk_add_83 0 rfl ?_
  refine j_iconst (v := 3) d_Tk_add_85 (by decide) ?_
  refine j_iadd d_Tk_add_86 ?_
  refine j_iload_n d_Tk_add_87 rfl 4 rfl ?_
  replace h := inb_s h
  obtain ⟨i4, h⟩ := h
  refine j_iast (t0 := 0) (ws' := [(h0, .inr (5, [.ref q0_0_49, .int count_h0])), (q0_0_49, .inl (cI, n1_49, .inl (upd (upd (upd (upd b1_49 (Int32.toNatClampNeg ((count_h0 * 4) + 0)) p1) (Int32.toNatClampNeg ((count_h0 * 4) + 1)) p2) (Int32.toNatClampNeg ((count_h0 * 4) + 2)) (-1)) (Int32.toNatClampNeg ((count_h0 * 4) + 3)) p3)))]) 1 rfl rfl i4 d_Tk_add_88 rfl ?_
  refine j_aload_n d_Tk_add_89 rfl 1 rfl ?_
  refine j_dup rfl d_Tk_add_90 ?_
  refine j_get ig_Tk rfl 0 rfl 1 (by decide) rfl m_94 rfl d_Tk_add_91 ?_
  refine j_iconst (v := 1) d_Tk_add_94 (by decide) ?_
  refine j_iadd d_Tk_add_95 ?_
  refine j_put (ws' := [(h0, .inr (5, [.ref q0_0_49, .int (count_h0 + 1)])), (q0_0_49, .inl (cI, n1_49, .inl (upd (upd (upd (upd b1_49 (Int32.toNatClampNeg ((count_h0 * 4) + 0)) p1) (Int32.toNatClampNeg ((count_h0 * 4) + 1)) p2) (Int32.toNatClampNeg ((count_h0 * 4) + 2)) (-1)) (Int32.toNatClampNeg ((count_h0 * 4) + 3)) p3)))]) ig_Tk tk_Tk nm_Tk rfl 0 rfl 1 (by decide) rfl m_94 rfl (tk_Tk 1 (by decide)) rfl rfl (Nat.le_of_ble_eq_true rfl) d_Tk_add_96 rfl ?_
  replace h := lf_s h
  obtain ⟨h, e1, e2⟩ := h
  replace h := Prod.mk.inj h
  obtain ⟨h9, h⟩ := h
  subst h9
  replace h := Prod.mk.inj h
  obtain ⟨h9, h⟩ := h
  subst h9
  subst h
  refine j_widen (cl' := mc) (sl' := ms) (by omega) (by omega) ?_
  exact j_vret (w := [(h0, .inr (5, [.ref q0_0_49, .int (count_h0 + 1)])), (q0_0_49, .inl (cI, n1_49, .inl (upd (upd (upd (upd b1_49 (Int32.toNatClampNeg ((count_h0 * 4) + 0)) p1) (Int32.toNatClampNeg ((count_h0 * 4) + 1)) p2) (Int32.toNatClampNeg ((count_h0 * 4) + 2)) (-1)) (Int32.toNatClampNeg ((count_h0 * 4) + 3)) p3)))]) hr d_Tk_add_99 [0, 1] rfl (by decide) ⟨q0_0_49, rfl, rfl⟩
set_option maxHeartbeats 4000000 in
set_option maxRecDepth 100000 in
theorem c_Tk_add (l : Launch) (D : va_G) (cI cB cJ cS : ClassId) (h0 : Nat) (a_cells_h0 : Nat) (p1 : Int32) (p2 : Int32) (p3 : Int32) (count_h0 : Int32) (n_a_cells_h0 : Nat) (b_a_cells_h0 : Nat → Int32) (o_0_1 : Int32) (on_nq_0_0 : Nat) (ob_nq_0_0 : Nat → Int32) (mc ms : Nat) (h : F_Tk_add p1 p2 p3 count_h0 n_a_cells_h0 b_a_cells_h0 = some ((o_0_1, on_nq_0_0, ob_nq_0_0), mc, ms)) : Ct l D (gT cI cB cJ cS) y_Tk_add prog_9_method_4_code 5 (Option.none : Option Jvm.ClassFile.FieldType) 2 82 mc ms [.ref h0, .int p1, .int p2, .int p3] [(h0, .inr (5, [.ref a_cells_h0, .int count_h0])), (a_cells_h0, .inl (cI, n_a_cells_h0, .inl b_a_cells_h0))] (fun v w => ∃ nq_0_0 : Nat, v = none ∧ w = [(h0, .inr (5, [.ref nq_0_0, .int o_0_1])), (nq_0_0, .inl (cI, on_nq_0_0, .inl ob_nq_0_0))]) := by
  refine Ct.mk (by decide) (Nat.le_of_ble_eq_true rfl) ?_
  intro p e s m below meth c hr hnm
  refine j_norm (pc' := 0) (lv' := [(0, .ref h0), (1, .int p1), (2, .int p2), (3, .int p3)]) (st' := []) (ws' := [(h0, .inr (5, [.ref a_cells_h0, .int count_h0])), (a_cells_h0, .inl (cI, n_a_cells_h0, .inl b_a_cells_h0))]) (cl' := 0) (sl' := 0) rfl rfl rfl rfl rfl rfl ?_
  unfold F_Tk_add at h
  have hC : 0 + mc ≤ mc := by omega
  have hS : 0 + ms ≤ ms := by omega
  refine j_aload_n d_Tk_add_0 rfl 0 rfl ?_
  refine j_get ig_Tk rfl 0 rfl 1 (by decide) rfl m_94 rfl d_Tk_add_1 ?_
  refine j_sipush (v := 16384) d_Tk_add_4 (by decide) ?_
  refine j_icmp_lt (tgt := 11) d_Tk_add_7 (by decide) (fun c5 => ?_) (fun c5 => ?_)
  · replace h := it_t c5 h
    refine j_aload_n d_Tk_add_11 rfl 0 rfl ?_
    refine j_get ig_Tk rfl 0 rfl 1 (by decide) rfl m_94 rfl d_Tk_add_12 ?_
    refine j_iconst (v := 4) d_Tk_add_15 (by decide) ?_
    refine j_imul d_Tk_add_16 ?_
    refine j_istore (lv' := [(4, .int (count_h0 * 4)), (0, .ref h0), (1, .int p1), (2, .int p2), (3, .int p3)]) d_Tk_add_17 (by decide) rfl ?_
    refine j_iload d_Tk_add_19 0 rfl ?_
    refine j_iconst (v := 4) d_Tk_add_21 (by decide) ?_
    refine j_iadd d_Tk_add_22 ?_
    refine j_aload_n d_Tk_add_23 rfl 1 rfl ?_
    refine j_get ig_Tk rfl 0 rfl 0 (by decide) rfl m_93 rfl d_Tk_add_24 ?_
    refine j_alen (t0 := 0) 1 rfl rfl rfl d_Tk_add_27 ?_
    refine j_icmp_le (tgt := 49) d_Tk_add_28 (by decide) (fun c6 => ?_) (fun c6 => ?_)
    · replace h := it_t c6 h
      refine j_sub (w := [(h0, .inr (5, [.ref a_cells_h0, .int count_h0])), (a_cells_h0, .inl (cI, n_a_cells_h0, .inl b_a_cells_h0))]) (lv' := [(4, .int (count_h0 * 4)), (0, .ref h0), (1, .int p1), (2, .int p2), (3, .int p3)]) [0, 1] rfl (by decide) [0, 1, 2, 3, 4] rfl ?_
      exact L_Tk_add_49 l D cI cB cJ cS h0 a_cells_h0 p1 p2 p3 count_h0 n_a_cells_h0 b_a_cells_h0 o_0_1 on_nq_0_0 ob_nq_0_0 mc ms p e s m below meth c hr hnm a_cells_h0 n_a_cells_h0 b_a_cells_h0 0 0 mc ms h hC hS
    · replace h := it_f c6 h
      refine j_aload_n d_Tk_add_31 rfl 1 rfl ?_
      refine j_aload_n d_Tk_add_32 rfl 1 rfl ?_
      refine j_get ig_Tk rfl 0 rfl 0 (by decide) rfl m_93 rfl d_Tk_add_33 ?_
      refine j_iconst (v := 2) d_Tk_add_36 (by decide) ?_
      refine j_aload_n d_Tk_add_37 rfl 1 rfl ?_
      refine j_get ig_Tk rfl 0 rfl 0 (by decide) rfl m_93 rfl d_Tk_add_38 ?_
      refine j_alen (t0 := 0) 1 rfl rfl rfl d_Tk_add_41 ?_
      refine j_imul d_Tk_add_42 ?_
      replace h := bw_s h
      obtain ⟨_, C8, S9, C10, S11, k12, h, e1, e2⟩ := h
      replace hC : 0 + C8 + C10 ≤ mc := by omega
      replace hS : 0 + S9 + S11 ≤ ms := by omega
      clear e1 e2
      refine j_callS (n := 2) (As := [.ref a_cells_h0, .int (2 * (nI n_a_cells_h0))]) (rest := [.ref h0]) (wr := [(h0, .inr (5, [.ref a_cells_h0, .int count_h0]))]) (c_JA_copyOf2 l D cI cB cJ cS a_cells_h0 (2 * (nI n_a_cells_h0)) n_a_cells_h0 b_a_cells_h0  C8 S9 k12) k_Tk_19 (by decide) ⟨Nat.le_of_ble_eq_true rfl, Nat.le_of_ble_eq_true rfl⟩ [1] [0] rfl (by decide) rfl (by decide) (by decide) rfl rfl (Nat.le_of_ble_eq_true rfl) d_Tk_add_43 ⟨show 0 + C8 ≤ mc by omega, show 0 + S9 ≤ ms by omega⟩ (fun v w hq => ?_)
      obtain ⟨q7, rfl, rfl⟩ := hq
      refine j_norm (pc' := 46) (st' := [.ref q7, .ref h0]) (ws' := [(h0, .inr (5, [.ref a_cells_h0, .int count_h0])), (a_cells_h0, .inl (cI, n_a_cells_h0, .inl b_a_cells_h0)), (q7, .inl (cI, (Int32.toNatClampNeg (2 * (nI n_a_cells_h0))), .inl (va_cpy b_a_cells_h0 (fun _ => 0) (Int32.toNatClampNeg 0) (Int32.toNatClampNeg 0) (Int32.toNatClampNeg (mn (nI n_a_cells_h0) (2 * (nI n_a_cells_h0)))))))]) (cl' := 0 + C8) (sl' := 0 + S9) rfl rfl rfl rfl rfl rfl ?_
      refine j_put (ws' := [(h0, .inr (5, [.ref q7, .int count_h0])), (a_cells_h0, .inl (cI, n_a_cells_h0, .inl b_a_cells_h0)), (q7, .inl (cI, (Int32.toNatClampNeg (2 * (nI n_a_cells_h0))), .inl (va_cpy b_a_cells_h0 (fun _ => 0) (Int32.toNatClampNeg 0) (Int32.toNatClampNeg 0) (Int32.toNatClampNeg (mn (nI n_a_cells_h0) (2 * (nI n_a_cells_h0)))))))]) ig_Tk tk_Tk nm_Tk rfl 0 rfl 0 (by decide) rfl m_93 rfl (tk_Tk 0 (by decide)) rfl rfl (Nat.le_of_ble_eq_true rfl) d_Tk_add_46 rfl ?_
      refine j_sub (w := [(h0, .inr (5, [.ref q7, .int count_h0])), (q7, .inl (cI, (Int32.toNatClampNeg (2 * (nI n_a_cells_h0))), .inl (va_cpy b_a_cells_h0 (fun _ => 0) (Int32.toNatClampNeg 0) (Int32.toNatClampNeg 0) (Int32.toNatClampNeg (mn (nI n_a_cells_h0) (2 * (nI n_a_cells_h0)))))))]) (lv' := [(4, .int (count_h0 * 4)), (0, .ref h0), (1, .int p1), (2, .int p2), (3, .int p3)]) [0, 2] rfl (by decide) [0, 1, 2, 3, 4] rfl ?_
      exact L_Tk_add_49 l D cI cB cJ cS h0 a_cells_h0 p1 p2 p3 count_h0 n_a_cells_h0 b_a_cells_h0 o_0_1 on_nq_0_0 ob_nq_0_0 mc ms p e s m below meth c hr hnm q7 (Int32.toNatClampNeg (2 * (nI n_a_cells_h0))) (va_cpy b_a_cells_h0 (fun _ => 0) (Int32.toNatClampNeg 0) (Int32.toNatClampNeg 0) (Int32.toNatClampNeg (mn (nI n_a_cells_h0) (2 * (nI n_a_cells_h0))))) (0 + C8) (0 + S9) C10 S11 h hC hS
  · replace h := it_f c5 h
    replace h := lf_s h
    obtain ⟨h, e1, e2⟩ := h
    replace h := Prod.mk.inj h
    obtain ⟨h9, h⟩ := h
    subst h9
    replace h := Prod.mk.inj h
    obtain ⟨h9, h⟩ := h
    subst h9
    subst h
    refine j_widen (cl' := mc) (sl' := ms) (by omega) (by omega) ?_
    exact j_vret (w := [(h0, .inr (5, [.ref a_cells_h0, .int count_h0])), (a_cells_h0, .inl (cI, n_a_cells_h0, .inl b_a_cells_h0))]) hr d_Tk_add_10 [0, 1] rfl (by decide) ⟨a_cells_h0, rfl, rfl⟩
