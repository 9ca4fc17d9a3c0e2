set_option maxRecDepth 20000 in
theorem m_1629 : Cond.fieldLink R_JS 9 R_JS "value" "[B" ∈ gG := gG_in (List.mem_append_right _ (List.mem_of_getElem? (i := 1629) (by decide +kernel))) rfl
set_option maxRecDepth 20000 in
theorem m_1630 : Cond.fieldLink R_JS 15 R_JS "coder" "B" ∈ gG := gG_in (List.mem_append_right _ (List.mem_of_getElem? (i := 1630) (by decide +kernel))) rfl
set_option maxRecDepth 20000 in
theorem m_366 : Cond.fieldLink R_JS 38 R_JS "COMPACT_STRINGS" "Z" ∈ gG := gG_in (List.mem_append_right _ (List.mem_of_getElem? (i := 366) (by decide +kernel))) rfl
set_option maxRecDepth 20000 in
theorem m_382 : Cond.fieldLink R_JS 1053 R_JP "SIOOBE_FORMATTER" "Ljava/util/function/BiFunction;" ∈ gG := gG_in (List.mem_append_right _ (List.mem_of_getElem? (i := 382) (by decide +kernel))) rfl
set_option maxRecDepth 20000 in
theorem mc_JS_coder : Cond.code y_JS_coder prog_19_method_152_code 1 (Option.some Jvm.ClassFile.FieldType.byte) ∈ gG := gG_in (List.mem_append_right _ (List.mem_of_getElem? (i := 365) rfl)) rfl
set_option maxRecDepth 20000 in
theorem m_362 : Cond.methodLink R_JS 335 y_JS_coder ∈ gG := gG_in (List.mem_append_right _ (List.mem_of_getElem? (i := 362) (by decide +kernel))) rfl
set_option maxRecDepth 20000 in
theorem m_363 : Cond.instanceMethod y_JS_coder ∈ gG := gG_in (List.mem_append_right _ (List.mem_of_getElem? (i := 363) (by decide +kernel))) rfl
set_option maxRecDepth 20000 in
theorem m_364 : Cond.selects R_JS y_JS_coder y_JS_coder ∈ gG := gG_in (List.mem_append_right _ (List.mem_of_getElem? (i := 364) (by decide +kernel))) rfl
set_option maxRecDepth 20000 in
theorem m_18 : Cond.initialized R_JS ∈ gG := gG_in (List.mem_append_right _ (List.mem_of_getElem? (i := 18) (by decide +kernel))) rfl
set_option maxRecDepth 20000 in
theorem mc_JP_checkIndex : Cond.code y_JP_checkIndex prog_25_method_11_code 3 (Option.some Jvm.ClassFile.FieldType.int) ∈ gG := gG_in (List.mem_append_right _ (List.mem_of_getElem? (i := 386) rfl)) rfl
set_option maxRecDepth 20000 in
theorem m_384 : Cond.methodLink R_JS 1059 y_JP_checkIndex ∈ gG := gG_in (List.mem_append_right _ (List.mem_of_getElem? (i := 384) (by decide +kernel))) rfl
set_option maxRecDepth 20000 in
theorem m_385 : Cond.static y_JP_checkIndex ∈ gG := gG_in (List.mem_append_right _ (List.mem_of_getElem? (i := 385) (by decide +kernel))) rfl
set_option maxRecDepth 20000 in
theorem m_20 : Cond.initialized R_JP ∈ gG := gG_in (List.mem_append_right _ (List.mem_of_getElem? (i := 20) (by decide +kernel))) rfl
set_option maxRecDepth 20000 in
theorem mc_JS_checkIndex : Cond.code y_JS_checkIndex prog_19_method_155_code 2 (Option.none : Option Jvm.ClassFile.FieldType) ∈ gG := gG_in (List.mem_append_right _ (List.mem_of_getElem? (i := 381) rfl)) rfl
set_option maxRecDepth 20000 in
theorem m_379 : Cond.methodLink R_JL 9 y_JS_checkIndex ∈ gG := gG_in (List.mem_append_right _ (List.mem_of_getElem? (i := 379) (by decide +kernel))) rfl
set_option maxRecDepth 20000 in
theorem m_380 : Cond.static y_JS_checkIndex ∈ gG := gG_in (List.mem_append_right _ (List.mem_of_getElem? (i := 380) (by decide +kernel))) rfl
set_option maxRecDepth 20000 in
theorem mc_JS_isLatin1 : Cond.code y_JS_isLatin1 prog_19_method_154_code 1 (Option.some Jvm.ClassFile.FieldType.boolean) ∈ gG := gG_in (List.mem_append_right _ (List.mem_of_getElem? (i := 375) rfl)) rfl
set_option maxRecDepth 20000 in
theorem m_372 : Cond.methodLink R_JS 492 y_JS_isLatin1 ∈ gG := gG_in (List.mem_append_right _ (List.mem_of_getElem? (i := 372) (by decide +kernel))) rfl
set_option maxRecDepth 20000 in
theorem m_373 : Cond.instanceMethod y_JS_isLatin1 ∈ gG := gG_in (List.mem_append_right _ (List.mem_of_getElem? (i := 373) (by decide +kernel))) rfl
set_option maxRecDepth 20000 in
theorem m_374 : Cond.selects R_JS y_JS_isLatin1 y_JS_isLatin1 ∈ gG := gG_in (List.mem_append_right _ (List.mem_of_getElem? (i := 374) (by decide +kernel))) rfl
set_option maxRecDepth 20000 in
theorem mc_JL_charAt : Cond.code y_JL_charAt prog_20_method_2_code 2 (Option.some Jvm.ClassFile.FieldType.char) ∈ gG := gG_in (List.mem_append_right _ (List.mem_of_getElem? (i := 378) rfl)) rfl
set_option maxRecDepth 20000 in
theorem m_376 : Cond.methodLink R_JS 495 y_JL_charAt ∈ gG := gG_in (List.mem_append_right _ (List.mem_of_getElem? (i := 376) (by decide +kernel))) rfl
set_option maxRecDepth 20000 in
theorem m_377 : Cond.static y_JL_charAt ∈ gG := gG_in (List.mem_append_right _ (List.mem_of_getElem? (i := 377) (by decide +kernel))) rfl
set_option maxRecDepth 20000 in
theorem m_19 : Cond.initialized R_JL ∈ gG := gG_in (List.mem_append_right _ (List.mem_of_getElem? (i := 19) (by decide +kernel))) rfl
theorem k_JS_335 : GoodIn gG (wsV R_JS 335 R_JS y_JS_coder (.code y_JS_coder prog_19_method_152_code 1 (Option.some Jvm.ClassFile.FieldType.byte) :: gG)) := gdV m_362 m_363 m_364 m_18 mc_JS_coder
theorem k_JS_1059 : GoodIn gG (va_wsS R_JS 1059 y_JP_checkIndex (.code y_JP_checkIndex prog_25_method_11_code 3 (Option.some Jvm.ClassFile.FieldType.int) :: gG)) := gdS m_384 m_385 m_20 mc_JP_checkIndex
theorem k_JL_9 : GoodIn gG (va_wsS R_JL 9 y_JS_checkIndex (.code y_JS_checkIndex prog_19_method_155_code 2 (Option.none : Option Jvm.ClassFile.FieldType) :: gG)) := gdS m_379 m_380 m_18 mc_JS_checkIndex
theorem k_JS_492 : GoodIn gG (wsV R_JS 492 R_JS y_JS_isLatin1 (.code y_JS_isLatin1 prog_19_method_154_code 1 (Option.some Jvm.ClassFile.FieldType.boolean) :: gG)) := gdV m_372 m_373 m_374 m_18 mc_JS_isLatin1
theorem k_JS_495 : GoodIn gG (va_wsS R_JS 495 y_JL_charAt (.code y_JL_charAt prog_20_method_2_code 2 (Option.some Jvm.ClassFile.FieldType.char) :: gG)) := gdS m_376 m_377 m_19 mc_JL_charAt
section JStr
variable {p : Program} {l : Launch} {e : Env} {R : Room} {s : State} {m : MethodId} {args : Array Value} {below : List Frame} {meth : Method} {c : Code} {D : va_G} {T : List (ClassId × FieldType)} {A : Nat → Prop} {Q : State → Prop} {cc : ByteArray} {nL : Nat} {own : String} {pc cl sl : Nat} {lv : List (Nat × Value)} {st : List Value} {ws : va_W} {i index : Nat} {E : String × Nat × String × List Int32}
theorem j_ldcS {tx : String} {bs : List Int32} (he : gStr[i]? = some (own, index, tx, bs)) (d : decode cc pc = .ok (.ldc index, 2)) (k : J (p, l, e, R, s, m, args, below, meth, c, D, T, A, Q) cc nL own (pc + 2) lv (.ref (sA D i) :: st) ws cl sl) : J (p, l, e, R, s, m, args, below, meth, c, D, T, A, Q) cc nL own pc lv (st) ws cl sl := by
  intro C H locs ls hP hD hS hl
  exact va_ldcS C.1 C.2.1 C.2.2.2.1 (C.2.2.2.2.2.2.2.2.2.1 i _ he).1 d (k C H locs ls hP hD hS hl)
theorem j_ldcW {tx : String} {bs : List Int32} (he : gStr[i]? = some (own, index, tx, bs)) (d : decode cc pc = .ok (.ldc_w index, 3)) (k : J (p, l, e, R, s, m, args, below, meth, c, D, T, A, Q) cc nL own (pc + 3) lv (.ref (sA D i) :: st) ws cl sl) : J (p, l, e, R, s, m, args, below, meth, c, D, T, A, Q) cc nL own pc lv st ws cl sl := by
  intro C H locs ls hP hD hS hl
  have hZ := (C.2.2.2.2.2.2.2.2.2.1 i _ he).1
  intro T' hT X
  obtain ⟨t, a1, b1⟩ := k C H locs ls hP hD hS hl T' hT X
  exact ⟨t, X.ldcStringW C.1 C.2.2.2.1 (text := tx) (a := sA D i) hZ.1 hZ.2 (g := F0 m pc ls st) rfl (by rw [C.2.1]; exact d) t a1, b1⟩
theorem j_sval (he : gStr[i]? = some E) (hm : Cond.fieldLink own index "java/lang/String" "value" "[B" ∈ gG) (d : decode cc pc = .ok (.getfield index, 3)) (k : J (p, l, e, R, s, m, args, below, meth, c, D, T, A, Q) cc nL own (pc + 3) lv (.ref (sV D i) :: st) ws cl sl) : J (p, l, e, R, s, m, args, below, meth, c, D, T, A, Q) cc nL own pc lv (.ref (sA D i) :: st) ws cl sl := by
  intro C H locs ls hP hD hS hl
  exact vk_getf C.1 C.2.1 (C.2.2.2.2.2.2.2.2.2.1 i _ he).2.2.2.1 hS C.2.2.2.1 (C.2.2.2.2.1 _ hm) (fun _ h => h) d (k C H locs ls hP hD hS hl)
theorem j_scod (he : gStr[i]? = some E) (hm : Cond.fieldLink own index "java/lang/String" "coder" "B" ∈ gG) (d : decode cc pc = .ok (.getfield index, 3)) (k : J (p, l, e, R, s, m, args, below, meth, c, D, T, A, Q) cc nL own (pc + 3) lv (.int 0 :: st) ws cl sl) : J (p, l, e, R, s, m, args, below, meth, c, D, T, A, Q) cc nL own pc lv (.ref (sA D i) :: st) ws cl sl := by
  intro C H locs ls hP hD hS hl
  exact vk_getf C.1 C.2.1 (C.2.2.2.2.2.2.2.2.2.1 i _ he).2.2.1 hS C.2.2.2.1 (C.2.2.2.2.1 _ hm) (fun _ h => h) d (k C H locs ls hP hD hS hl)
theorem j_scmp (hm : Cond.fieldLink own index "java/lang/String" "COMPACT_STRINGS" "Z" ∈ gG) (d : decode cc pc = .ok (.getstatic index, 3)) (k : J (p, l, e, R, s, m, args, below, meth, c, D, T, A, Q) cc nL own (pc + 3) lv (.int 1 :: st) ws cl sl) : J (p, l, e, R, s, m, args, below, meth, c, D, T, A, Q) cc nL own pc lv (st) ws cl sl := by
  intro C H locs ls hP hD hS hl
  exact va_gets C.1 C.2.1 C.2.2.2.2.2.2.2.2.2.2.1 hS C.2.2.2.1 (C.2.2.2.2.1 _ hm) (fun _ h => h) d (k C H locs ls hP hD hS hl)
theorem j_sfmt (hm : Cond.fieldLink own index "jdk/internal/util/Preconditions" "SIOOBE_FORMATTER" "Ljava/util/function/BiFunction;" ∈ gG) (d : decode cc pc = .ok (.getstatic index, 3)) (k : ∀ v : Value, (v = .null ∨ ∃ a : Nat, v = .ref a) → J (p, l, e, R, s, m, args, below, meth, c, D, T, A, Q) cc nL own (pc + 3) lv (v :: st) ws cl sl) : J (p, l, e, R, s, m, args, below, meth, c, D, T, A, Q) cc nL own pc lv st ws cl sl := by
  intro C H locs ls hP hD hS hl
  rcases C.2.2.2.2.2.2.2.2.2.2.2 with h9 | ⟨t, h9⟩
  · exact va_gets C.1 C.2.1 h9 hS C.2.2.2.1 (C.2.2.2.2.1 _ hm) (fun _ h => h) d (k .null (Or.inl rfl) C H locs ls hP hD hS hl)
  · exact va_gets C.1 C.2.1 h9 hS C.2.2.2.1 (C.2.2.2.2.1 _ hm) (fun _ h => h) d (k (.ref t) (Or.inr ⟨t, rfl⟩) C H locs ls hP hD hS hl)
theorem j_slen (he : gStr[i]? = some E) (d : decode cc pc = .ok (.arraylength, 1)) (k : J (p, l, e, R, s, m, args, below, meth, c, D, T, A, Q) cc nL own (pc + 1) lv (.int (nI E.2.2.2.length) :: st) ws cl sl) : J (p, l, e, R, s, m, args, below, meth, c, D, T, A, Q) cc nL own pc lv (.ref (sV D i) :: st) ws cl sl := by
  intro C H locs ls hP hD hS hl
  exact va_tlen C.1 C.2.1 (C.2.2.2.2.2.2.2.2.2.1 i _ he).2.2.2.2 hS rfl d (k C H locs ls hP hD hS hl)
theorem j_sbal {j : Int32} (he : gStr[i]? = some E) (hin : vp_in j E.2.2.2.length) (d : decode cc pc = .ok (.baload, 1)) (k : J (p, l, e, R, s, m, args, below, meth, c, D, T, A, Q) cc nL own (pc + 1) lv (.int (E.2.2.2.getD j.toNatClampNeg 0) :: st) ws cl sl) : J (p, l, e, R, s, m, args, below, meth, c, D, T, A, Q) cc nL own pc lv (.int j :: .ref (sV D i) :: st) ws cl sl := by
  intro C H locs ls hP hD hS hl
  exact va_tb C.1 C.2.1 (C.2.2.2.2.2.2.2.2.2.1 i _ he).2.2.2.2 hS hin rfl d (k C H locs ls hP hD hS hl)
variable {y : MethodName} {by' : ByteArray} {mL : Nat} {rt : Option FieldType} {fr lo mc ms : Nat} {As rest st0 : List Value} {wc wr : va_W} {Qr : Option Value → va_W → Prop} {n : Nat}
theorem j_callVS (hM : Ct l D T y by' mL rt fr lo mc ms (.ref (sA D i) :: As) wc Qr) (he : gStr[i]? = some E) (g : GoodIn gG (wsV own index "java/lang/String" y (.code y by' mL rt :: gG))) (hd : y.cls = "java/lang/String" ∧ y.cls ≠ "java/lang/invoke/MethodHandle" ∧ y.cls ≠ "java/lang/invoke/VarHandle" ∧ (parseMethodDescriptor y.desc).map (fun d => d.parameters.length) = some n) (hRm : fr + 1 ≤ R.frames ∧ 8 + (mL + 11) + lo ≤ R.locals)
    (isC isR : List Nat) (hC : isC.map (fun i => ws[i]?) = wc.map some) (hndC : va_nd isC = true) (hR : isR.map (fun i => ws[i]?) = wr.map some) (hn : va_nd isR = true) (hdis : ∀ i ∈ isR, i ∉ isC) (hlen : As.length = n) (hst : st0 = As.reverse ++ .ref (sA D i) :: rest) (hW : (rest.map fun v => v.category).sum ≤ 8) (d : decode cc pc = .ok (.invokevirtual index, 3)) (hf : cl + mc ≤ R.cells ∧ sl + ms ≤ R.slots)
    (kk : ∀ (v : Option Value) (w : va_W), Qr v w → J (p, l, e, R, s, m, args, below, meth, c, D, T, A, Q) cc nL own (pc + 3) lv (v.toList ++ rest) (wr ++ w) (cl + mc) (sl + ms)) : J (p, l, e, R, s, m, args, below, meth, c, D, T, A, Q) cc nL own pc lv st0 ws cl sl := by
  intro C H locs ls hP hD hS hl
  subst hst
  have hPc := pickP hP hC
  have hDc := hD.sub isC hndC hC
  have hrecv : ∃ cell : Cell, H[sA D i]? = some cell ∧ cell.vm.isStatics = false ∧ s.vm.findClass "java/lang/String" = some cell.cls := by
    obtain ⟨cell, h1, h2, h3, -⟩ := (C.2.2.2.2.2.2.2.2.2.1 i _ he).2.1.kept hS.2.1
    exact ⟨cell, h1, h2, h3⟩
  refine run_core (va_runV (As := As) (rest := rest) ⟨C.1, C.2.1, C.2.2.1, C.2.2.2.1, C.2.2.2.2.1⟩ (hM H.size) (cwV n C.2.2.2.2.1 g rfl rfl rfl hd hRm) ⟨Ct_blind, hrecv, fun U hU hW => ⟨rfl, by rw [hU], by rw [hU]; exact hPc, va_K.moved hW.alike C.2.2.2.2.2.1, hDc.weaken (fun _ _ _ _ => trivial), gN_warm hW C.2.2.2.2.2.2.2.1, gS_call C.2.2.2.2.2.2.2.2.2 hS hW hU (va_free hD hS C.2.2.2.2.2.2.1 isC hC)⟩⟩ rfl hlen hl.1 rfl (lv_room hW) d hf) hP hD hS C.2.2.2.2.2.2.1 isC isR hC hR hn hdis (fun v w H1 locs1 hq hP1 hD1 hS1 => kk v w hq C H1 locs1 ls hP1 hD1 hS1 hl)
theorem j_bret {v : Int32} {ty : FieldType} {w : va_W} (hr : meth.sig.returnType = some ty) (hz : narrow ty (.int v) = .int v) (d : decode cc pc = .ok (.ireturn, 1)) (is : List Nat) (hs : is.map (fun i => ws[i]?) = w.map some) (hn : va_nd is = true) (hQ : Qr (some (.int v)) w) : J (KxOf p l e R s m args below meth c D T wc Qr cl sl) cc nL own pc lv [.int v] ws cl sl := by
  intro C H locs ls hP hD hS hl
  have hlk := C.2.2.2.2.2.2.2.2.1
  exact W.zret C.1 C.2.1 hr hz (fun t ht hW => ⟨⟨_, w, rfl, hQ, by rw [ht]; exact pickP hP hs, hD.sub is hn hs⟩, hS.F ht⟩) hS.2.2 d
theorem j_aloadV {n : Fin 4} {i9 : Nat} {v : Value} (hv : v = .null ∨ ∃ a : Nat, v = .ref a) (d : decode cc pc = .ok (.aload_n n, 1)) (hi : (n : Nat) = i9) (q : Nat) (hq : lv[q]? = some (i9, v)) (k : J (p, l, e, R, s, m, args, below, meth, c, D, T, A, Q) cc nL own (pc + 1) lv (v :: st) ws cl sl) : J (p, l, e, R, s, m, args, below, meth, c, D, T, A, Q) cc nL own pc lv st ws cl sl := by
  rcases hv with rfl | ⟨a, rfl⟩
  · exact j_aload_nN d hi q hq k
  · exact j_aload_n d hi q hq k
end JStr
theorem gB_of {i : Nat} {E : String × Nat × String × List Int32} (h : gStr[i]? = some E) : gB i = E.2.2.2 := by unfold gB; rw [h]
theorem gE_of {i : Nat} (h : i < gNS) : ∃ E : String × Nat × String × List Int32, gStr[i]? = some E ∧ gB i = E.2.2.2 := by
  have hl : i < gStr.length := by
    have : gStr.length = gNS := by decide +kernel
    omega
  exact ⟨gStr[i], List.getElem?_eq_getElem hl, gB_of (List.getElem?_eq_getElem hl)⟩
def sch (i : Nat) (j : Int32) : Int32 := ((((gB i).getD j.toNatClampNeg 0) &&& 255).toUInt32 % 65536).toInt32
theorem d_JS_coder_0 : decode prog_19_method_152_code 0 = .ok (.getstatic 38, 3) := by decide +kernel
theorem d_JS_coder_3 : decode prog_19_method_152_code 3 = .ok (.ifCond .eq 10, 3) := by decide +kernel
theorem d_JS_coder_6 : decode prog_19_method_152_code 6 = .ok (.aload_n 0, 1) := by decide +kernel
theorem d_JS_coder_7 : decode prog_19_method_152_code 7 = .ok (.getfield 15, 3) := by decide +kernel
theorem d_JS_coder_10 : decode prog_19_method_152_code 10 = .ok (.goto 4, 3) := by decide +kernel
theorem d_JS_coder_14 : decode prog_19_method_152_code 14 = .ok (.ireturn, 1) := by decide +kernel
set_option maxHeartbeats 4000000 in
set_option maxRecDepth 100000 in
theorem c_JS_coder (l : Launch) (D : va_G) (cI cB cJ cS : ClassId) (i : Nat) (E : String × Nat × String × List Int32) (he : gStr[i]? = some E) : Ct l D (gT cI cB cJ cS) y_JS_coder prog_19_method_152_code 1 (Option.some Jvm.ClassFile.FieldType.byte) 0 0 0 0 [.ref (sA D i)] [] (fun v w => v = some (.int 0) ∧ w = []) := by
  refine Ct.mk (by decide) (Nat.le_of_ble_eq_true rfl) ?_
  intro p e s m below meth c hr hnm
  refine j_norm (pc' := 0) (lv' := [(0, .ref (sA D i))]) (st' := []) (ws' := []) (cl' := 0) (sl' := 0) rfl rfl rfl rfl rfl rfl ?_
  refine j_scmp m_366 d_JS_coder_0 ?_
  refine j_if_eq (tgt := 13) d_JS_coder_3 (by decide) (fun z => absurd z (by decide)) (fun z => ?_)
  refine j_aload_n d_JS_coder_6 rfl 0 rfl ?_
  refine j_scod he m_1630 d_JS_coder_7 ?_
  refine j_goto (tgt := 14) d_JS_coder_10 (by decide) ?_
  exact j_bret (w := []) hr (by decide) d_JS_coder_14 [] rfl (by decide) ⟨rfl, rfl⟩
theorem d_JS_isLatin1_0 : decode prog_19_method_154_code 0 = .ok (.getstatic 38, 3) := by decide +kernel
theorem d_JS_isLatin1_3 : decode prog_19_method_154_code 3 = .ok (.ifCond .eq 14, 3) := by decide +kernel
theorem d_JS_isLatin1_6 : decode prog_19_method_154_code 6 = .ok (.aload_n 0, 1) := by decide +kernel
theorem d_JS_isLatin1_7 : decode prog_19_method_154_code 7 = .ok (.getfield 15, 3) := by decide +kernel
theorem d_JS_isLatin1_10 : decode prog_19_method_154_code 10 = .ok (.ifCond .ne 7, 3) := by decide +kernel
theorem d_JS_isLatin1_13 : decode prog_19_method_154_code 13 = .ok (.iconst 1, 1) := by decide +kernel
theorem d_JS_isLatin1_14 : decode prog_19_method_154_code 14 = .ok (.goto 4, 3) := by decide +kernel
theorem d_JS_isLatin1_18 : decode prog_19_method_154_code 18 = .ok (.ireturn, 1) := by decide +kernel
set_option maxHeartbeats 4000000 in
set_option maxRecDepth 100000 in
theorem c_JS_isLatin1 (l : Launch) (D : va_G) (cI cB cJ cS : ClassId) (i : Nat) (E : String × Nat × String × List Int32) (he : gStr[i]? = some E) : Ct l D (gT cI cB cJ cS) y_JS_isLatin1 prog_19_method_154_code 1 (Option.some Jvm.ClassFile.FieldType.boolean) 0 0 0 0 [.ref (sA D i)] [] (fun v w => v = some (.int 1) ∧ w = []) := by
  refine Ct.mk (by decide) (Nat.le_of_ble_eq_true rfl) ?_
  intro p e s m below meth c hr hnm
  refine j_norm (pc' := 0) (lv' := [(0, .ref (sA D i))]) (st' := []) (ws' := []) (cl' := 0) (sl' := 0) rfl rfl rfl rfl rfl rfl ?_
  refine j_scmp m_366 d_JS_isLatin1_0 ?_
  refine j_if_eq (tgt := 17) d_JS_isLatin1_3 (by decide) (fun z => absurd z (by decide)) (fun z => ?_)
  refine j_aload_n d_JS_isLatin1_6 rfl 0 rfl ?_
  refine j_scod he m_1630 d_JS_isLatin1_7 ?_
  refine j_if_ne (tgt := 17) d_JS_isLatin1_10 (by decide) (fun z => absurd rfl z) (fun z => ?_)
  refine j_iconst (v := 1) d_JS_isLatin1_13 (by decide) ?_
  refine j_goto (tgt := 18) d_JS_isLatin1_14 (by decide) ?_
  exact j_bret (w := []) hr (by decide) d_JS_isLatin1_18 [] rfl (by decide) ⟨rfl, rfl⟩
theorem d_JS_length_0 : decode prog_19_method_54_code 0 = .ok (.aload_n 0, 1) := by decide +kernel
theorem d_JS_length_1 : decode prog_19_method_54_code 1 = .ok (.getfield 9, 3) := by decide +kernel
theorem d_JS_length_4 : decode prog_19_method_54_code 4 = .ok (.arraylength, 1) := by decide +kernel
theorem d_JS_length_5 : decode prog_19_method_54_code 5 = .ok (.aload_n 0, 1) := by decide +kernel
theorem d_JS_length_6 : decode prog_19_method_54_code 6 = .ok (.invokevirtual 335, 3) := by decide +kernel
theorem d_JS_length_9 : decode prog_19_method_54_code 9 = .ok (.ishr, 1) := by decide +kernel
theorem d_JS_length_10 : decode prog_19_method_54_code 10 = .ok (.ireturn, 1) := by decide +kernel
set_option maxHeartbeats 4000000 in
set_option maxRecDepth 100000 in
theorem c_JS_length (l : Launch) (D : va_G) (cI cB cJ cS : ClassId) (i : Nat) (E : String × Nat × String × List Int32) (he : gStr[i]? = some E) : Ct l D (gT cI cB cJ cS) y_JS_length prog_19_method_54_code 1 (Option.some Jvm.ClassFile.FieldType.int) 1 20 0 0 [.ref (sA D i)] [] (fun v w => v = some (.int (nI E.2.2.2.length)) ∧ w = []) := by
  refine Ct.mk (by decide) (Nat.le_of_ble_eq_true rfl) ?_
  intro p e s m below meth c hr hnm
  refine j_norm (pc' := 0) (lv' := [(0, .ref (sA D i))]) (st' := []) (ws' := []) (cl' := 0) (sl' := 0) rfl rfl rfl rfl rfl rfl ?_
  refine j_aload_n d_JS_length_0 rfl 0 rfl ?_
  refine j_sval he m_1629 d_JS_length_1 ?_
  refine j_slen he d_JS_length_4 ?_
  refine j_aload_n d_JS_length_5 rfl 0 rfl ?_
  refine j_callVS (n := 0) (As := []) (rest := [.int (nI E.2.2.2.length)]) (wr := []) (c_JS_coder l D cI cB cJ cS i E he) he k_JS_335 (by decide) ⟨Nat.le_of_ble_eq_true rfl, Nat.le_of_ble_eq_true rfl⟩ [] [] rfl (by decide) rfl (by decide) (by decide) rfl rfl (Nat.le_of_ble_eq_true rfl) d_JS_length_6 ⟨Nat.le_of_ble_eq_true rfl, Nat.le_of_ble_eq_true rfl⟩ (fun v w hq => ?_)
  obtain ⟨rfl, rfl⟩ := hq
  refine j_norm (pc' := 9) (st' := [.int 0, .int (nI E.2.2.2.length)]) (ws' := []) (cl' := 0) (sl' := 0) rfl rfl rfl rfl rfl rfl ?_
  refine j_ishr d_JS_length_9 ?_
  rw [sb_shr0]
  exact j_iret (w := []) hr d_JS_length_10 [] rfl (by decide) ⟨rfl, rfl⟩
theorem d_JP_checkIndex_0 : decode prog_25_method_11_code 0 = .ok (.iload_n 0, 1) := by decide +kernel
theorem d_JP_checkIndex_1 : decode prog_25_method_11_code 1 = .ok (.ifCond .lt 8, 3) := by decide +kernel
theorem d_JP_checkIndex_4 : decode prog_25_method_11_code 4 = .ok (.iload_n 0, 1) := by decide +kernel
theorem d_JP_checkIndex_5 : decode prog_25_method_11_code 5 = .ok (.iload_n 1, 1) := by decide +kernel
theorem d_JP_checkIndex_6 : decode prog_25_method_11_code 6 = .ok (.if_icmp .lt 10, 3) := by decide +kernel
theorem d_JP_checkIndex_16 : decode prog_25_method_11_code 16 = .ok (.iload_n 0, 1) := by decide +kernel
theorem d_JP_checkIndex_17 : decode prog_25_method_11_code 17 = .ok (.ireturn, 1) := by decide +kernel
set_option maxHeartbeats 4000000 in
theorem c_JP_checkIndex (l : Launch) (D : va_G) (cI cB cJ cS : ClassId) (x y : Int32) (v0 : Value) (h1 : ¬ x < 0) (h2 : x < y) (hv : v0 = .null ∨ ∃ a : Nat, v0 = .ref a) : Ct l D (gT cI cB cJ cS) y_JP_checkIndex prog_25_method_11_code 3 (Option.some Jvm.ClassFile.FieldType.int) 0 0 0 0 [.int x, .int y, v0] [] (fun v w => v = some (.int x) ∧ w = []) := by
  have key : (lg_sl [.int x, .int y, v0]).length ≤ 3 ∧ lv_args 0 [.int x, .int y, v0] = [(0, .int x), (1, .int y), (2, v0)] := by
    rcases hv with rfl | ⟨a, rfl⟩ <;> exact ⟨Nat.le_of_ble_eq_true rfl, rfl⟩
  refine Ct.mk (by decide) key.1 ?_
  intro p e s m below meth c hr hnm
  refine j_norm (pc' := 0) (lv' := [(0, .int x), (1, .int y), (2, v0)]) (st' := []) (ws' := []) (cl' := 0) (sl' := 0) rfl key.2 rfl rfl rfl rfl ?_
  refine j_iload_n d_JP_checkIndex_0 rfl 0 rfl ?_
  refine j_if_lt (tgt := 9) d_JP_checkIndex_1 (by decide) (fun z => absurd z h1) (fun z => ?_)
  refine j_iload_n d_JP_checkIndex_4 rfl 0 rfl ?_
  refine j_iload_n d_JP_checkIndex_5 rfl 1 rfl ?_
  refine j_icmp_lt (tgt := 16) d_JP_checkIndex_6 (by decide) (fun z => ?_) (fun z => absurd h2 z)
  refine j_iload_n d_JP_checkIndex_16 rfl 0 rfl ?_
  exact j_iret (w := []) hr d_JP_checkIndex_17 [] rfl (by decide) ⟨rfl, rfl⟩
theorem d_JS_checkIndex_0 : decode prog_19_method_155_code 0 = .ok (.iload_n 0, 1) := by decide +kernel
theorem d_JS_checkIndex_1 : decode prog_19_method_155_code 1 = .ok (.iload_n 1, 1) := by decide +kernel
theorem d_JS_checkIndex_2 : decode prog_19_method_155_code 2 = .ok (.getstatic 1053, 3) := by decide +kernel
theorem d_JS_checkIndex_5 : decode prog_19_method_155_code 5 = .ok (.invokestatic 1059, 3) := by decide +kernel
theorem d_JS_checkIndex_8 : decode prog_19_method_155_code 8 = .ok (.pop, 1) := by decide +kernel
theorem d_JS_checkIndex_9 : decode prog_19_method_155_code 9 = .ok (.return_, 1) := by decide +kernel
set_option maxHeartbeats 4000000 in
set_option maxRecDepth 100000 in
theorem c_JS_checkIndex (l : Launch) (D : va_G) (cI cB cJ cS : ClassId) (x y : Int32) (h1 : ¬ x < 0) (h2 : x < y) : Ct l D (gT cI cB cJ cS) y_JS_checkIndex prog_19_method_155_code 2 (Option.none : Option Jvm.ClassFile.FieldType) 1 22 0 0 [.int x, .int y] [] (fun v w => v = none ∧ w = []) := by
  refine Ct.mk (by decide) (Nat.le_of_ble_eq_true rfl) ?_
  intro p e s m below meth c hr hnm
  refine j_norm (pc' := 0) (lv' := [(0, .int x), (1, .int y)]) (st' := []) (ws' := []) (cl' := 0) (sl' := 0) rfl rfl rfl rfl rfl rfl ?_
  refine j_iload_n d_JS_checkIndex_0 rfl 0 rfl ?_
  refine j_iload_n d_JS_checkIndex_1 rfl 1 rfl ?_
  refine j_sfmt m_382 d_JS_checkIndex_2 (fun v0 hv => ?_)
  refine j_callS (n := 3) (As := [.int x, .int y, v0]) (rest := []) (wr := []) (c_JP_checkIndex l D cI cB cJ cS x y v0 h1 h2 hv) k_JS_1059 (by decide) ⟨Nat.le_of_ble_eq_true rfl, Nat.le_of_ble_eq_true rfl⟩ [] [] rfl (by decide) rfl (by decide) (by decide) rfl rfl (Nat.le_of_ble_eq_true rfl) d_JS_checkIndex_5 ⟨Nat.le_of_ble_eq_true rfl, Nat.le_of_ble_eq_true rfl⟩ (fun v w hq => ?_)
  obtain ⟨rfl, rfl⟩ := hq
  refine j_norm (pc' := 8) (st' := [.int x]) (ws' := []) (cl' := 0) (sl' := 0) rfl rfl rfl rfl rfl rfl ?_
  refine j_pop rfl d_JS_checkIndex_8 ?_
  exact j_vret (w := []) hr d_JS_checkIndex_9 [] rfl (by decide) ⟨rfl, rfl⟩
theorem d_JL_charAt_0 : decode prog_20_method_2_code 0 = .ok (.iload_n 1, 1) := by decide +kernel
theorem d_JL_charAt_1 : decode prog_20_method_2_code 1 = .ok (.aload_n 0, 1) := by decide +kernel
theorem d_JL_charAt_2 : decode prog_20_method_2_code 2 = .ok (.arraylength, 1) := by decide +kernel
theorem d_JL_charAt_3 : decode prog_20_method_2_code 3 = .ok (.invokestatic 9, 3) := by decide +kernel
theorem d_JL_charAt_6 : decode prog_20_method_2_code 6 = .ok (.aload_n 0, 1) := by decide +kernel
theorem d_JL_charAt_7 : decode prog_20_method_2_code 7 = .ok (.iload_n 1, 1) := by decide +kernel
theorem d_JL_charAt_8 : decode prog_20_method_2_code 8 = .ok (.baload, 1) := by decide +kernel
theorem d_JL_charAt_9 : decode prog_20_method_2_code 9 = .ok (.sipush 255, 3) := by decide +kernel
theorem d_JL_charAt_12 : decode prog_20_method_2_code 12 = .ok (.iand, 1) := by decide +kernel
theorem d_JL_charAt_13 : decode prog_20_method_2_code 13 = .ok (.i2c, 1) := by decide +kernel
theorem d_JL_charAt_14 : decode prog_20_method_2_code 14 = .ok (.ireturn, 1) := by decide +kernel
set_option maxHeartbeats 4000000 in
set_option maxRecDepth 100000 in
theorem c_JL_charAt (l : Launch) (D : va_G) (cI cB cJ cS : ClassId) (i : Nat) (E : String × Nat × String × List Int32) (he : gStr[i]? = some E) (j : Int32) (hj : vp_in j E.2.2.2.length) (h1 : ¬ j < 0) (h2 : j < nI E.2.2.2.length) : Ct l D (gT cI cB cJ cS) y_JL_charAt prog_20_method_2_code 2 (Option.some Jvm.ClassFile.FieldType.char) 2 43 0 0 [.ref (sV D i), .int j] [] (fun v w => v = some (.int ((E.2.2.2.getD j.toNatClampNeg 0 &&& 255).toUInt32 % 65536).toInt32) ∧ w = []) := by
  refine Ct.mk (by decide) (Nat.le_of_ble_eq_true rfl) ?_
  intro p e s m below meth c hr hnm
  refine j_norm (pc' := 0) (lv' := [(0, .ref (sV D i)), (1, .int j)]) (st' := []) (ws' := []) (cl' := 0) (sl' := 0) rfl rfl rfl rfl rfl rfl ?_
  refine j_iload_n d_JL_charAt_0 rfl 1 rfl ?_
  refine j_aload_n d_JL_charAt_1 rfl 0 rfl ?_
  refine j_slen he d_JL_charAt_2 ?_
  refine j_callS (n := 2) (As := [.int j, .int (nI E.2.2.2.length)]) (rest := []) (wr := []) (c_JS_checkIndex l D cI cB cJ cS j (nI E.2.2.2.length) h1 h2) k_JL_9 (by decide) ⟨Nat.le_of_ble_eq_true rfl, Nat.le_of_ble_eq_true rfl⟩ [] [] rfl (by decide) rfl (by decide) (by decide) rfl rfl (Nat.le_of_ble_eq_true rfl) d_JL_charAt_3 ⟨Nat.le_of_ble_eq_true rfl, Nat.le_of_ble_eq_true rfl⟩ (fun v w hq => ?_)
  obtain ⟨rfl, rfl⟩ := hq
  refine j_norm (pc' := 6) (st' := []) (ws' := []) (cl' := 0) (sl' := 0) rfl rfl rfl rfl rfl rfl ?_
  refine j_aload_n d_JL_charAt_6 rfl 0 rfl ?_
  refine j_iload_n d_JL_charAt_7 rfl 1 rfl ?_
  refine j_sbal he hj d_JL_charAt_8 ?_
  refine j_sipush (v := 255) d_JL_charAt_9 (by decide) ?_
  refine j_iand d_JL_charAt_12 ?_
  refine j_i2c d_JL_charAt_13 ?_
  exact j_bret (w := []) hr (pk_nc _) d_JL_charAt_14 [] rfl (by decide) ⟨rfl, rfl⟩
theorem d_JS_charAt_0 : decode prog_19_method_56_code 0 = .ok (.aload_n 0, 1) := by decide +kernel
theorem d_JS_charAt_1 : decode prog_19_method_56_code 1 = .ok (.invokevirtual 492, 3) := by decide +kernel
theorem d_JS_charAt_4 : decode prog_19_method_56_code 4 = .ok (.ifCond .eq 12, 3) := by decide +kernel
theorem d_JS_charAt_7 : decode prog_19_method_56_code 7 = .ok (.aload_n 0, 1) := by decide +kernel
theorem d_JS_charAt_8 : decode prog_19_method_56_code 8 = .ok (.getfield 9, 3) := by decide +kernel
theorem d_JS_charAt_11 : decode prog_19_method_56_code 11 = .ok (.iload_n 1, 1) := by decide +kernel
theorem d_JS_charAt_12 : decode prog_19_method_56_code 12 = .ok (.invokestatic 495, 3) := by decide +kernel
theorem d_JS_charAt_15 : decode prog_19_method_56_code 15 = .ok (.ireturn, 1) := by decide +kernel
set_option maxHeartbeats 4000000 in
set_option maxRecDepth 100000 in
theorem c_JS_charAt (l : Launch) (D : va_G) (cI cB cJ cS : ClassId) (i : Nat) (E : String × Nat × String × List Int32) (he : gStr[i]? = some E) (j : Int32) (hj : vp_in j E.2.2.2.length) (h1 : ¬ j < 0) (h2 : j < nI E.2.2.2.length) : Ct l D (gT cI cB cJ cS) y_JS_charAt prog_19_method_56_code 2 (Option.some Jvm.ClassFile.FieldType.char) 3 64 0 0 [.ref (sA D i), .int j] [] (fun v w => v = some (.int ((E.2.2.2.getD j.toNatClampNeg 0 &&& 255).toUInt32 % 65536).toInt32) ∧ w = []) := by
  refine Ct.mk (by decide) (Nat.le_of_ble_eq_true rfl) ?_
  intro p e s m below meth c hr hnm
  refine j_norm (pc' := 0) (lv' := [(0, .ref (sA D i)), (1, .int j)]) (st' := []) (ws' := []) (cl' := 0) (sl' := 0) rfl rfl rfl rfl rfl rfl ?_
  refine j_aload_n d_JS_charAt_0 rfl 0 rfl ?_
  refine j_callVS (n := 0) (As := []) (rest := []) (wr := []) (c_JS_isLatin1 l D cI cB cJ cS i E he) he k_JS_492 (by decide) ⟨Nat.le_of_ble_eq_true rfl, Nat.le_of_ble_eq_true rfl⟩ [] [] rfl (by decide) rfl (by decide) (by decide) rfl rfl (Nat.le_of_ble_eq_true rfl) d_JS_charAt_1 ⟨Nat.le_of_ble_eq_true rfl, Nat.le_of_ble_eq_true rfl⟩ (fun v w hq => ?_)
  obtain ⟨rfl, rfl⟩ := hq
  refine j_norm (pc' := 4) (st' := [.int 1]) (ws' := []) (cl' := 0) (sl' := 0) rfl rfl rfl rfl rfl rfl ?_
  refine j_if_eq (tgt := 16) d_JS_charAt_4 (by decide) (fun z => absurd z (by decide)) (fun z => ?_)
  refine j_aload_n d_JS_charAt_7 rfl 0 rfl ?_
  refine j_sval he m_1629 d_JS_charAt_8 ?_
  refine j_iload_n d_JS_charAt_11 rfl 1 rfl ?_
  refine j_callS (n := 2) (As := [.ref (sV D i), .int j]) (rest := []) (wr := []) (c_JL_charAt l D cI cB cJ cS i E he j hj h1 h2) k_JS_495 (by decide) ⟨Nat.le_of_ble_eq_true rfl, Nat.le_of_ble_eq_true rfl⟩ [] [] rfl (by decide) rfl (by decide) (by decide) rfl rfl (Nat.le_of_ble_eq_true rfl) d_JS_charAt_12 ⟨Nat.le_of_ble_eq_true rfl, Nat.le_of_ble_eq_true rfl⟩ (fun v w hq => ?_)
  obtain ⟨rfl, rfl⟩ := hq
  refine j_norm (pc' := 15) (st' := [.int ((E.2.2.2.getD j.toNatClampNeg 0 &&& 255).toUInt32 % 65536).toInt32]) (ws' := []) (cl' := 0) (sl' := 0) rfl rfl rfl rfl rfl rfl ?_
  exact j_bret (w := []) hr (pk_nc _) d_JS_charAt_15 [] rfl (by decide) ⟨rfl, rfl⟩
