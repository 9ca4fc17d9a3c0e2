/-! ===== a static method with a table of handlers ===== -/
def CtE (l : Launch) (D : va_G) (T : List (ClassId × FieldType)) (y : MethodName) (by' : ByteArray) (mL : Nat) (rt : Option FieldType) (hh : List (Nat × Nat × Nat × Nat)) (fr lo mc ms : Nat) (as : List Value) (wc : va_W) (Qr : Option Value → va_W → Prop) : Prop :=
  ∀ sz : Nat, Met l y (.codeWith y by' mL rt hh :: gG) { frames := fr, cells := mc, slots := ms, locals := lo } (va_Pc as (PreE D T wc sz)) (CQ D wc sz Qr) mc ms (va_A wc sz)
section RunSW
variable {p : Program} {l : Launch} {e : Env} {R : Room} {s : State} {m : MethodId} {args : Array Value} {below : List Frame} {meth : Method} {c : Code} {H : Heap} {locs : List Loc} {cells slots : Nat}
theorem va_runSW {y : MethodName} {bytes cc : ByteArray} {maxL nL mc ms n index : Nat} {ret : Option FieldType} {hh : List (Nat × Nat × Nat × Nat)} {ws ws' : List Cond} {rm : Room} {Pc : Array Value → State → Prop} {Qc : Array Value → State → Outcome → State → Prop} {free : Addr → Prop} {Ts : List Cond} {own : String} {As rest : List Value} {g : JFrame}
    (S : CallFix p m c cc nL s args Ts own) (hM : Met l y ws rm Pc Qc mc ms free) (hw : ws = Cond.codeWith y bytes maxL ret hh :: ws') (hG : GoodIn Ts (va_wsS own index y ws)) (hrc : rm.cells = mc) (hrs : rm.slots = ms)
    (hd : y.cls ≠ "java/lang/invoke/MethodHandle" ∧ y.cls ≠ "java/lang/invoke/VarHandle" ∧ (parseMethodDescriptor y.desc).map (fun d => d.parameters.length) = some n) (hRm : rm.frames + 1 ≤ R.frames ∧ 8 + (maxL + 11) + rm.locals ≤ R.locals) (hp : PreS s H Pc As)
    (hg : g.method = m) (hn : As.length = n) (hsize : g.locals.size = nL) (hstack : g.stack = As.reverse ++ rest) (hW : 2 * g.monitorRoom + (rest.map fun v => v.category).sum ≤ 8) (hdg : decode cc g.pc = .ok (.invokestatic index, 3)) (hf : cells + mc ≤ R.cells ∧ slots + ms ≤ R.slots) :
    va_Run p l e R s m args below meth c H locs cells slots mc ms g rest (Qc As.toArray) free := by
  obtain ⟨hx, hb, hml, ho, hts⟩ := S
  have ok : ∀ w ∈ va_wsS own index y ws, w.before args s = true := fun w h => hts w (hG w h).1
  have hcm : Cond.codeWith y bytes maxL ret hh ∈ ws := by rw [hw]; exact List.mem_cons_self
  have hGw : GoodIn Ts ws := fun w h => hG w (by unfold va_wsS; exact List.mem_append_right _ h)
  have hl : (Cond.methodLink own index y).before args s = true := ok _ (by simp [va_wsS])
  have hstt : (Cond.static y).before args s = true := ok _ (by simp [va_wsS])
  have hini : (Cond.initialized y.cls).before args s = true := ok _ (by simp [va_wsS])
  have hK : Back l R p e below s args y 3 8 (PreOf R mc ms Pc) (PostOf Qc mc ms free) := va_backW (hh := hh) (bytes := bytes) (maxL := maxL) (ret := ret) hM hp.1 hrc hrs hRm.1 hRm.2 (pay_in hts hGw) hcm (fun a' U hW => word_at hW (Or.inl (by first | rfl | simp [Cond.onTables, Cond.keeps, Cond.steady])) hini)
  obtain ⟨mk, methM, cM, hnamed, hmethM, -, -, -, -, -, -, hsigM⟩ := Cond.codeWith_spec (ok _ (by unfold va_wsS; exact List.mem_append_right _ hcm))
  have hstatic : methM.isStatic = true := Cond.static_spec hnamed hmethM hstt
  obtain ⟨kP, hkP, -⟩ := className_of_methodNamed hnamed
  have hinitP : kP.init = .initialized := Cond.initialized_spec (findClass_of_methodNamed hnamed) hkP hini
  intro T hT X
  obtain ⟨vm₁, X₁, hstep₁⟩ := X.invokestatic hx ho hl hnamed hmethM hstatic hkP hinitP ⟨hd.1, hd.2.1⟩ (g := g) hg (argsL := As) (rest := rest) (by have h2 := hd.2.2; rw [hsigM] at h2; exact hn.trans (Option.some.inj h2).symm) hstack (by rw [hb]; exact hdg)
  obtain ⟨v, ⟨U', l2, c2, s2⟩, X', ⟨g', mk', t, L, e1, e2, hq, h1, hL, h2, h3⟩, hsteps⟩ := hK m meth c ⟨T.setVm vm₁, locs, cells, slots⟩ { g with stack := rest } (.invokestatic index) mk As.toArray X₁ hg (hsize.trans hml.symm) (by rw [hb]; exact hdg) hW (X₁.named hnamed) ⟨hf.1, hf.2, hp.2 (T.setVm vm₁) hT X₁.warmed⟩
  dsimp only [Pt.U, Pt.locs, Pt.cells, Pt.slots] at X' e1 e2 h1 h2 h3 hsteps
  subst h1; subst h2; subst h3
  exact ⟨v, (T.setVm vm₁).calling g' mk' As.toArray, t, U', L, hT, X', hL, e1, e2, hq, fun target h => hstep₁ _ fun acts => by rw [doInvoke_state]; exact hsteps.trans h⟩
end RunSW
section JCallSW
variable {p : Program} {l : Launch} {e : Env} {R : Room} {s : State} {m : MethodId} {args : Array Value} {below : List Frame} {meth : Method} {c : Code} {D : va_G} {T : List (ClassId × FieldType)} {A : Nat → Prop} {Q : State → Prop} {cc : ByteArray} {nL : Nat} {own : String} {pc cl sl : Nat} {lv : List (Nat × Value)} {st0 rest : List Value} {ws : va_W}
variable {y : MethodName} {by' : ByteArray} {mL : Nat} {rt : Option FieldType} {hh : List (Nat × Nat × Nat × Nat)} {fr lo mc ms : Nat} {As : List Value} {wc : va_W} {Qr : Option Value → va_W → Prop} {n index : Nat} {wr : va_W}
theorem j_callSWg (hM : CtE l D T y by' mL rt hh fr lo mc ms As wc Qr) (g : GoodIn gG (va_wsS own index y (.codeWith y by' mL rt hh :: gG)) ∧ ThS A s s.heap) (hd : y.cls ≠ "java/lang/invoke/MethodHandle" ∧ y.cls ≠ "java/lang/invoke/VarHandle" ∧ (parseMethodDescriptor y.desc).map (fun d => d.parameters.length) = some n) (hRm : fr + 1 ≤ R.frames ∧ 8 + (mL + 11) + lo ≤ R.locals)
    (hws : ws.Perm (wr ++ wc)) (hlen : As.length = n) (hst : st0 = As.reverse ++ rest) (hW : (rest.map fun v => v.category).sum ≤ 8) (d : decode cc pc = .ok (.invokestatic index, 3)) (hf : cl + mc ≤ R.cells ∧ sl + ms ≤ R.slots)
    (kk : ∀ (v : Option Value) (w : va_W), Qr v w → J (p, l, e, R, s, m, args, below, meth, c, D, T, A, Q) cc nL own (pc + 3) lv (v.toList ++ rest) (wr ++ w) (cl + mc) (sl + ms)) : J (p, l, e, R, s, m, args, below, meth, c, D, T, A, Q) cc nL own pc lv st0 ws cl sl := by
  refine j_perm hws ?_
  intro C H locs ls hP hD hS hl
  subst hst
  have hC := rng_app2 wr wc
  have hPc := pickP hP hC
  have hDc := hD.sub (List.range' wr.length wc.length) nd_r2 hC
  exact run_core (va_runSW (As := As) (rest := rest) ⟨C.1, C.2.1, C.2.2.1, C.2.2.2.1, C.2.2.2.2.1⟩ (hM H.size) rfl g.1 rfl rfl hd hRm ⟨PreE_blind, fun U hU hW => ⟨rfl, by rw [hU], by rw [hU]; exact hPc, va_K.moved hW.alike C.2.2.2.2.2.1, hDc.weaken (fun _ _ _ _ => trivial), gN_warm hW C.2.2.2.2.2.2.2.1, gS_call C.2.2.2.2.2.2.2.2.2 hS hW hU (va_free hD hS C.2.2.2.2.2.2.1 _ hC), ThS_call g.2 hS hW hU (va_free hD hS C.2.2.2.2.2.2.1 _ hC)⟩⟩ rfl hlen hl.1 rfl (lv_room hW) d hf) hP hD hS C.2.2.2.2.2.2.1 (List.range' wr.length wc.length) (List.range wr.length) hC (rng_app wr wc) nd_r1 r_dis (fun v w H1 locs1 hq hP1 hD1 hS1 => kk v w hq C H1 locs1 ls hP1 hD1 hS1 hl)
theorem j_last {t0 : Nat} {ws' : va_W} {st : List Value} (q0 : Nat) {a : Nat} {cA : ClassId} {n : Nat} {f : Nat → Int64} (ha : ws[q0]? = some (a, .inl (cA, n, .inr (.inl f)))) (ht : T[t0]? = some (cA, .long)) {i : Int32} {x : Int64} (hin : vp_in i n) (d : decode cc pc = .ok (.lastore, 1)) (hw : ws.set q0 (a, .inl (cA, n, .inr (.inl (vp_updL f i.toNatClampNeg x)))) = ws') (k : J (p, l, e, R, s, m, args, below, meth, c, D, T, A, Q) cc nL own (pc + 1) lv st ws' cl sl) : J (p, l, e, R, s, m, args, below, meth, c, D, T, A, Q) cc nL own pc lv (.long x :: .int i :: .ref a :: st) ws cl sl := by
  intro C H locs ls hP hD hS hl
  subst hw
  exact va_last C.1 C.2.1 C.2.2.2.2.2.1 hP hD hS q0 t0 ha ht hin d (fun H locs hP hD hS => (k C H locs ls hP hD hS hl))
end JCallSW
theorem g_La_end : GoodIn gG (va_wsS R_La 24 y_La_end (.codeWith y_La_end method_3_code 4 (Option.some Jvm.ClassFile.FieldType.int) [(0, 9, 12, 13)] :: gG)) := by
  intro w hw
  have hm : w ∈ gG := by
    unfold va_wsS at hw
    simp only [List.mem_append, List.mem_cons, List.not_mem_nil, or_false] at hw
    rcases hw with (rfl | rfl | rfl) | rfl | h
    · exact mt_973
    · exact mt_974
    · exact mt_La
    · exact mt_975
    · exact h
  exact ⟨hm, gG_good hm⟩
theorem k_La_7 : GoodIn gG (wsV R_La 7 R_Eq y_Eq_end (.code y_Eq_end prog_1_method_3_code 2 (Option.some Jvm.ClassFile.FieldType.int) :: gG)) := gdV mt_977 mt_978 mt_979 mt_1 mt_980
theorem cell_same {s t : State} {k n q : Nat} {vm : Vm} (h : s.sameButNew ({ t with vm := vm } : State) [] k n) (hq : q < s.heap.size) : t.heap[q]? = s.heap[q]? := by
  obtain ⟨-, -, -, -, -, h6⟩ := h
  obtain ⟨c', h1, h2, h3, h4⟩ := h6 q _ (Array.getElem?_eq_getElem hq)
  rw [Array.getElem?_eq_getElem hq]
  refine h1.trans (congrArg some ?_)
  rw [h2]
  have : c'.slots = s.heap[q].slots := Array.ext_getElem? (fun i => h4 i (by simp))
  rw [this]
set_option maxHeartbeats 4000000 in
set_option maxRecDepth 100000 in
theorem c_La_end (l : Launch) (hfl : l.flags = pinnedFlags ++ [noTraceFlag]) (D : va_G) (cI cB cJ cS : ClassId) (x0 ar aw at' ta sr fm sf ab o3 : Nat) (p2 ft z : Int32) (n_ou : Nat) (b_ou : Nat → Int64) (ret o_size : Int32) (o_b : Nat → Int64) (mc ms : Nat) (h : F_La_end p2 ft z n_ou b_ou = some ((ret, o_size, o_b), mc, ms)) :
    CtE l D (gT cI cB cJ cS) y_La_end method_3_code 4 (Option.some Jvm.ClassFile.FieldType.int) [(0, 9, 12, 13)] 8 200 mc ms [.ref x0, .int p2, .ref o3] [(x0, .inr (7, [.ref ar, .ref aw, .ref at', .ref ta, .ref sr, .ref fm, .ref sf, .int ft])), (ta, .inr (3, [.ref ab, .int z])), (o3, .inl (cJ, n_ou, .inr (.inl b_ou)))] (fun v w => v = some (.int ret) ∧ w = [(x0, .inr (7, [.ref ar, .ref aw, .ref at', .ref ta, .ref sr, .ref fm, .ref sf, .int ft])), (ta, .inr (3, [.ref ab, .int o_size])), (o3, .inl (cJ, n_ou, .inr (.inl o_b)))]) := by
  intro sz
  refine va_MetW (cc := method_3_code) (maxL := 4) (ret := Option.some Jvm.ClassFile.FieldType.int) (hh := [(0, 9, 12, 13)]) (by decide) rfl ?_
  intro p e s m args below meth c s₁ B hml hv
  obtain ⟨rfl, hsz, hP, hK, hD, hN, hSt, hTh⟩ := hv
  subst hsz
  have hts := atoms_spec (ws := .codeWith y_La_end method_3_code 4 (Option.some Jvm.ClassFile.FieldType.int) [(0, 9, 12, 13)] :: gG) B.pre
  have htg : ∀ w ∈ gG, w.before ([Value.ref x0, .int p2, .ref o3] : List Value).toArray s = true := fun w hw => hts w (List.mem_cons_of_mem _ hw)
  have hown : s.vm.findClass y_La_end.cls = some m.cls := findClass_of_methodNamed B.named
  have hlk : meth.locks = false := B.notSynchronized
  have hl := lv_entry [Value.ref x0, .int p2, .ref o3] (n := 4) (Nat.le_of_ble_eq_true rfl)
  rw [lg_entry_eq]
  generalize ((lg_sl [Value.ref x0, .int p2, .ref o3] ++ List.replicate (4 - (lg_sl [Value.ref x0, .int p2, .ref o3]).length) Slot.unset).toArray) = ls at hl ⊢
  by_cases hb : p2 < 0 ∨ 20 < p2 ∨ z < 20
  · rw [La_bad hb] at h
    cases h
    obtain ⟨m9, meth9, c9, hn9, hm9, hc9, -, -, htab, -⟩ := Cond.codeWith_spec (hts _ List.mem_cons_self)
    cases hn9.symm.trans B.named
    cases B.method.symm.trans hm9
    cases (Stand.of_body B).code.symm.trans hc9
    have htable : c.exceptionTable.toList = [⟨0, 9, 12, 13⟩] := by rw [← table_eq c.exceptionTable.toList, htab]; rfl
    refine lv_aload_n B.exec B.bytes d_La_end_0 rfl (lv_at hl 2 rfl) ?_
    refine lv_iconst B.exec B.bytes (v := 0) d_La_end_1 (by decide) ?_
    refine lv_aload_n B.exec B.bytes d_La_end_2 rfl (lv_at hl 0 rfl) ?_
    refine lv_iload_n B.exec B.bytes d_La_end_3 rfl (lv_at hl 1 rfl) ?_
    intro T hT X
    have hPE : va_P D gCl [(x0, .inr (7, [.ref ar, .ref aw, .ref at', .ref ta, .ref sr, .ref fm, .ref sf, .int ft])), (ta, .inr (3, [.ref ab, .int z]))] s.heap := pickP (is := [0, 1]) hP rfl
    have hDE : va_D (fun _ => True) [(x0, .inr (7, [.ref ar, .ref aw, .ref at', .ref ta, .ref sr, .ref fm, .ref sf, .int ft])), (ta, .inr (3, [.ref ab, .int z]))] := hD.sub [0, 1] (by decide) rfl
    obtain ⟨cellB, hcB, hoB, hclB⟩ := va_recv (q0 := 0) (ci := 7) hK hPE rfl rfl
    have hAA : ∀ q, va_A [(x0, .inr (7, [.ref ar, .ref aw, .ref at', .ref ta, .ref sr, .ref fm, .ref sf, .int ft])), (ta, .inr (3, [.ref ab, .int z]))] s.heap.size q → va_A [(x0, .inr (7, [.ref ar, .ref aw, .ref at', .ref ta, .ref sr, .ref fm, .ref sf, .int ft])), (ta, .inr (3, [.ref ab, .int z])), (o3, .inl (cJ, n_ou, .inr (.inl b_ou)))] s.heap.size q := by
      intro q hq
      rcases hq with ⟨k, e', hk⟩ | hq
      · match k, hk with
        | 0, hk => exact Or.inl ⟨0, e', hk⟩
        | 1, hk => exact Or.inl ⟨1, e', hk⟩
        | k + 2, hk => cases hk
      · exact Or.inr hq
    have hT' : BackT l { frames := 8, cells := 1, slots := 6, locals := 200 } p e below s ([Value.ref x0, .int p2, .ref o3] : List Value).toArray y_Eq_end 3 8
        (fun A a => A.cells + 1 ≤ 1 ∧ A.slots + 6 ≤ 6 ∧ va_Pc [.ref x0, .int p2] (PreE D (gT cI cB cJ cS) [(x0, .inr (7, [.ref ar, .ref aw, .ref at', .ref ta, .ref sr, .ref fm, .ref sf, .int ft])), (ta, .inr (3, [.ref ab, .int z]))] s.heap.size) a A.U)
        (fun A a x B => ∃ ce, B.U.heap[x]? = some ce ∧ ce.vm = .none ∧ A.U.vm.findClass nIAE = some ce.cls ∧ (∀ q, q < A.U.heap.size → B.U.heap[q]? = A.U.heap[q]?) ∧ A.U.heap.size ≤ B.U.heap.size ∧ B.locs = A.locs ∧ B.cells = A.cells + 1 ∧ B.slots = A.slots + 6) := by
      refine BackT.of_free (S := headSpec wsE rmE) (bytes := prog_1_method_3_code) (maxL := 2) (ret := Option.some Jvm.ClassFile.FieldType.int) (E := fun a st o t L k n => L = [] ∧ k = 1 ∧ n = 6) (t_Eq_end l hfl D cI cB cJ cS x0 ar aw at' ta sr fm sf ab p2 ft z hb s.heap.size) (by decide) (by decide) ?_ ?_ (fun _ _ _ _ _ _ _ _ _ => trivial) ?_ ?_
      · intro m' meth' c' A a X' hp
        have hpay := pay_in htg (ws := gG) (fun w hw => ⟨hw, gG_good hw⟩)
        exact ⟨atoms_intro fun w hw => by
          rcases List.mem_cons.mp hw with rfl | hw
          · exact hpay _ mt_980 _ _ X'.warmed
          · exact hpay _ hw _ _ X'.warmed, hpay _ mt_980 _ _ X'.warmed, hpay _ mt_1 _ _ X'.warmed, hp.1, hp.2.1⟩
      · intro m' meth' c' A a g mk X' hp
        exact PreE_blind _ _ _ _ hp.2.2
      · intro a st o t ⟨x, ce, ho, h1, h2, h3, hF⟩
        exact ⟨[], 1, 6, hF, rfl, rfl, rfl⟩
      · intro m' meth' c' A a g mk v t L k n X' hp hq hF ⟨e1, e2, e3⟩
        subst e1; subst e2; subst e3
        obtain ⟨x, ce, ho, h1, h2, h3, -⟩ := hq
        cases ho
        exact ⟨ce, h1, h2, h3, fun q hq => (show t.heap[q]? = A.U.heap[q]? from cell_same (s := A.U.calling g mk a) (t := t) hF.2.2 hq), hF.2.2.2.1, List.append_nil _, rfl, rfl⟩
    obtain ⟨mk, methM, hnamed, hmethM, hstM, habM⟩ := Cond.instanceMethod_spec (htg _ mt_978)
    obtain ⟨methM', cM, hmethM', -, -, -, -, -, -, hsigM⟩ := Cond.code_spec hnamed (htg _ mt_980)
    cases hmethM.symm.trans hmethM'
    obtain ⟨c2, r2, m2, q1, q2, q3, q4, kP, hkP, hkPi⟩ := Cond.selects_spec (htg _ mt_979)
    cases hclB.symm.trans q1
    cases (State.methodFound?_of_named hnamed (by decide)).symm.trans q2
    cases hnamed.symm.trans q3
    have hselP : selectMethod e.platform s.vm cellB.cls mk = .method mk := by rw [Launch.admits_selectMethod X.admits]; exact q4
    obtain ⟨vm₁, X₁, hstep₁⟩ := X.invokevirtual B.exec hown (htg _ mt_977) hnamed hmethM hstM hkP hkPi (by decide) (a := x0) (cell := cellB) (by rw [hT]; exact hcB) (fun z h => by rw [h] at hoB; cases hoB) hselP hmethM habM hkP hkPi (g := F0 m 4 ls [.int p2, .ref x0, .int 0, .ref o3]) rfl (argsL := [.int p2]) (rest := [.int 0, .ref o3]) (by rw [← Option.some.inj ((show parseMethodDescriptor y_Eq_end.desc = some ⟨[.int], some .int⟩ by decide +kernel).symm.trans hsigM)]; rfl) rfl (by rw [B.bytes]; exact d_La_end_4)
    obtain ⟨v, ⟨U', l2, c2', s2⟩, X', ⟨ce, hce, hcv, hcc, hkeep, hle, hlo, hc1, hs1⟩, hsteps⟩ := hT' m meth c ⟨T.setVm vm₁, [], 0, 0⟩ (F0 m 4 ls [.int 0, .ref o3]) (.invokevirtual 7) mk ([Value.ref x0, .int p2] : List Value).toArray X₁ rfl (hl.1.trans hml.symm) (by rw [B.bytes]; exact d_La_end_4) (by show 2 * 0 + 2 ≤ 8; decide) (X₁.named hnamed)
      ⟨Nat.le_refl 1, Nat.le_refl 6, rfl, by show T.heap.size = _; rw [hT], by show va_P D gCl _ T.heap; rw [hT]; exact hPE, va_K.moved X₁.warmed.alike hK, hDE, gN_warm X₁.warmed hN, gS_call hSt va_S.rf X₁.warmed hT hAA, ThS_call hTh va_S.rf X₁.warmed hT hAA⟩
    dsimp only [Pt.U, Pt.locs, Pt.cells, Pt.slots] at X' hce hcc hkeep hle hlo hc1 hs1 hsteps
    subst hlo; subst hc1; subst hs1
    have hcome : Steps p.tables e below (T.setTop (F0 m 4 ls [.int p2, .ref x0, .int 0, .ref o3])) ((U'.setTop (F0 m 4 ls [.int 0, .ref o3])).pushFrame (.throwing v)) := (hstep₁ _ fun acts => by rw [doInvoke_state]; exact Steps.refl _).trans hsteps
    have hcls' : s.vm.findClass nIAE = some ce.cls := by rw [← X₁.warmed.alike.findClass]; exact hcc
    obtain ⟨vm2, XV, come⟩ := X'.thenCaughtLink v (g := F0 m 4 ls [.int 0, .ref o3]) rfl hcome (own := R_La) (name := nIAE) hown [] ⟨0, 9, 12, 13⟩ [] htable (fun y hy => by cases hy) (by show covers ⟨0, 9, 12, 13⟩ 4 = true; decide) (by decide) (htg _ mt_976) hcls' hce (by rw [hcv]; rfl) (as_self _ _)
    have hkp : ∀ q, q < s.heap.size → U'.heap[q]? = s.heap[q]? := fun q hq => by
      have h9 := hkeep q (by show q < T.heap.size; rw [hT]; exact hq)
      rw [h9]
      show T.heap[q]? = _
      rw [hT]
    have hle' : s.heap.size ≤ U'.heap.size := by
      have h9 : T.heap.size ≤ U'.heap.size := hle
      rw [hT] at h9; exact h9
    have K2 : W p l e { frames := 8, cells := 1, slots := 6, locals := 200 } s m ([Value.ref x0, .int p2, .ref o3] : List Value).toArray below meth c U'.heap [] 1 6 (MQ below (CQ D [(x0, .inr (7, [.ref ar, .ref aw, .ref at', .ref ta, .ref sr, .ref fm, .ref sf, .int ft])), (ta, .inr (3, [.ref ab, .int z])), (o3, .inl (cJ, n_ou, .inr (.inl b_ou)))] s.heap.size (fun v w => v = some (.int 1) ∧ w = [(x0, .inr (7, [.ref ar, .ref aw, .ref at', .ref ta, .ref sr, .ref fm, .ref sf, .int ft])), (ta, .inr (3, [.ref ab, .int z])), (o3, .inl (cJ, n_ou, .inr (.inl b_ou)))])) ([Value.ref x0, .int p2, .ref o3] : List Value).toArray s 1 6 (va_A [(x0, .inr (7, [.ref ar, .ref aw, .ref at', .ref ta, .ref sr, .ref fm, .ref sf, .int ft])), (ta, .inr (3, [.ref ab, .int z])), (o3, .inl (cJ, n_ou, .inr (.inl b_ou)))] s.heap.size)) (F0 m 12 ls [.ref v]) := by
      refine lv_astore_n B.exec B.bytes (lv' := [(3, .ref v), (0, .ref x0), (1, .int p2), (2, .ref o3)]) d_La_end_12 rfl hl (by decide) rfl (fun ls' hl' => ?_)
      refine lv_iconst B.exec B.bytes (v := 1) d_La_end_13 (by decide) ?_
      exact W.iret B.exec B.bytes B.returns (fun t ht hW => ⟨⟨_, _, rfl, ⟨rfl, rfl⟩, by rw [ht]; exact hP.kept (fun k q hk => hkp q.1 (hP k q hk).lt), hD.self⟩, by rw [ht]; exact hle', fun q h1 _ => by rw [ht]; exact hkp q h1⟩) (fun q hq => by cases hq) d_La_end_14
    obtain ⟨t, a1, b1⟩ := K2 (U'.setVm vm2) rfl XV
    exact ⟨t, come.trans a1, b1⟩
  · obtain ⟨r1, hE, hin, hx, hm1, hm2⟩ := La_good hb h
    cases hx
    subst hm1; subst hm2
    have JJ : J (KxOf p l e { frames := 8, cells := 0, slots := 0, locals := 200 } s m ([Value.ref x0, .int p2, .ref o3] : List Value).toArray below meth c D (gT cI cB cJ cS) [(x0, .inr (7, [.ref ar, .ref aw, .ref at', .ref ta, .ref sr, .ref fm, .ref sf, .int ft])), (ta, .inr (3, [.ref ab, .int z])), (o3, .inl (cJ, n_ou, .inr (.inl b_ou)))] (fun v w => v = some (.int 0) ∧ w = [(x0, .inr (7, [.ref ar, .ref aw, .ref at', .ref ta, .ref sr, .ref fm, .ref sf, .int ft])), (ta, .inr (3, [.ref ab, .int o_size])), (o3, .inl (cJ, n_ou, .inr (.inl (va_up b_ou 0 o_size.toInt64))))]) 0 0) method_3_code 4 R_La 0 [(0, .ref x0), (1, .int p2), (2, .ref o3)] [] [(x0, .inr (7, [.ref ar, .ref aw, .ref at', .ref ta, .ref sr, .ref fm, .ref sf, .int ft])), (ta, .inr (3, [.ref ab, .int z])), (o3, .inl (cJ, n_ou, .inr (.inl b_ou)))] 0 0 := by
      refine j_aload_n d_La_end_0 rfl 2 rfl ?_
      refine j_iconst (v := 0) d_La_end_1 (by decide) ?_
      refine j_aload_n d_La_end_2 rfl 0 rfl ?_
      refine j_iload_n d_La_end_3 rfl 1 rfl ?_
      refine j_callV (n := 1) (As := [.int p2]) (rest := [.int 0, .ref o3]) (wr := [(o3, .inl (cJ, n_ou, .inr (.inl b_ou)))]) (c_Eq_end l D cI cB cJ cS x0 ar aw at' ta sr fm sf ab p2 ft z o_size o_size hE) k_La_7 (by decide) ⟨Nat.le_of_ble_eq_true rfl, Nat.le_of_ble_eq_true rfl⟩ rfl 0 rfl [0, 1] [2] rfl (by decide) rfl (by decide) (by decide) rfl rfl (Nat.le_of_ble_eq_true rfl) d_La_end_4 ⟨Nat.le_refl _, Nat.le_refl _⟩ (fun v w hq => ?_)
      obtain ⟨rfl, rfl⟩ := hq
      refine j_norm (pc' := 7) (st' := [.int o_size, .int 0, .ref o3]) (ws' := [(o3, .inl (cJ, n_ou, .inr (.inl b_ou))), (x0, .inr (7, [.ref ar, .ref aw, .ref at', .ref ta, .ref sr, .ref fm, .ref sf, .int ft])), (ta, .inr (3, [.ref ab, .int o_size]))]) (cl' := 0) (sl' := 0) rfl rfl rfl rfl rfl rfl ?_
      refine j_i2l d_La_end_7 ?_
      refine j_last (t0 := 2) (ws' := [(o3, .inl (cJ, n_ou, .inr (.inl (va_up b_ou 0 o_size.toInt64)))), (x0, .inr (7, [.ref ar, .ref aw, .ref at', .ref ta, .ref sr, .ref fm, .ref sf, .int ft])), (ta, .inr (3, [.ref ab, .int o_size]))]) 0 rfl rfl hin d_La_end_8 rfl ?_
      refine j_goto (tgt := 15) d_La_end_9 (by decide) ?_
      refine j_iconst (v := 0) d_La_end_15 (by decide) ?_
      exact j_iret (w := [(x0, .inr (7, [.ref ar, .ref aw, .ref at', .ref ta, .ref sr, .ref fm, .ref sf, .int ft])), (ta, .inr (3, [.ref ab, .int o_size])), (o3, .inl (cJ, n_ou, .inr (.inl (va_up b_ou 0 o_size.toInt64))))]) B.returns d_La_end_16 [1, 2, 0] rfl (by decide) ⟨rfl, rfl⟩
    exact JJ ⟨B.exec, B.bytes, hml, hown, htg, hK, fun q h => Or.inr h, hN, hlk, hSt⟩ s.heap [] ls hP (hD.self (sz := s.heap.size)) va_S.rf hl
