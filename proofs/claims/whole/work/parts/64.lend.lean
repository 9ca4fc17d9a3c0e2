/-! ===== EquationText.end where it throws, and the law's own end ===== -/
abbrev nIAE : String := "java/lang/IllegalArgumentException"
abbrev nThr : String := "java/lang/Throwable"
abbrev y_La_end : MethodName := ⟨"EquationTextLaw", "end", "(LEquationText;I[J)I"⟩
theorem d_Eq_end_22 : decode prog_1_method_3_code 22 = .ok (.new 59, 3) := by decide +kernel
theorem d_Eq_end_25 : decode prog_1_method_3_code 25 = .ok (.dup, 1) := by decide +kernel
theorem d_Eq_end_26 : decode prog_1_method_3_code 26 = .ok (.ldc 61, 2) := by decide +kernel
theorem d_Eq_end_28 : decode prog_1_method_3_code 28 = .ok (.invokespecial 63, 3) := by decide +kernel
theorem d_Eq_end_31 : decode prog_1_method_3_code 31 = .ok (.athrow, 1) := by decide +kernel
theorem d_La_end_0 : decode method_3_code 0 = .ok (.aload_n 2, 1) := by decide +kernel
theorem d_La_end_1 : decode method_3_code 1 = .ok (.iconst 0, 1) := by decide +kernel
theorem d_La_end_2 : decode method_3_code 2 = .ok (.aload_n 0, 1) := by decide +kernel
theorem d_La_end_3 : decode method_3_code 3 = .ok (.iload_n 1, 1) := by decide +kernel
theorem d_La_end_4 : decode method_3_code 4 = .ok (.invokevirtual 7, 3) := by decide +kernel
theorem d_La_end_7 : decode method_3_code 7 = .ok (.i2l, 1) := by decide +kernel
theorem d_La_end_8 : decode method_3_code 8 = .ok (.lastore, 1) := by decide +kernel
theorem d_La_end_9 : decode method_3_code 9 = .ok (.goto 6, 3) := by decide +kernel
theorem d_La_end_12 : decode method_3_code 12 = .ok (.astore_n 3, 1) := by decide +kernel
theorem d_La_end_13 : decode method_3_code 13 = .ok (.iconst 1, 1) := by decide +kernel
theorem d_La_end_14 : decode method_3_code 14 = .ok (.ireturn, 1) := by decide +kernel
theorem d_La_end_15 : decode method_3_code 15 = .ok (.iconst 0, 1) := by decide +kernel
theorem d_La_end_16 : decode method_3_code 16 = .ok (.ireturn, 1) := by decide +kernel
noncomputable def F_La_end (p2 : Int32) (fault_x0 : Int32) (size_t : Int32) (n_ou : Nat) (b_ou : Nat → Int64) : Option ((Int32 × Int32 × (Nat → Int64)) × Nat × Nat) :=
  if p2 < 0 then (al 1 6 (some ((1, size_t, b_ou), 0, 0)))
  else if 20 < p2 then (al 1 6 (some ((1, size_t, b_ou), 0, 0)))
  else if size_t < 20 then (al 1 6 (some ((1, size_t, b_ou), 0, 0)))
  else (nm (F_Rw_cut (size_t - 20 + p2) size_t) fun r1 => inb 0 n_ou (some ((0, r1, va_up b_ou 0 r1.toInt64), 0, 0)))
theorem La_bad {p2 ft sz : Int32} {n : Nat} {b : Nat → Int64} (h : p2 < 0 ∨ 20 < p2 ∨ sz < 20) : F_La_end p2 ft sz n b = some ((1, sz, b), 1, 6) := by
  unfold F_La_end
  by_cases c1 : p2 < 0
  · rw [if_pos c1]; rfl
  · rw [if_neg c1]
    by_cases c2 : 20 < p2
    · rw [if_pos c2]; rfl
    · rw [if_neg c2, if_pos ((h.resolve_left c1).resolve_left c2)]; rfl
theorem La_good {p2 ft sz : Int32} {n : Nat} {b : Nat → Int64} {x : Int32 × Int32 × (Nat → Int64)} {mc ms : Nat} (h : ¬ (p2 < 0 ∨ 20 < p2 ∨ sz < 20)) (he : F_La_end p2 ft sz n b = some (x, mc, ms)) :
    ∃ r1, F_Eq_end p2 ft sz = some (r1, r1) ∧ vp_in 0 n ∧ x = (0, r1, va_up b 0 r1.toInt64) ∧ mc = 0 ∧ ms = 0 := by
  have c1 : ¬ p2 < 0 := fun c => h (Or.inl c)
  have c2 : ¬ 20 < p2 := fun c => h (Or.inr (Or.inl c))
  have c3 : ¬ sz < 20 := fun c => h (Or.inr (Or.inr c))
  refine ⟨F_Rw_cut (sz - 20 + p2) sz, ?_, ?_⟩
  · unfold F_Eq_end
    rw [if_neg c1, if_neg c2, if_pos (Int32.not_lt.mp c3)]
    rfl
  · unfold F_La_end at he
    rw [if_neg c1, if_neg c2, if_neg c3] at he
    unfold nm at he
    obtain ⟨h1, h2⟩ := inb_s he
    cases h2
    exact ⟨h1, rfl, rfl, rfl⟩
/-! the two statics of Throwable -/
abbrev zUn : String := "[Ljava/lang/StackTraceElement;"
abbrev zLi : String := "Ljava/util/List;"
def ZL (C n d : String) (A : Nat → Prop) (U : State) (H : Heap) : Prop := ∃ (c : ClassId) (k : Class) (i : Nat) (f : Field) (a : Nat) (cell : Cell) (v : Value), U.vm.findClass C = some c ∧ U.fieldFound? C n d = some (c, k, i, f) ∧ f.isStatic = true ∧ k.statics = some a ∧ H[a]? = some cell ∧ cell.vm.isStatics = true ∧ cell.cls = c ∧ f.slot < cell.slots.size ∧ k.staticTypes[f.slot]? = some f.type ∧ cell.slots[f.slot]? = some v ∧ (v = .null ∨ ∃ t, v = .ref t) ∧ ¬ A a
theorem ZL.go {C n d : String} {A B : Nat → Prop} {u U : State} {H H1 : Heap} (h : ZL C n d A u H) (hvm : u.vm.Alike U.vm) (hq : ∀ a : Nat, a < H.size → ¬ A a → H1[a]? = H[a]?) (hF : ∀ q, B q → A q) : ZL C n d B U H1 := by
  obtain ⟨c, k, i, f, a, cell, v, h1, h2, h3, h4, h5, h6, h7, h8, h9, h10, h11, h12⟩ := h
  obtain ⟨k', hi', he⟩ := State.fieldFound?_setVm hvm h2
  exact ⟨c, k', i, f, a, cell, v, by rw [hvm.findClass]; exact h1, hi', h3, by rw [he]; exact h4, by rw [hq a (Array.getElem?_eq_some_iff.mp h5).1 h12]; exact h5, h6, h7, h8, by rw [he]; exact h9, h10, h11, fun z => h12 (hF a z)⟩
theorem ZL.lays {C n d : String} {A : Nat → Prop} {U : State} {a : Array Value} (h : ZL C n d A U U.heap) : (Cond.laysStatic C n d).before a U = true := by
  obtain ⟨c, k, i, f, q, cell, v, h1, h2, h3, h4, h5, h6, h7, h8, h9, h10, h11, h12⟩ := h
  simp [Cond.before, Cond.holds, Cond.value, h1, h2, h3, h4, h5, h6, h7, h8, h9]
theorem ZL.isRef {C n d : String} {A : Nat → Prop} {U : State} {a : Array Value} (h : ZL C n d A U U.heap) : (Cond.isRef (.static C n d)).before a U = true := by
  obtain ⟨c, k, i, f, q, cell, v, h1, h2, h3, h4, h5, h6, h7, h8, h9, h10, h11, h12⟩ := h
  rcases h11 with rfl | ⟨t, rfl⟩
  · simp [Cond.before, Cond.holds, Cond.value, Term.eval, State.fieldNamed?, h2, h3, h4, h5, h6, h10]
  · simp [Cond.before, Cond.holds, Cond.value, Term.eval, State.fieldNamed?, h2, h3, h4, h5, h6, h10]
theorem ZL.of {C n d : String} {A : Nat → Prop} {s : State} {args : Array Value} (hl : (Cond.laysStatic C n d).before args s = true) (h : (Cond.isRef (.static C n d)).before args s = true) (hA : ∀ a : Nat, a < s.heap.size → ¬ A a) : ZL C n d A s s.heap := by
  obtain ⟨c, k, i, f, a, cell, h1, h2, h3, h4, h5, h6, h7, h8, h9⟩ := Cond.laysStatic_spec hl
  have hv : cell.slots[f.slot]? = some cell.slots[f.slot] := Array.getElem?_eq_getElem h8
  refine ⟨c, k, i, f, a, cell, cell.slots[f.slot], h1, h2, h3, h4, h5, h6, h7, h8, h9, hv, ?_, hA a (Array.getElem?_eq_some_iff.mp h5).1⟩
  generalize cell.slots[f.slot] = v at hv
  cases v with
  | null => exact Or.inl rfl
  | ref t => exact Or.inr ⟨t, rfl⟩
  | _ => simp [Cond.before, Cond.holds, Cond.value, Term.eval, State.fieldNamed?, h2, h3, h4, h5, h6, hv] at h
def ThS (A : Nat → Prop) (U : State) (H : Heap) : Prop := ZL nThr "UNASSIGNED_STACK" zUn A U H ∧ ZL nThr "SUPPRESSED_SENTINEL" zLi A U H
theorem ThS_call {A B : Nat → Prop} {s U : State} {H : Heap} {locs : List Loc} (h : ThS A s s.heap) (hS : va_S A s.heap H locs) (hW : s.WarmedH U.vm) (hU : U.heap = H) (hF : ∀ q, B q → A q) : ThS B U U.heap := by
  subst hU
  exact ⟨h.1.go hW.alike hS.2.1 hF, h.2.go hW.alike hS.2.1 hF⟩
theorem ThS_same {A : Nat → Prop} {u U : State} {H : Heap} (hv : u.vm = U.vm) (h : ThS A u H) : ThS A U H := by
  have hal : u.vm.Alike U.vm := by rw [hv]; exact Vm.Alike.refl _
  exact ⟨h.1.go hal (fun _ _ _ => rfl) (fun _ h => h), h.2.go hal (fun _ _ _ => rfl) (fun _ h => h)⟩
theorem as_self (vm : Vm) (c : ClassId) : vm.assignable c c = true := by unfold Vm.assignable Vm.assignableAux; simp
theorem cast_self {C : String} {n : Nat} {args : Array Value} {s : State} (h : (Cond.instantiable C n).before args s = true) : (Cond.castable C C).before args s = true := by
  obtain ⟨c1, k, hc1, -⟩ := Cond.instantiable_spec h
  simp [Cond.before, Cond.holds, Cond.value, hc1, as_self]
theorem dec_of {x : MethodName} {bytes : ByteArray} {mL : Nat} {rt : Option FieldType} {args : Array Value} {s : State} (h1 : (Cond.instanceMethod x).before args s = true) (h2 : (Cond.code x bytes mL rt).before args s = true) : (Cond.declares x).before args s = true := by
  obtain ⟨m, meth, hn, hm, hst, -⟩ := Cond.instanceMethod_spec h1
  obtain ⟨meth', c, hm', -, -, -, -, -, -, hsig⟩ := Cond.code_spec hn h2
  cases hm.symm.trans hm'
  simp [Cond.before, Cond.holds, Cond.value, hn, hm, hst, hsig]
/-! the words that the throw asks -/
abbrev iaeUp2 : List String := ["java/lang/RuntimeException", "java/lang/Exception"]
abbrev iR1 : Cond := .isRef (.static Bundle.tN "UNASSIGNED_STACK" Bundle.steD)
abbrev iR2 : Cond := .isRef (.static Bundle.tN "SUPPRESSED_SENTINEL" Bundle.listD)
def inTbl (a : Cond) : Bool := lw_tbl.any (fun w => decide (w = a)) && goodWord a
abbrev yS (C : String) : MethodName := ⟨C, "<init>", "(Ljava/lang/String;)V"⟩
set_option maxRecDepth 100000 in
theorem mt_1025 : Cond.instanceMethod (yS "java/lang/RuntimeException") ∈ gG := gG_in (List.mem_append_right _ (List.mem_of_getElem? (i := 1025) (by decide +kernel))) rfl
set_option maxRecDepth 100000 in
theorem mt_1026 : Cond.code (yS "java/lang/RuntimeException") prog_18_method_2_code 2 none ∈ gG := gG_in (List.mem_append_right _ (List.mem_of_getElem? (i := 1026) (by decide +kernel))) rfl
set_option maxRecDepth 100000 in
theorem mt_1028 : Cond.instanceMethod (yS "java/lang/Exception") ∈ gG := gG_in (List.mem_append_right _ (List.mem_of_getElem? (i := 1028) (by decide +kernel))) rfl
set_option maxRecDepth 100000 in
theorem mt_1029 : Cond.code (yS "java/lang/Exception") prog_15_method_2_code 2 none ∈ gG := gG_in (List.mem_append_right _ (List.mem_of_getElem? (i := 1029) (by decide +kernel))) rfl
set_option maxRecDepth 100000 in
theorem mt_1031 : Cond.instanceMethod (yS nThr) ∈ gG := gG_in (List.mem_append_right _ (List.mem_of_getElem? (i := 1031) (by decide +kernel))) rfl
set_option maxRecDepth 100000 in
theorem mt_1032 : Cond.code (yS nThr) prog_23_method_2_code 2 none ∈ gG := gG_in (List.mem_append_right _ (List.mem_of_getElem? (i := 1032) (by decide +kernel))) rfl
set_option maxRecDepth 100000 in
theorem mt_982 : Cond.instantiable nIAE 6 ∈ gG := gG_in (List.mem_append_right _ (List.mem_of_getElem? (i := 982) (by decide +kernel))) rfl
def ownX : List Cond := [iR1, iR2, .laysStatic nThr "UNASSIGNED_STACK" zUn, .laysStatic nThr "SUPPRESSED_SENTINEL" zLi, .castable nIAE nIAE, .declares (yS "java/lang/RuntimeException"), .declares (yS "java/lang/Exception"), .declares (yS nThr)]
set_option maxRecDepth 100000 in
theorem own_ok : (Bundle.ownAtoms R_Eq 63 nIAE iaeUp2).all (fun a => ownX.any (fun w => decide (w = a)) || inTbl a) = true := by decide +kernel
theorem own_in {args : Array Value} {s : State} {A : Nat → Prop} (hG : ∀ w ∈ gG, w.before args s = true) (hT : ThS A s s.heap) : ∀ a ∈ Bundle.ownAtoms R_Eq 63 nIAE iaeUp2, a.before args s = true := by
  intro a ha
  have h := List.all_eq_true.mp own_ok a ha
  rw [Bool.or_eq_true] at h
  rcases h with h | h
  · rw [List.any_eq_true] at h
    obtain ⟨w, hw, he⟩ := h
    have he := of_decide_eq_true he
    subst he
    unfold ownX at hw
    simp only [List.mem_cons, List.not_mem_nil, or_false] at hw
    rcases hw with rfl | rfl | rfl | rfl | rfl | rfl | rfl | rfl
    · exact hT.1.isRef
    · exact hT.2.isRef
    · exact hT.1.lays
    · exact hT.2.lays
    · exact cast_self (hG _ mt_982)
    · exact dec_of (hG _ mt_1025) (hG _ mt_1026)
    · exact dec_of (hG _ mt_1028) (hG _ mt_1029)
    · exact dec_of (hG _ mt_1031) (hG _ mt_1032)
  · unfold inTbl at h
    rw [Bool.and_eq_true, List.any_eq_true] at h
    obtain ⟨⟨w, hw, he⟩, hg⟩ := h
    have he := of_decide_eq_true he
    subst he
    exact hG _ (gG_in hw hg)
/-! Row.size, which changes nothing -/
theorem z_Rw_size (l : Launch) (D : va_G) (cI cB cJ cS : ClassId) (h0 ab : Nat) (z : Int32) (H0 : Heap) : Met l y_Rw_size (.code y_Rw_size prog_7_method_2_code 1 (Option.some Jvm.ClassFile.FieldType.int) :: gG) { frames := 0, cells := 0, slots := 0, locals := 0 } (va_Pc [.ref h0] (fun U => U.heap = H0 ∧ va_P D gCl [(h0, .inr (3, [.ref ab, .int z]))] H0 ∧ va_K D gCl (gT cI cB cJ cS) U)) (fun _ st oc t => oc = .returned (some (.int z)) ∧ t.heap = st.heap) 0 0 (fun _ => False) := by
  refine Met.ofW (cc := prog_7_method_2_code) (maxL := 1) (ret := Option.some Jvm.ClassFile.FieldType.int) (by decide) rfl ?_
  intro p e s m args below meth c s₁ B hml hv
  obtain ⟨rfl, hsz, hP, hK⟩ := hv
  have hts := atoms_spec (ws := .code y_Rw_size prog_7_method_2_code 1 (Option.some Jvm.ClassFile.FieldType.int) :: gG) B.pre
  have hown : s.vm.findClass y_Rw_size.cls = some m.cls := findClass_of_methodNamed B.named
  have hl := lv_entry [Value.ref h0] (n := 1) (Nat.le_of_ble_eq_true rfl)
  rw [lg_entry_eq]
  refine lv_aload_n B.exec B.bytes d_Rw_size_0 rfl (lv_at hl 0 rfl) ?_
  refine va_get (D := D) (cl := gCl) B.exec B.bytes (fun w hw => hts w (List.mem_cons_of_mem _ hw)) ig_Rw hown hK (by rw [hsz]; exact hP) 0 rfl rfl 1 (by decide) (hts _ (List.mem_cons_of_mem _ m_50)) (fun x h9 => h9) rfl d_Rw_size_1 ?_
  exact W.iret B.exec B.bytes B.returns (fun t ht _ => ⟨rfl, ht⟩) (fun q hq => by cases hq) d_Rw_size_4
theorem z_blind {D : va_G} {T : List (ClassId × FieldType)} {as : List Value} {w : va_W} {H0 : Heap} : FrameBlind (va_Pc as (fun U => U.heap = H0 ∧ va_P D gCl w H0 ∧ va_K D gCl T U)) := by
  intro a U g mk q
  obtain ⟨q0, q1, qP, qK⟩ := q
  exact ⟨q0, q1, qP, va_K.moved (u := U) (U := U.calling g mk a) (Vm.Alike.refl U.vm) qK⟩
theorem run_same {p : Program} {l : Launch} {e : Env} {R : Room} {s : State} {m : MethodId} {args : Array Value} {below : List Frame} {meth : Method} {c : Code} {H : Heap} {cl sl pc : Nat} {ls : Array Slot} {st0 rest : List Value} {v : Value} {Q : State → Prop}
    (hr : va_Run p l e R s m args below meth c H [] cl sl 0 0 (F0 m pc ls st0) rest (fun st oc t => oc = .returned (some v) ∧ t.heap = st.heap) (fun _ => False)) (kk : W p l e R s m args below meth c H [] cl sl Q (F0 m (pc + 3) ls (v :: rest))) : W p l e R s m args below meth c H [] cl sl Q (F0 m pc ls st0) := by
  intro T hT X
  obtain ⟨v', st₀, t, T', L, h0, X', hL, e1, e2, ⟨hv, hh⟩, st⟩ := hr T hT X
  cases hv
  have hLn : L = [] := List.eq_nil_iff_forall_not_mem.mpr (fun q hq => hL q hq)
  subst hLn
  obtain ⟨t2, a1, b1⟩ := kk T' (by rw [e1, hh, h0]) X'
  exact ⟨t2, st t2 a1, b1⟩
theorem tr_off {l : Launch} {e : Env} (hf : l.flags = pinnedFlags ++ [noTraceFlag]) (ha : l.admits e) : e.platform.stackTraces = false := by
  obtain ⟨-, -, -, -, hp, -⟩ := ha
  rw [hp]
  show l.stackTraces = false
  unfold Launch.stackTraces; rw [hf]; decide
/-- what holds where end is called -/
def PreE (D : va_G) (T : List (ClassId × FieldType)) (wc : va_W) (sz : Nat) (U : State) : Prop := U.heap.size = sz ∧ va_P D gCl wc U.heap ∧ va_K D gCl T U ∧ va_D (fun _ => True) wc ∧ gN U ∧ gS D (va_A wc sz) U U.heap ∧ ThS (va_A wc sz) U U.heap
theorem PreE_blind {D : va_G} {T : List (ClassId × FieldType)} {as : List Value} {wc : va_W} {sz : Nat} : FrameBlind (va_Pc as (PreE D T wc sz)) := by
  intro a U g mk q
  obtain ⟨q0, q1, qP, qK, qD, qN, qS, qT⟩ := q
  exact ⟨q0, q1, qP, va_K.moved (u := U) (U := U.calling g mk a) (Vm.Alike.refl U.vm) qK, qD, gN_same (u := U) (U := U.calling g mk a) rfl qN, gS_same (u := U) (U := U.calling g mk a) rfl qS, ThS_same (u := U) (U := U.calling g mk a) rfl qT⟩
/-- it threw a new IllegalArgumentException; nothing else is other than it was -/
def QT : Array Value → State → Outcome → State → Prop := fun _ st o t => ∃ (x : Addr) (ce : Cell), o = .threw x ∧ t.heap[x]? = some ce ∧ ce.vm = .none ∧ st.vm.findClass nIAE = some ce.cls ∧ Jvm.Free.FrameEndT st o t [] 1 6
abbrev rmE : Room := { frames := 6, cells := 1, slots := 6, locals := 120 }
abbrev wsE : List Cond := .code y_Eq_end prog_1_method_3_code 2 (Option.some Jvm.ClassFile.FieldType.int) :: gG
set_option maxRecDepth 100000 in
theorem mt_981 : Cond.classLink R_Eq 59 nIAE ∈ gG := gG_in (List.mem_append_right _ (List.mem_of_getElem? (i := 981) (by decide +kernel))) rfl
theorem mt_iae : Cond.initialized nIAE ∈ gG := gG_in (List.mem_append_right _ (List.mem_of_getElem? (i := 17) (by decide +kernel))) rfl
set_option maxRecDepth 100000 in
theorem mt_975 : Cond.codeWith y_La_end method_3_code 4 (Option.some Jvm.ClassFile.FieldType.int) [(0, 9, 12, 13)] ∈ gG := gG_in (List.mem_append_right _ (List.mem_of_getElem? (i := 975) (by decide +kernel))) rfl
set_option maxRecDepth 100000 in
theorem mt_973 : Cond.methodLink R_La 24 y_La_end ∈ gG := gG_in (List.mem_append_right _ (List.mem_of_getElem? (i := 973) (by decide +kernel))) rfl
set_option maxRecDepth 100000 in
theorem mt_974 : Cond.static y_La_end ∈ gG := gG_in (List.mem_append_right _ (List.mem_of_getElem? (i := 974) (by decide +kernel))) rfl
set_option maxRecDepth 100000 in
theorem mt_976 : Cond.classLink R_La 13 nIAE ∈ gG := gG_in (List.mem_append_right _ (List.mem_of_getElem? (i := 976) (by decide +kernel))) rfl
set_option maxRecDepth 100000 in
theorem mt_977 : Cond.methodLink R_La 7 y_Eq_end ∈ gG := gG_in (List.mem_append_right _ (List.mem_of_getElem? (i := 977) (by decide +kernel))) rfl
set_option maxRecDepth 100000 in
theorem mt_978 : Cond.instanceMethod y_Eq_end ∈ gG := gG_in (List.mem_append_right _ (List.mem_of_getElem? (i := 978) (by decide +kernel))) rfl
set_option maxRecDepth 100000 in
theorem mt_979 : Cond.selects R_Eq y_Eq_end y_Eq_end ∈ gG := gG_in (List.mem_append_right _ (List.mem_of_getElem? (i := 979) (by decide +kernel))) rfl
set_option maxRecDepth 100000 in
theorem mt_980 : Cond.code y_Eq_end prog_1_method_3_code 2 (Option.some Jvm.ClassFile.FieldType.int) ∈ gG := gG_in (List.mem_append_right _ (List.mem_of_getElem? (i := 980) (by decide +kernel))) rfl
theorem mt_1 : Cond.initialized R_Eq ∈ gG := gG_in (List.mem_append_right _ (List.mem_of_getElem? (i := 1) (by decide +kernel))) rfl
theorem mt_La : Cond.initialized R_La ∈ gG := gG_in (List.mem_append_right _ (List.mem_of_getElem? (i := 0) (by decide +kernel))) rfl
set_option maxHeartbeats 4000000 in
set_option maxRecDepth 100000 in
theorem t_Eq_end (l : Launch) (hfl : l.flags = pinnedFlags ++ [noTraceFlag]) (D : va_G) (cI cB cJ cS : ClassId) (h0 ar aw at' ta sr fm sf ab : Nat) (p1 ft z : Int32) (hbad : p1 < 0 ∨ 20 < p1 ∨ z < 20) (sz : Nat) : MetFree l y_Eq_end (headSpec wsE rmE) (va_Pc [.ref h0, .int p1] (PreE D (gT cI cB cJ cS) [(h0, .inr (7, [.ref ar, .ref aw, .ref at', .ref ta, .ref sr, .ref fm, .ref sf, .int ft])), (ta, .inr (3, [.ref ab, .int z]))] sz)) (fun _ _ _ _ _ => True) QT := by
  refine MetFree.of_bodyS (code := prog_1_method_3_code) (maxLocals := 2) (ret := Option.some Jvm.ClassFile.FieldType.int) (by decide) ?_ ?_
  · intro args s m h hn
    obtain ⟨meth, c, h1, h2, h3, h4, h5, h6, -, -⟩ := Cond.code_spec hn (atoms_spec (ws := wsE) h _ List.mem_cons_self)
    exact ⟨meth, c, h1, h2, h3, h4, h5, h6⟩
  · intro p e s m args below meth c s₁ B hml hv _
    obtain ⟨rfl, hsz, hP, hK, hD, hN, hSt, hTh⟩ := hv
    have hts := atoms_spec (ws := wsE) B.pre
    have htg : ∀ w ∈ gG, w.before ([Value.ref h0, .int p1] : List Value).toArray s = true := fun w hw => hts w (List.mem_cons_of_mem _ hw)
    have hown : s.vm.findClass y_Eq_end.cls = some m.cls := findClass_of_methodNamed B.named
    have hh0 : s₁.heap = s.heap := by rw [B.state]; rfl
    have hlk : meth.locks = false := B.notSynchronized
    have hout : ∀ x ∈ c.exceptionTable.toList, covers x 31 = false := by
      have := B.noHandlers (hts _ List.mem_cons_self)
      intro x hx
      rw [Array.isEmpty_iff] at this
      rw [this] at hx
      cases hx
    have hl := lv_entry [Value.ref h0, .int p1] (n := 2) (Nat.le_of_ble_eq_true rfl)
    have K : W p l e rmE s m ([Value.ref h0, .int p1] : List Value).toArray below meth c s.heap [] 0 0 (fun t => ∃ o, t.status = .running ∧ Ended t below o ∧ QT ([Value.ref h0, .int p1] : List Value).toArray s o t) (entryFrame m ([Value.ref h0, .int p1] : List Value).toArray 2) := by
      rw [lg_entry_eq]
      generalize ((lg_sl [Value.ref h0, .int p1] ++ List.replicate (2 - (lg_sl [Value.ref h0, .int p1]).length) Slot.unset).toArray) = ls at hl ⊢
      have key : W p l e rmE s m ([Value.ref h0, .int p1] : List Value).toArray below meth c s.heap [] 0 0 (fun t => ∃ o, t.status = .running ∧ Ended t below o ∧ QT ([Value.ref h0, .int p1] : List Value).toArray s o t) (F0 m 22 ls []) := by
        refine W.newc B.exec B.bytes hown (htg _ mt_981) (htg _ mt_982) (htg _ mt_iae) rfl d_Eq_end_22 (by decide) (by decide) (fun cC kC k1 k2 k3 k4 => ?_)
        refine lv_dup B.exec B.bytes d_Eq_end_25 rfl ?_
        refine va_ldcS B.exec B.bytes hown (hSt.1 39 _ rfl).1 d_Eq_end_26 ?_
        intro T hT X
        obtain ⟨U, st, hrun, hend, hW, hsame, ce, hce, hoc⟩ := X.ctorThrowS B.exec (tr_off hfl X.admits) (own := R_Eq) (cls := nIAE) (names := iaeUp2) (ic := 63) hown (by decide) (by decide) (own_in htg hTh) (fun x hx => by cases hx) k1 k2 (a := s.heap.size) (by rw [hT]; simp) (Nat.le_refl _) (msg := .ref (sA D 39)) rfl (g := F0 m 28 ls [.ref (sA D 39), .ref s.heap.size, .ref s.heap.size]) rfl (hl.1.trans hml.symm) rfl rfl (rest := []) rfl (by rw [B.bytes]; exact d_Eq_end_28) (by rw [B.bytes]; exact d_Eq_end_31) hout (by decide) (by show 2 * 0 + 1 + (13 * 3 + 42) ≤ 120; decide)
        exact ⟨U, st, .threw s.heap.size, hrun, hend, s.heap.size, ce, rfl, hce, hoc.vm, hoc.cls, ⟨_, rfl⟩, hW, hsame⟩
      refine lv_iload_n B.exec B.bytes d_Eq_end_0 rfl (lv_at hl 1 rfl) ?_
      refine lv_if_lt B.exec B.bytes (tgt := 22) d_Eq_end_1 (by decide) (fun c1 => key) (fun c1 => ?_)
      refine lv_iload_n B.exec B.bytes d_Eq_end_4 rfl (lv_at hl 1 rfl) ?_
      refine lv_bipush B.exec B.bytes (v := 20) d_Eq_end_5 (by decide) ?_
      refine lv_icmp_gt B.exec B.bytes (tgt := 22) d_Eq_end_7 (by decide) (fun c2 => key) (fun c2 => ?_)
      have c3 : z < 20 := (hbad.resolve_left c1).resolve_left c2
      refine lv_aload_n B.exec B.bytes d_Eq_end_10 rfl (lv_at hl 0 rfl) ?_
      refine va_get (D := D) (cl := gCl) B.exec B.bytes htg ig_Eq hown hK hP 0 rfl rfl 3 (by decide) (htg _ m_242) (fun x h9 => h9) rfl d_Eq_end_11 ?_
      have hP2 : va_P D gCl [(ta, .inr (3, [.ref ab, .int z]))] s.heap := pickP (is := [1]) hP rfl
      refine run_same (va_runV (As := []) (rest := []) ⟨B.exec, B.bytes, hml, hown, htg⟩ (z_Rw_size l D cI cB cJ cS ta ab z s.heap) (cwV 0 htg k_Eq_50 rfl rfl rfl (by decide) ⟨Nat.le_of_ble_eq_true rfl, Nat.le_of_ble_eq_true rfl⟩) ⟨z_blind, va_recv (q0 := 0) hK hP2 rfl rfl, fun U hU hW => ⟨rfl, hU, hP2, va_K.moved hW.alike hK⟩⟩ rfl rfl hl.1 rfl (lv_room (by decide)) d_Eq_end_14 ⟨by decide, by decide⟩) ?_
      refine lv_bipush B.exec B.bytes (v := 20) d_Eq_end_17 (by decide) ?_
      exact lv_icmp_ge B.exec B.bytes (tgt := 32) d_Eq_end_19 (by decide) (fun c4 => absurd c4 (Int32.not_le.mpr c3)) (fun c4 => key)
    obtain ⟨t, a1, o, b1, b2, b3⟩ := K s₁ hh0 (Stand.of_body B)
    exact ⟨t, o, a1, b1, b2, b3⟩
