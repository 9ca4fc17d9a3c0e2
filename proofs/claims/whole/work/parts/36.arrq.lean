/-! ===== rows of String constants ===== -/
def CtA (l : Launch) (D : va_G) (T : List (ClassId × FieldType)) (y : MethodName) (by' : ByteArray) (mL : Nat) (rt : Option FieldType) (fr lo mc ms : Nat) (as : List Value) (wc : va_W) (Qr : Option Value → va_W → Prop) : Prop :=
  ∀ sz : Nat, Met l y (.code y by' mL rt :: gG) { frames := fr, cells := mc, slots := ms, locals := lo } (va_Pc as (fun U => U.heap.size = sz ∧ va_P D gCl wc U.heap ∧ va_K D gCl T U ∧ va_D (fun _ => True) wc ∧ gN U ∧ gS D (va_A wc sz) U U.heap ∧ va_AO "java/lang/String" U)) (CQ D wc sz Qr) mc ms (va_A wc sz)
theorem CtA_blind {D : va_G} {T : List (ClassId × FieldType)} {as : List Value} {wc : va_W} {sz : Nat} : FrameBlind (va_Pc as (fun U => U.heap.size = sz ∧ va_P D gCl wc U.heap ∧ va_K D gCl T U ∧ va_D (fun _ => True) wc ∧ gN U ∧ gS D (va_A wc sz) U U.heap ∧ va_AO "java/lang/String" U)) := by
  intro a U g mk q
  obtain ⟨q0, q1, qP, qK, qD, qN, qS, qA⟩ := q
  exact ⟨q0, q1, qP, va_K.moved (u := U) (U := U.calling g mk a) (Vm.Alike.refl U.vm) qK, qD, gN_same (u := U) (U := U.calling g mk a) rfl qN, gS_same (u := U) (U := U.calling g mk a) rfl qS, va_AO.moved (u := U) (U := U.calling g mk a) (Vm.Alike.refl U.vm) qA⟩
theorem CtA.mk {l : Launch} {D : va_G} {T : List (ClassId × FieldType)} {y : MethodName} {by' : ByteArray} {mL : Nat} {rt : Option FieldType} {fr lo mc ms : Nat} {as : List Value} {wc : va_W} {Qr : Option Value → va_W → Prop} (hy : plainName y.cls = true) (hlen : (lg_sl as).length ≤ mL)
    (body : ∀ (p : Program) (e : Env) (s : State) (m : MethodId) (below : List Frame) (meth : Method) (c : Code), meth.sig.returnType = rt → meth.name = y.name → va_AO "java/lang/String" s → J (KxOf p l e { frames := fr, cells := mc, slots := ms, locals := lo } s m as.toArray below meth c D T wc Qr mc ms) by' mL y.cls 0 (lv_args 0 as) [] wc 0 0) : CtA l D T y by' mL rt fr lo mc ms as wc Qr := by
  intro sz
  refine Met.ofW (cc := by') (maxL := mL) (ret := rt) hy rfl ?_
  intro p e s m args below meth c s₁ B hml hv
  obtain ⟨rfl, hsz, hP, hK, hD0, hN, hSt, hAO⟩ := hv
  subst hsz
  have hts := atoms_spec (ws := .code y by' mL rt :: gG) B.pre
  have hown : s.vm.findClass y.cls = some m.cls := findClass_of_methodNamed B.named
  have hl := lv_entry as (n := mL) hlen
  rw [lg_entry_eq]
  exact body p e s m below meth c B.returns (name_of_methodNamed B.named B.method).1 hAO ⟨B.exec, B.bytes, hml, hown, fun w hw => hts w (List.mem_cons_of_mem _ hw), hK, fun q h => Or.inr h, hN, B.notSynchronized, hSt⟩ s.heap [] _ hP (hD0.self (sz := s.heap.size)) va_S.rf hl
theorem asg_self (n : Nat) (vm : Vm) (x : ClassId) : vm.assignableAux (n + 1) x x = true := by
  rw [Vm.assignableAux, beq_self_eq_true, Bool.true_or]
section JArrq
variable {p : Program} {l : Launch} {e : Env} {R : Room} {s : State} {m : MethodId} {args : Array Value} {below : List Frame} {meth : Method} {c : Code} {D : va_G} {A : Nat → Prop} {Q : State → Prop} {cc : ByteArray} {nL : Nat} {own : String} {pc cl sl : Nat} {lv : List (Nat × Value)} {st : List Value} {ws : va_W} {cI cB cJ cS : ClassId}
theorem j_newq {index N' : Nat} {n : Int32} (hAO : va_AO "java/lang/String" s) (hcl : Cond.classLink own index "java/lang/String" ∈ gG) (hn : ¬ n < 0) (hN : n.toNatClampNeg = N') (hb : N' * 4 ≤ 536870912) (hc : cl + 1 ≤ R.cells) (hs : sl + N' ≤ R.slots) (d : decode cc pc = .ok (.anewarray index, 3))
    (k : ∀ q : Nat, J (p, l, e, R, s, m, args, below, meth, c, D, gT cI cB cJ cS, A, Q) cc nL own (pc + 3) lv (.ref q :: st) (ws ++ [(q, .inl (cS, N', .inr (.inr (.inr (.inr (fun _ => none))))))]) (cl + 1) (sl + N')) : J (p, l, e, R, s, m, args, below, meth, c, D, gT cI cB cJ cS, A, Q) cc nL own pc lv (.int n :: st) ws cl sl := by
  intro C H locs ls hP hD hS hl
  refine va_newq C.1 C.2.1 C.2.2.2.1 (C.2.2.2.2.1 _ hcl) hAO C.2.2.2.2.2.1 hP hD hS C.2.2.2.2.2.2.1 hn hN hb hc hs d (fun q cA H1 hK1 hP1 hD1 hS1 => ?_)
  have h1 : va_RA s cA (.object "java/lang/String") := (hK1.2 4 _ rfl).2
  have h2 : va_RA s cS (.object "java/lang/String") := (C.2.2.2.2.2.1.2 3 _ rfl).2
  obtain ⟨_, _, _, _, _, e1⟩ := h1
  obtain ⟨_, _, _, _, _, e2⟩ := h2
  have e3 : cA = cS := Option.some.inj (e1.symm.trans e2)
  subst e3
  exact k q C H1 locs ls hP1 hD1 hS1 hl
theorem any_str {i : Nat} {e0 : String × Nat × String × List Int32} (he : gStr[i]? = some e0) {H : Heap} {locs : List Loc} (hg : gS D A s s.heap) (hS : va_S A s.heap H locs) : va_Any "java/lang/String" s H (sA D i) := by
  have h1 := (hg.1 i e0 he).2.1.kept hS.2.1
  obtain ⟨cell, g1, g2, g3, -⟩ := h1
  obtain ⟨kC, hkC, -⟩ := Vm.findClass_spec g3
  refine ⟨cell, g1, g2, ⟨kC, hkC⟩, fun comp hc => ?_⟩
  rw [g3] at hc
  cases hc
  exact asg_self 255 _ _
theorem j_astS {i : Nat} {e0 : String × Nat × String × List Int32} {q0 n a : Nat} {f : Nat → Option Nat} {j : Int32} {ws' : va_W} (he : gStr[i]? = some e0) (ha : ws[q0]? = some (a, .inl (cS, n, .inr (.inr (.inr (.inr f)))))) (hin : vp_in j n) (d : decode cc pc = .ok (.aastore, 1)) (hw : ws.set q0 (a, .inl (cS, n, .inr (.inr (.inr (.inr (va_up f j.toNatClampNeg (some (sA D i)))))))) = ws')
    (k : J (p, l, e, R, s, m, args, below, meth, c, D, gT cI cB cJ cS, A, Q) cc nL own (pc + 1) lv st ws' cl sl) : J (p, l, e, R, s, m, args, below, meth, c, D, gT cI cB cJ cS, A, Q) cc nL own pc lv (.ref (sA D i) :: .int j :: .ref a :: st) ws cl sl := by
  intro C H locs ls hP hD hS hl
  subst hw
  exact va_astqM C.1 C.2.1 C.2.2.2.2.2.1 hP hD hS q0 3 ha rfl (any_str he C.2.2.2.2.2.2.2.2.2 hS) hin d (fun H1 locs1 hP1 hD1 hS1 => k C H1 locs1 ls hP1 hD1 hS1 hl)
theorem arrV_same {cA : ClassId} {n : Nat} {f g : Nat → Option Nat} (h : ∀ j, j < n → f j = g j) : vp_cell cA (n, .inr (.inr (.inr (.inr f)))) = vp_cell cA (n, .inr (.inr (.inr (.inr g)))) := by
  rw [vp_cell_q, vp_cell_q]
  unfold arrV
  congr 1
  apply Array.ext
  · simp
  · intro i h1 h2
    simp at h1 ⊢
    rw [h i h1]
theorem j_arrq {κ : Kx} {cA : ClassId} {q0 n a : Nat} {f g : Nat → Option Nat} {ws' : va_W} (ha : ws[q0]? = some (a, .inl (cA, n, .inr (.inr (.inr (.inr f)))))) (h : ∀ j, j < n → f j = g j) (hw : ws.set q0 (a, .inl (cA, n, .inr (.inr (.inr (.inr g))))) = ws') (k : J κ cc nL own pc lv st ws' cl sl) : J κ cc nL own pc lv st ws cl sl := by
  obtain ⟨p, l, e, R, s, m, args, below, meth, c, D, T, A, Q⟩ := κ
  intro C H locs ls hP hD hS hl
  subst hw
  refine k C H locs ls ?_ (hD.set ha) hS hl
  refine hP.set hD ha ?_ (fun _ _ => rfl)
  show H[a]? = some (vp_cell _ _)
  rw [← arrV_same h]
  exact hP q0 _ ha
theorem j_callIA {T : List (ClassId × FieldType)} {y : MethodName} {by' : ByteArray} {mL fr lo mc ms n index b : Nat} {As st0 rest : List Value} {wc wr : va_W} {Qr : Option Value → va_W → Prop} (hAO : va_AO "java/lang/String" s) (hM : CtA l D T y by' mL none fr lo mc ms (.ref b :: As) wc Qr) (m1 : Cond.methodLink own index y ∈ gG) (m2 : Cond.instanceMethod y ∈ gG) (m4 : Cond.initialized y.cls ∈ gG) (m5 : Cond.code y by' mL none ∈ gG) (hy : y.name = "<init>") (hd : y.cls ≠ "java/lang/invoke/MethodHandle" ∧ y.cls ≠ "java/lang/invoke/VarHandle" ∧ (parseMethodDescriptor y.desc).map (fun d => d.parameters.length) = some n) (hRm : fr + 1 ≤ R.frames ∧ 8 + (mL + 11) + lo ≤ R.locals)
    (isC isR : List Nat) (hC : isC.map (fun i => ws[i]?) = wc.map some) (hndC : va_nd isC = true) (hR : isR.map (fun i => ws[i]?) = wr.map some) (hn : va_nd isR = true) (hdis : ∀ i ∈ isR, i ∉ isC) (hlen : As.length = n) (hst : st0 = As.reverse ++ .ref b :: rest) (hW : (rest.map fun v => v.category).sum ≤ 8) (d : decode cc pc = .ok (.invokespecial index, 3)) (hf : cl + mc ≤ R.cells ∧ sl + ms ≤ R.slots)
    (kk : ∀ (v : Option Value) (w : va_W), Qr v w → J (p, l, e, R, s, m, args, below, meth, c, D, T, A, Q) cc nL own (pc + 3) lv (v.toList ++ rest) (wr ++ w) (cl + mc) (sl + ms)) : J (p, l, e, R, s, m, args, below, meth, c, D, T, A, Q) cc nL own pc lv st0 ws cl sl := by
  intro C H locs ls hP hD hS hl
  subst hst
  have hPc := pickP hP hC
  have hDc := hD.sub isC hndC hC
  have hts := C.2.2.2.2.1
  have hG : GoodIn gG (.code y by' mL none :: gG) := fun w hw => by
    rcases List.mem_cons.mp hw with rfl | h
    · exact ⟨m5, gG_good m5⟩
    · exact ⟨h, gG_good h⟩
  refine run_core (va_runI (As := As) (rest := rest) ⟨C.1, C.2.1, C.2.2.1, C.2.2.2.1, hts⟩ (hM H.size) (cwI n hts hG rfl rfl rfl (hts _ m4) (hts _ m1) (hts _ m2) hy hd hRm) ⟨CtA_blind, fun U hU hW => ⟨rfl, by rw [hU], by rw [hU]; exact hPc, va_K.moved hW.alike C.2.2.2.2.2.1, hDc.weaken (fun _ _ _ _ => trivial), gN_warm hW C.2.2.2.2.2.2.2.1, gS_call C.2.2.2.2.2.2.2.2.2 hS hW hU (va_free hD hS C.2.2.2.2.2.2.1 isC hC), va_AO.moved hW.alike hAO⟩⟩ rfl hlen hl.1 rfl (lv_room hW) d hf) hP hD hS C.2.2.2.2.2.2.1 isC isR hC hR hn hdis (fun v w H1 locs1 hq hP1 hD1 hS1 => kk v w hq C H1 locs1 ls hP1 hD1 hS1 hl)
end JArrq
