/-! ===== contracts over worlds, their start, their ends, and calls ===== -/
def CQ (D : va_G) (wc : va_W) (sz : Nat) (Qr : Option Value → va_W → Prop) : Array Value → State → Outcome → State → Prop := fun _ st oc t => (∃ (v : Option Value) (w : va_W), oc = .returned v ∧ Qr v w ∧ va_P D gCl w t.heap ∧ va_D (va_A wc sz) w) ∧ va_F (va_A wc sz) st t
def Ct (l : Launch) (D : va_G) (T : List (ClassId × FieldType)) (y : MethodName) (by' : ByteArray) (mL : Nat) (rt : Option FieldType) (fr lo mc ms : Nat) (as : List Value) (wc : va_W) (Qr : Option Value → va_W → Prop) : Prop :=
  ∀ sz : Nat, Met l y (.code y by' mL rt :: gG) { frames := fr, cells := mc, slots := ms, locals := lo } (va_Pc as (fun U => U.heap.size = sz ∧ va_P D gCl wc U.heap ∧ va_K D gCl T U ∧ va_D (fun _ => True) wc ∧ gN U ∧ gS D (va_A wc sz) U U.heap)) (CQ D wc sz Qr) mc ms (va_A wc sz)
theorem gN_warm {s U : State} (hW : s.WarmedH U.vm) (h : gN s) : gN U := by
  intro w hw
  have h1 := h w hw
  simp only [gNest, List.mem_cons, List.not_mem_nil, or_false] at hw
  rcases hw with rfl | rfl | rfl | rfl | rfl | rfl | rfl | rfl | rfl | rfl | rfl | rfl | rfl | rfl <;> first | exact va_Nw.warmM hW h1 | exact va_Nw.warmF hW h1
theorem gN_same {u U : State} (hv : u.vm = U.vm) (h : gN u) : gN U := by
  intro w hw
  have h1 := h w hw
  simp only [gNest, List.mem_cons, List.not_mem_nil, or_false] at hw
  rcases hw with rfl | rfl | rfl | rfl | rfl | rfl | rfl | rfl | rfl | rfl | rfl | rfl | rfl | rfl <;> exact va_Nw.same rfl hv h1
theorem Ct_blind {D : va_G} {T : List (ClassId × FieldType)} {as : List Value} {wc : va_W} {sz : Nat} : FrameBlind (va_Pc as (fun U => U.heap.size = sz ∧ va_P D gCl wc U.heap ∧ va_K D gCl T U ∧ va_D (fun _ => True) wc ∧ gN U ∧ gS D (va_A wc sz) U U.heap)) := by
  intro a U g mk q
  obtain ⟨q0, q1, qP, qK, qD, qN, qS⟩ := q
  exact ⟨q0, q1, qP, va_K.moved (u := U) (U := U.calling g mk a) (Vm.Alike.refl U.vm) qK, qD, gN_same (u := U) (U := U.calling g mk a) rfl qN, gS_same (u := U) (U := U.calling g mk a) rfl qS⟩
abbrev KxOf (p : Program) (l : Launch) (e : Env) (R : Room) (s : State) (m : MethodId) (args : Array Value) (below : List Frame) (meth : Method) (c : Code) (D : va_G) (T : List (ClassId × FieldType)) (wc : va_W) (Qr : Option Value → va_W → Prop) (mc ms : Nat) : Kx :=
  (p, l, e, R, s, m, args, below, meth, c, D, T, va_A wc s.heap.size, MQ below (CQ D wc s.heap.size Qr) args s mc ms (va_A wc s.heap.size))
theorem Ct.mk {l : Launch} {D : va_G} {T : List (ClassId × FieldType)} {y : MethodName} {by' : ByteArray} {mL : Nat} {rt : Option FieldType} {fr lo mc ms : Nat} {as : List Value} {wc : va_W} {Qr : Option Value → va_W → Prop} (hy : plainName y.cls = true) (hlen : (lg_sl as).length ≤ mL)
    (body : ∀ (p : Program) (e : Env) (s : State) (m : MethodId) (below : List Frame) (meth : Method) (c : Code), meth.sig.returnType = rt → meth.name = y.name → J (KxOf p l e { frames := fr, cells := mc, slots := ms, locals := lo } s m as.toArray below meth c D T wc Qr mc ms) by' mL y.cls 0 (lv_args 0 as) [] wc 0 0) : Ct l D T y by' mL rt fr lo mc ms as wc Qr := by
  intro sz
  refine Met.ofW (cc := by') (maxL := mL) (ret := rt) hy rfl ?_
  intro p e s m args below meth c s₁ B hml hv
  obtain ⟨rfl, hsz, hP, hK, hD0, hN, hSt⟩ := hv
  subst hsz
  have hts := atoms_spec (ws := .code y by' mL rt :: gG) B.pre
  have hown : s.vm.findClass y.cls = some m.cls := findClass_of_methodNamed B.named
  have hl := lv_entry as (n := mL) hlen
  rw [lg_entry_eq]
  exact body p e s m below meth c B.returns (name_of_methodNamed B.named B.method).1 ⟨B.exec, B.bytes, hml, hown, fun w hw => hts w (List.mem_cons_of_mem _ hw), hK, fun q h => Or.inr h, hN, B.notSynchronized, hSt⟩ s.heap [] _ hP (hD0.self (sz := s.heap.size)) va_S.rf hl
theorem pickP {D : va_G} {ws w : va_W} {H : Heap} (hP : va_P D gCl ws H) {is : List Nat} (hs : is.map (fun i => ws[i]?) = w.map some) : va_P D gCl w H := by
  intro k q hk
  have h1 : (is.map (fun i => ws[i]?))[k]? = some (some q) := by rw [hs, List.getElem?_map, hk]; rfl
  rw [List.getElem?_map] at h1
  cases hi : is[k]? with
  | none => rw [hi] at h1; cases h1
  | some i => rw [hi] at h1; exact hP i q (Option.some.inj h1)
section JEnds
variable {p : Program} {l : Launch} {e : Env} {R : Room} {s : State} {m : MethodId} {args : Array Value} {below : List Frame} {meth : Method} {c : Code} {D : va_G} {T : List (ClassId × FieldType)} {wc : va_W} {Qr : Option Value → va_W → Prop} {cc : ByteArray} {nL : Nat} {own : String} {pc cl sl : Nat} {lv : List (Nat × Value)} {ws w : va_W}
theorem j_iret {v : Int32} (hr : meth.sig.returnType = some .int) (d : decode cc pc = .ok (.ireturn, 1)) (is : List Nat) (hs : is.map (fun i => ws[i]?) = w.map some) (hn : va_nd is = true) (hQ : Qr (some (.int v)) w) : J (KxOf p l e R s m args below meth c D T wc Qr cl sl) cc nL own pc lv [.int v] ws cl sl := by
  intro C H locs ls hP hD hS hl
  have hlk := C.2.2.2.2.2.2.2.2.1
  exact W.iret C.1 C.2.1 hr (fun t ht hW => ⟨⟨_, w, rfl, hQ, by rw [ht]; exact pickP hP hs, hD.sub is hn hs⟩, hS.F ht⟩) hS.2.2 d
theorem j_zret {v : Int32} (hr : meth.sig.returnType = some .boolean) (hz : narrow .boolean (.int v) = .int v) (d : decode cc pc = .ok (.ireturn, 1)) (is : List Nat) (hs : is.map (fun i => ws[i]?) = w.map some) (hn : va_nd is = true) (hQ : Qr (some (.int v)) w) : J (KxOf p l e R s m args below meth c D T wc Qr cl sl) cc nL own pc lv [.int v] ws cl sl := by
  intro C H locs ls hP hD hS hl
  have hlk := C.2.2.2.2.2.2.2.2.1
  exact W.zret C.1 C.2.1 hr hz (fun t ht hW => ⟨⟨_, w, rfl, hQ, by rw [ht]; exact pickP hP hs, hD.sub is hn hs⟩, hS.F ht⟩) hS.2.2 d
theorem j_vret (hr : meth.sig.returnType = none) (d : decode cc pc = .ok (.return_, 1)) (is : List Nat) (hs : is.map (fun i => ws[i]?) = w.map some) (hn : va_nd is = true) (hQ : Qr none w) : J (KxOf p l e R s m args below meth c D T wc Qr cl sl) cc nL own pc lv [] ws cl sl := by
  intro C H locs ls hP hD hS hl
  have hlk := C.2.2.2.2.2.2.2.2.1
  exact W.vret C.1 C.2.1 hr (fun t ht hW => ⟨⟨_, w, rfl, hQ, by rw [ht]; exact pickP hP hs, hD.sub is hn hs⟩, hS.F ht⟩) hS.2.2 d
end JEnds
theorem j_widen {κ : Kx} {cc : ByteArray} {nL : Nat} {own : String} {pc cl sl cl' sl' : Nat} {lv : List (Nat × Value)} {st : List Value} {ws : va_W} (h1 : cl ≤ cl') (h2 : sl ≤ sl') (k : J κ cc nL own pc lv st ws cl' sl') : J κ cc nL own pc lv st ws cl sl := by
  obtain ⟨p, l, e, R, s, m, args, below, meth, c, D, T, A, Q⟩ := κ
  intro C H locs ls hP hD hS hl
  exact W.widen (k := cl') (n := sl') h1 h2 (k C H locs ls hP hD hS hl)
theorem j_sub {κ : Kx} {cc : ByteArray} {nL : Nat} {own : String} {pc cl sl : Nat} {lv lv' : List (Nat × Value)} {st : List Value} {ws w : va_W} (is : List Nat) (hs : is.map (fun i => ws[i]?) = w.map some) (hn : va_nd is = true) (il : List Nat) (hl' : lv_pick lv il = lv') (k : J κ cc nL own pc lv' st w cl sl) : J κ cc nL own pc lv st ws cl sl := by
  obtain ⟨p, l, e, R, s, m, args, below, meth, c, D, T, A, Q⟩ := κ
  intro C H locs ls hP hD hS hl
  exact k C H locs ls (pickP hP hs) (hD.sub is hn hs) hS (lv_sub hl il hl')
theorem run_core {p : Program} {l : Launch} {e : Env} {R : Room} {s : State} {m : MethodId} {args : Array Value} {below : List Frame} {meth : Method} {c : Code} {D : va_G} {A : Nat → Prop} {H0 H : Heap} {locs : List Loc} {cells slots mc ms pc : Nat} {ls : Array Slot} {st0 rest : List Value} {wc wr ws : va_W} {Qr : Option Value → va_W → Prop} {Q : State → Prop} {a : Array Value}
    (hr : va_Run p l e R s m args below meth c H locs cells slots mc ms (F0 m pc ls st0) rest (CQ D wc H.size Qr a) (va_A wc H.size)) (hP : va_P D gCl ws H) (hD : va_D A ws) (hS : va_S A H0 H locs) (hA : ∀ q, H0.size ≤ q → A q)
    (isC isR : List Nat) (hC : isC.map (fun i => ws[i]?) = wc.map some) (hR : isR.map (fun i => ws[i]?) = wr.map some) (hn : va_nd isR = true) (hdis : ∀ i ∈ isR, i ∉ isC)
    (kk : ∀ (v : Option Value) (w : va_W) (H1 : Heap) (locs1 : List Loc), Qr v w → va_P D gCl (wr ++ w) H1 → va_D A (wr ++ w) → va_S A H0 H1 locs1 → W p l e R s m args below meth c H1 locs1 (cells + mc) (slots + ms) Q (F0 m (pc + 3) ls (v.toList ++ rest))) : W p l e R s m args below meth c H locs cells slots Q (F0 m pc ls st0) := by
  intro T hT X
  obtain ⟨v, st₀, t, T', L, h0, X', hL, e1, e2, ⟨⟨v', w, hv, hq, hPw, hDw⟩, hz, hk⟩, st⟩ := hr T hT X
  cases hv
  rw [h0] at hz hk
  have hF : ∀ q, va_A wc H.size q → A q := va_free hD hS hA isC hC
  obtain ⟨hP1, hD1⟩ := va_join (wr := wr) (w1 := w) (H1 := T'.heap) hP hD isC isR hC hR hn hdis (fun q h1 h2 => by rw [e1]; exact hk q h1 h2) hF (by rw [e1]; exact hPw) hDw
  obtain ⟨t2, a1, b1⟩ := kk v w T'.heap (locs ++ L) hq hP1 hD1
    ⟨Nat.le_trans hS.1 (by rw [e1]; exact hz), fun q h1 h2 => by rw [e1, hk q (Nat.lt_of_lt_of_le h1 hS.1) (fun z => h2 (hF q z))]; exact hS.2.1 q h1 h2, fun q hq => by
      rcases List.mem_append.mp hq with h | h
      · exact hS.2.2 q h
      · exact hF _ (hL q h)⟩ T' rfl X'
  exact ⟨t2, st t2 a1, b1⟩
section JCalls
variable {p : Program} {l : Launch} {e : Env} {R : Room} {s : State} {m : MethodId} {args : Array Value} {below : List Frame} {meth : Method} {c : Code} {D : va_G} {T : List (ClassId × FieldType)} {A : Nat → Prop} {Q : State → Prop} {cc : ByteArray} {nL : Nat} {own : String} {pc cl sl : Nat} {lv : List (Nat × Value)} {st0 rest : List Value} {ws : va_W}
variable {y : MethodName} {by' : ByteArray} {mL : Nat} {rt : Option FieldType} {fr lo mc ms : Nat} {As : List Value} {wc : va_W} {Qr : Option Value → va_W → Prop} {n index b : Nat} {wr : va_W}
theorem j_callV {Cn : String} {Tf : u_T} {N ci : Nat} {fs : List Value} (hM : Ct l D T y by' mL rt fr lo mc ms (.ref b :: As) wc Qr) (g : GoodIn gG (wsV own index Cn y (.code y by' mL rt :: gG))) (hd : y.cls = Cn ∧ y.cls ≠ "java/lang/invoke/MethodHandle" ∧ y.cls ≠ "java/lang/invoke/VarHandle" ∧ (parseMethodDescriptor y.desc).map (fun d => d.parameters.length) = some n) (hRm : fr + 1 ≤ R.frames ∧ 8 + (mL + 11) + lo ≤ R.locals)
    (hc : gCl[ci]? = some (Cn, Tf, N)) (q0 : Nat) (hb0 : wc[q0]? = some (b, .inr (ci, fs))) (isC isR : List Nat) (hC : isC.map (fun i => ws[i]?) = wc.map some) (hndC : va_nd isC = true) (hR : isR.map (fun i => ws[i]?) = wr.map some) (hn : va_nd isR = true) (hdis : ∀ i ∈ isR, i ∉ isC) (hlen : As.length = n) (hst : st0 = As.reverse ++ .ref b :: rest) (hW : (rest.map fun v => v.category).sum ≤ 8) (d : decode cc pc = .ok (.invokevirtual index, 3)) (hf : cl + mc ≤ R.cells ∧ sl + ms ≤ R.slots)
    (kk : ∀ (v : Option Value) (w : va_W), Qr v w → J (p, l, e, R, s, m, args, below, meth, c, D, T, A, Q) cc nL own (pc + 3) lv (v.toList ++ rest) (wr ++ w) (cl + mc) (sl + ms)) : J (p, l, e, R, s, m, args, below, meth, c, D, T, A, Q) cc nL own pc lv st0 ws cl sl := by
  intro C H locs ls hP hD hS hl
  subst hst
  have hPc := pickP hP hC
  have hDc := hD.sub isC hndC hC
  refine run_core (va_runV (As := As) (rest := rest) ⟨C.1, C.2.1, C.2.2.1, C.2.2.2.1, C.2.2.2.2.1⟩ (hM H.size) (cwV n C.2.2.2.2.1 g rfl rfl rfl hd hRm) ⟨Ct_blind, va_recv C.2.2.2.2.2.1 hPc hc hb0, fun U hU hW => ⟨rfl, by rw [hU], by rw [hU]; exact hPc, va_K.moved hW.alike C.2.2.2.2.2.1, hDc.weaken (fun _ _ _ _ => trivial), gN_warm hW C.2.2.2.2.2.2.2.1, gS_call C.2.2.2.2.2.2.2.2.2 hS hW hU (va_free hD hS C.2.2.2.2.2.2.1 isC hC)⟩⟩ rfl hlen hl.1 rfl (lv_room hW) d hf) hP hD hS C.2.2.2.2.2.2.1 isC isR hC hR hn hdis (fun v w H1 locs1 hq hP1 hD1 hS1 => kk v w hq C H1 locs1 ls hP1 hD1 hS1 hl)
theorem j_callS (hM : Ct l D T y by' mL rt fr lo mc ms As wc Qr) (g : GoodIn gG (va_wsS own index y (.code y by' mL rt :: gG))) (hd : y.cls ≠ "java/lang/invoke/MethodHandle" ∧ y.cls ≠ "java/lang/invoke/VarHandle" ∧ (parseMethodDescriptor y.desc).map (fun d => d.parameters.length) = some n) (hRm : fr + 1 ≤ R.frames ∧ 8 + (mL + 11) + lo ≤ R.locals)
    (isC isR : List Nat) (hC : isC.map (fun i => ws[i]?) = wc.map some) (hndC : va_nd isC = true) (hR : isR.map (fun i => ws[i]?) = wr.map some) (hn : va_nd isR = true) (hdis : ∀ i ∈ isR, i ∉ isC) (hlen : As.length = n) (hst : st0 = As.reverse ++ rest) (hW : (rest.map fun v => v.category).sum ≤ 8) (d : decode cc pc = .ok (.invokestatic index, 3)) (hf : cl + mc ≤ R.cells ∧ sl + ms ≤ R.slots)
    (kk : ∀ (v : Option Value) (w : va_W), Qr v w → J (p, l, e, R, s, m, args, below, meth, c, D, T, A, Q) cc nL own (pc + 3) lv (v.toList ++ rest) (wr ++ w) (cl + mc) (sl + ms)) : J (p, l, e, R, s, m, args, below, meth, c, D, T, A, Q) cc nL own pc lv st0 ws cl sl := by
  intro C H locs ls hP hD hS hl
  subst hst
  have hPc := pickP hP hC
  have hDc := hD.sub isC hndC hC
  refine run_core (va_runS (As := As) (rest := rest) ⟨C.1, C.2.1, C.2.2.1, C.2.2.2.1, C.2.2.2.2.1⟩ (hM H.size) (va_cwS n C.2.2.2.2.1 g rfl rfl rfl hd hRm) ⟨Ct_blind, fun U hU hW => ⟨rfl, by rw [hU], by rw [hU]; exact hPc, va_K.moved hW.alike C.2.2.2.2.2.1, hDc.weaken (fun _ _ _ _ => trivial), gN_warm hW C.2.2.2.2.2.2.2.1, gS_call C.2.2.2.2.2.2.2.2.2 hS hW hU (va_free hD hS C.2.2.2.2.2.2.1 isC hC)⟩⟩ rfl hlen hl.1 rfl (lv_room hW) d hf) hP hD hS C.2.2.2.2.2.2.1 isC isR hC hR hn hdis (fun v w H1 locs1 hq hP1 hD1 hS1 => kk v w hq C H1 locs1 ls hP1 hD1 hS1 hl)
end JCalls
theorem gdV {own C : String} {idx mL : Nat} {y : MethodName} {by' : ByteArray} {rt : Option FieldType} (m1 : Cond.methodLink own idx y ∈ gG) (m2 : Cond.instanceMethod y ∈ gG) (m3 : Cond.selects C y y ∈ gG) (m4 : Cond.initialized C ∈ gG) (m5 : Cond.code y by' mL rt ∈ gG) : GoodIn gG (wsV own idx C y (.code y by' mL rt :: gG)) := by
  intro w hw
  have hm : w ∈ gG := by
    unfold wsV at hw
    simp only [List.mem_append, List.mem_cons, List.not_mem_nil, or_false] at hw
    rcases hw with (rfl | rfl | rfl | rfl) | rfl | h
    · exact m1
    · exact m2
    · exact m3
    · exact m4
    · exact m5
    · exact h
  exact ⟨hm, gG_good hm⟩
theorem gdS {own : String} {idx mL : Nat} {y : MethodName} {by' : ByteArray} {rt : Option FieldType} (m1 : Cond.methodLink own idx y ∈ gG) (m2 : Cond.static y ∈ gG) (m4 : Cond.initialized y.cls ∈ gG) (m5 : Cond.code y by' mL rt ∈ gG) : GoodIn gG (va_wsS own idx y (.code y by' mL rt :: gG)) := by
  intro w hw
  have hm : w ∈ gG := by
    unfold va_wsS at hw
    simp only [List.mem_append, List.mem_cons, List.not_mem_nil, or_false] at hw
    rcases hw with (rfl | rfl | rfl) | rfl | h
    · exact m1
    · exact m2
    · exact m4
    · exact m5
    · exact h
  exact ⟨hm, gG_good hm⟩
/-! ===== words for the printed functions ===== -/
theorem it_t {α : Type} {c : Prop} {i : Decidable c} {a b r : α} (hc : c) (h : (@ite α c i a b) = r) : a = r := (if_pos hc).symm.trans h
theorem it_f {α : Type} {c : Prop} {i : Decidable c} {a b r : α} (hc : ¬ c) (h : (@ite α c i a b) = r) : b = r := (if_neg hc).symm.trans h
def inb {α : Type} (i : Int32) (n : Nat) (a : Option α) : Option α := if i < 0 ∨ n ≤ i.toNatClampNeg then none else a
theorem inb_s {α : Type} {i : Int32} {n : Nat} {a : Option α} {r : α} (h : inb i n a = some r) : vp_in i n ∧ a = some r := by
  unfold inb at h
  by_cases c : i < 0 ∨ n ≤ i.toNatClampNeg
  · rw [if_pos c] at h; cases h
  · rw [if_neg c] at h; exact ⟨c, h⟩
theorem bd_s {α β : Type} {m : Option α} {k : α → Option β} {r : β} (h : m.bind k = some r) : ∃ x, m = some x ∧ k x = some r := by
  cases m with
  | none => cases h
  | some x => exact ⟨x, rfl, h⟩
def FU : Nat := 1000000
abbrev gT (cI cB cJ cS : ClassId) : List (ClassId × FieldType) := [(cI, .int), (cB, .byte), (cJ, .long), (cS, .object "java/lang/String")]
theorem j_norm {κ : Kx} {cc : ByteArray} {nL : Nat} {own : String} {pc cl sl pc' cl' sl' : Nat} {lv lv' : List (Nat × Value)} {st st' : List Value} {ws ws' : va_W} (h0 : pc = pc') (h1 : lv = lv') (h2 : st = st') (h3 : ws = ws') (h4 : cl = cl') (h5 : sl = sl') (k : J κ cc nL own pc' lv' st' ws' cl' sl') : J κ cc nL own pc lv st ws cl sl := by
  subst h0 h1 h2 h3 h4 h5
  exact k
section JSwitch
variable {κ : Kx} {cc : ByteArray} {nL : Nat} {own : String} {pc cl sl : Nat} {lv : List (Nat × Value)} {st : List Value} {ws : va_W}
theorem j_tabIn {dflt lo hi : Int} {offs : Array Int} {len : Nat} {x : Int32} {off : Int} {tgt : Nat} (d : decode cc pc = .ok (.tableswitch dflt lo hi offs, len)) (y : Int32) (hx : x = y) (h1 : ¬ y.toInt < lo) (h2 : ¬ hi < y.toInt) (ho : offs[(y.toInt - lo).toNat]? = some off) (ht : (pc : Int) + off = (tgt : Int)) (k : J κ cc nL own tgt lv st ws cl sl) : J κ cc nL own pc lv (.int x :: st) ws cl sl := by
  obtain ⟨p, l, e, R, s, m, args, below, meth, c, D, T, A, Q⟩ := κ
  intro C H locs ls hP hD hS hl
  subst hx
  exact lv_tableIn C.1 C.2.1 d h1 h2 ho ht (k C H locs ls hP hD hS hl)
theorem j_tabOut {dflt lo hi : Int} {offs : Array Int} {len : Nat} {x : Int32} {tgt : Nat} (d : decode cc pc = .ok (.tableswitch dflt lo hi offs, len)) (h : x.toInt < lo ∨ hi < x.toInt) (ht : (pc : Int) + dflt = (tgt : Int)) (k : J κ cc nL own tgt lv st ws cl sl) : J κ cc nL own pc lv (.int x :: st) ws cl sl := by
  obtain ⟨p, l, e, R, s, m, args, below, meth, c, D, T, A, Q⟩ := κ
  intro C H locs ls hP hD hS hl
  exact lv_tableOut C.1 C.2.1 d h ht (k C H locs ls hP hD hS hl)
theorem j_look {dflt : Int} {ps : Array (Int × Int)} {len : Nat} {x : Int32} {off : Int} {tgt : Nat} (d : decode cc pc = .ok (.lookupswitch dflt ps, len)) (hp : (ps.toList.zip (ps.toList.drop 1)).all (fun (a, next) => a.1 < next.1) = true) (ho : Op.lookupswitch.offset ps.toList dflt x.toInt = off) (ht : (pc : Int) + off = (tgt : Int)) (k : J κ cc nL own tgt lv st ws cl sl) : J κ cc nL own pc lv (.int x :: st) ws cl sl := by
  obtain ⟨p, l, e, R, s, m, args, below, meth, c, D, T, A, Q⟩ := κ
  intro C H locs ls hP hD hS hl
  exact lv_lookup C.1 C.2.1 d hp ho ht (k C H locs ls hP hD hS hl)
end JSwitch
