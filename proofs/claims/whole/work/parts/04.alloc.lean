/-! ===== making cells; final fields; constructors; nest mates ===== -/
theorem RA_inj {s : State} {c1 c2 : ClassId} {ty : FieldType} (h1 : va_RA s c1 ty) (h2 : va_RA s c2 ty) : c1 = c2 := by
  cases ty with
  | object C =>
    obtain ⟨_, _, _, _, _, h4⟩ := h1
    obtain ⟨_, _, _, _, _, h5⟩ := h2
    exact Option.some.inj (h4.symm.trans h5)
  | _ => exact Option.some.inj ((show s.vm.findClass _ = some c1 from h1).symm.trans (show s.vm.findClass _ = some c2 from h2))
def al {α : Type} (c s : Nat) (m : Option (α × Nat × Nat)) : Option (α × Nat × Nat) := m.map (fun x => (x.1, c + x.2.1, s + x.2.2))
theorem al_s {α : Type} {c s : Nat} {m : Option (α × Nat × Nat)} {y : α} {C S : Nat} (h : al c s m = some (y, C, S)) : ∃ C' S', m = some (y, C', S') ∧ C = c + C' ∧ S = s + S' := by
  unfold al at h
  cases m with
  | none => cases h
  | some x =>
    obtain ⟨x1, x2, x3⟩ := x
    cases h
    exact ⟨x2, x3, rfl, rfl, rfl⟩
def bw {α β : Type} (m : Option (α × Nat × Nat)) (k : α → Option (β × Nat × Nat)) : Option (β × Nat × Nat) := m.bind (fun x => al x.2.1 x.2.2 (k x.1))
theorem bw_s {α β : Type} {m : Option (α × Nat × Nat)} {k : α → Option (β × Nat × Nat)} {y : β} {C S : Nat} (h : bw m k = some (y, C, S)) : ∃ x c s C' S', m = some (x, c, s) ∧ k x = some (y, C', S') ∧ C = c + C' ∧ S = s + S' := by
  unfold bw at h
  obtain ⟨⟨x1, x2, x3⟩, h1, h2⟩ := bd_s h
  obtain ⟨C', S', h3, h4, h5⟩ := al_s h2
  exact ⟨x1, x2, x3, C', S', h1, h3, h4, h5⟩
theorem lf_s {α : Type} {a b : α} {C S : Nat} (h : (some (a, 0, 0) : Option (α × Nat × Nat)) = some (b, C, S)) : a = b ∧ C = 0 ∧ S = 0 := by
  cases h
  exact ⟨rfl, rfl, rfl⟩
def nwa {α : Type} (n : Int32) (m : Option (α × Nat × Nat)) : Option (α × Nat × Nat) := if n < 0 ∨ 67108864 < n.toNatClampNeg then none else al 1 n.toNatClampNeg m
theorem nwa_s {α : Type} {n : Int32} {m : Option (α × Nat × Nat)} {y : α} {C S : Nat} (h : nwa n m = some (y, C, S)) : ¬ n < 0 ∧ n.toNatClampNeg ≤ 67108864 ∧ ∃ C' S', m = some (y, C', S') ∧ C = 1 + C' ∧ S = n.toNatClampNeg + S' := by
  unfold nwa at h
  by_cases c : n < 0 ∨ 67108864 < n.toNatClampNeg
  · rw [if_pos c] at h; cases h
  · rw [if_neg c] at h
    exact ⟨fun z => c (Or.inl z), Nat.not_lt.mp (fun z => c (Or.inr z)), al_s h⟩
section JAlloc
variable {p : Program} {l : Launch} {e : Env} {R : Room} {s : State} {m : MethodId} {args : Array Value} {below : List Frame} {meth : Method} {c : Code} {D : va_G} {T : List (ClassId × FieldType)} {A : Nat → Prop} {Q : State → Prop} {cc : ByteArray} {nL : Nat} {own : String} {pc cl sl : Nat} {lv : List (Nat × Value)} {st : List Value} {ws : va_W}
theorem j_newa {atype : ArrayType} {ty : FieldType} {n : Int32} {N t0 : Nat} {cA : ClassId} {a0 : vp_A} (harr : Cond.arrayClass (newarray.typeOf atype) ∈ gG) (hty : newarray.typeOf atype = ty) (hT : T[t0]? = some (cA, ty)) (ha : ∀ cA : ClassId, vp_cell cA a0 = arrV cA N (fun _ => defaultValue ty)) (hn : ¬ n < 0) (hN : n.toNatClampNeg = N) (hb : N * componentBytes ty ≤ 536870912) (hc : cl + 1 ≤ R.cells) (hs : sl + N ≤ R.slots) (d : decode cc pc = .ok (.newarray atype, 2))
    (k : ∀ q : Nat, J (p, l, e, R, s, m, args, below, meth, c, D, T, A, Q) cc nL own (pc + 2) lv (.ref q :: st) (ws ++ [(q, .inl (cA, a0))]) (cl + 1) (sl + N)) : J (p, l, e, R, s, m, args, below, meth, c, D, T, A, Q) cc nL own pc lv (.int n :: st) ws cl sl := by
  intro C H locs ls hP hD hS hl
  refine va_newa C.1 C.2.1 (C.2.2.2.2.1 _ harr) hty C.2.2.2.2.2.1 hP hD hS C.2.2.2.2.2.2.1 ha hn hN hb hc hs d (fun q cA' H1 hK1 hP1 hD1 hS1 => ?_)
  have h1 : (T ++ [(cA', ty)])[T.length]? = some (cA', ty) := by simp
  have e1 : cA' = cA := RA_inj (hK1.2 _ _ h1).2 (C.2.2.2.2.2.1.2 _ _ hT).2
  subst e1
  exact k q C H1 locs ls hP1 hD1 hS1 hl
theorem j_new {Cn : String} {Tf : u_T} {N ci index : Nat} {ty0 : Nat → FieldType} {fs : List Value} (hin : ∀ w ∈ u_ws Cn Tf N, w ∈ gG) (hty : ∀ k, k < N → parseFieldDescriptor (Tf k).2.2.1 = some (ty0 k)) (hcl : Cond.classLink own index Cn ∈ gG) (hinst : Cond.instantiable Cn N ∈ gG) (hini : Cond.initialized Cn ∈ gG) (hc0 : gCl[ci]? = some (Cn, Tf, N)) (hfs : ∀ j, j < N → defaultValue (ty0 j) = vp_V fs j) (hc : cl + 1 ≤ R.cells) (hs : sl + N ≤ R.slots) (d : decode cc pc = .ok (.new index, 3))
    (k : ∀ q : Nat, J (p, l, e, R, s, m, args, below, meth, c, D, T, A, Q) cc nL own (pc + 3) lv (.ref q :: st) (ws ++ [(q, .inr (ci, fs))]) (cl + 1) (sl + N)) : J (p, l, e, R, s, m, args, below, meth, c, D, T, A, Q) cc nL own pc lv st ws cl sl := by
  intro C H locs ls hP hD hS hl
  exact va_new C.1 C.2.1 C.2.2.2.2.1 hin ty0 hty C.2.2.2.1 (C.2.2.2.2.1 _ hcl) (C.2.2.2.2.1 _ hinst) (C.2.2.2.2.1 _ hini) C.2.2.2.2.2.1 hP hD hS C.2.2.2.2.2.2.1 hc0 hfs hc hs d (fun q H1 hP1 hD1 hS1 => k q C H1 locs ls hP1 hD1 hS1 hl)
theorem j_oinit {a idx : Nat} (hl9 : Cond.methodLink own idx objectInit ∈ gG) (hi : Cond.instanceMethod objectInit ∈ gG) (hcd : Cond.code objectInit ⟨#[0xb1]⟩ 1 none ∈ gG) (hf : 1 ≤ R.frames) (hlo : (st.map fun v => v.category).sum + 12 ≤ R.locals) (d : decode cc pc = .ok (.invokespecial idx, 3)) (k : J (p, l, e, R, s, m, args, below, meth, c, D, T, A, Q) cc nL own (pc + 3) lv st ws cl sl) : J (p, l, e, R, s, m, args, below, meth, c, D, T, A, Q) cc nL own pc lv (.ref a :: st) ws cl sl := by
  intro C H locs ls hP hD hS hl
  refine W.objInit C.1 C.2.1 C.2.2.2.1 (C.2.2.2.2.1 _ hl9) (C.2.2.2.2.1 _ hi) (C.2.2.2.2.1 _ hcd) rfl (by rw [C.2.2.1]; exact hl.1) rfl d hf (by show 2 * 0 + _ + 12 ≤ _; omega) ?_
  exact k C H locs ls hP hD hS hl
theorem j_putF {ref Cn : String} {Tf : u_T} {N ci index a : Nat} {fs : List Value} {v : Value} {ty0 : Nat → FieldType} {ty : FieldType} {ws' : va_W} (hname : meth.name = "<init>") (hin : ∀ w ∈ u_ws Cn Tf N, w ∈ gG) (hty : ∀ k, k < N → parseFieldDescriptor (Tf k).2.2.1 = some (ty0 k)) (hnm : ∀ a, a < N → ∀ b, b < N → a ≠ b → (Tf a).2.1 ≠ (Tf b).2.1) (hc : gCl[ci]? = some (Cn, Tf, N)) (q0 : Nat) (he : ws[q0]? = some (a, .inr (ci, fs))) (f : Nat) (hf : f < N) (hr : ref = (Tf f).1) (hm : Cond.fieldLink own index ref (Tf f).2.1 (Tf f).2.2.1 ∈ gG) (hfin : (Tf f).2.2.2 = true) (hdecl : (Tf f).1 = own) (hd : parseFieldDescriptor (Tf f).2.2.1 = some ty) (hn : narrow ty v = v) (hfit : fits ty v = true) (hl9 : f < fs.length) (d : decode cc pc = .ok (.putfield index, 3)) (hw : ws.set q0 (a, .inr (ci, fs.set f v)) = ws') (k : J (p, l, e, R, s, m, args, below, meth, c, D, T, A, Q) cc nL own (pc + 3) lv st ws' cl sl) : J (p, l, e, R, s, m, args, below, meth, c, D, T, A, Q) cc nL own pc lv (v :: .ref a :: st) ws cl sl := by
  intro C H locs ls hP hD hS hl
  subst hw
  exact va_putF (D := D) (cl := gCl) C.1 C.2.1 C.2.2.2.2.1 hin ty0 hty hnm C.2.2.2.1 C.2.2.2.2.2.1 hP hD hS q0 he hc f hf (C.2.2.2.2.1 _ hm) (fun x h9 => by rw [hr]; exact h9) hfin hname hdecl hd hn hfit hl9 d (fun H locs hP hD hS => k C H locs ls hP hD hS hl)
theorem j_getN {ref Cn host : String} {Tf : u_T} {N ci index a : Nat} {fs : List Value} {v : Value} (hin : ∀ w ∈ u_ws Cn Tf N, w ∈ gG) (hc : gCl[ci]? = some (Cn, Tf, N)) (q0 : Nat) (he : ws[q0]? = some (a, .inr (ci, fs))) (f : Nat) (hf : f < N) (hr : ref = (Tf f).1) (hm : Cond.fieldLinkNest own index ref (Tf f).2.1 (Tf f).2.2.1 host ∈ gNest) (hv : fs[f]? = some v) (d : decode cc pc = .ok (.getfield index, 3)) (k : J (p, l, e, R, s, m, args, below, meth, c, D, T, A, Q) cc nL own (pc + 3) lv (v :: st) ws cl sl) : J (p, l, e, R, s, m, args, below, meth, c, D, T, A, Q) cc nL own pc lv (.ref a :: st) ws cl sl := by
  intro C H locs ls hP hD hS hl
  exact va_getN (D := D) (cl := gCl) C.1 C.2.1 C.2.2.2.2.1 hin C.2.2.2.1 C.2.2.2.2.2.1 hP q0 he hc f hf (va_Nw.use rfl (C.2.2.2.2.2.2.2.1 _ hm)) (fun x h9 => by rw [hr]; exact h9) hv d (k C H locs ls hP hD hS hl)
theorem j_putN {ref Cn host : String} {Tf : u_T} {N ci index a : Nat} {fs : List Value} {v : Value} {ty0 : Nat → FieldType} {ty : FieldType} {ws' : va_W} (hin : ∀ w ∈ u_ws Cn Tf N, w ∈ gG) (hty : ∀ k, k < N → parseFieldDescriptor (Tf k).2.2.1 = some (ty0 k)) (hnm : ∀ a, a < N → ∀ b, b < N → a ≠ b → (Tf a).2.1 ≠ (Tf b).2.1) (hc : gCl[ci]? = some (Cn, Tf, N)) (q0 : Nat) (he : ws[q0]? = some (a, .inr (ci, fs))) (f : Nat) (hf : f < N) (hr : ref = (Tf f).1) (hm : Cond.fieldLinkNest own index ref (Tf f).2.1 (Tf f).2.2.1 host ∈ gNest) (hfin : (Tf f).2.2.2 = false) (hd : parseFieldDescriptor (Tf f).2.2.1 = some ty) (hn : narrow ty v = v) (hfit : fits ty v = true) (hl9 : f < fs.length) (d : decode cc pc = .ok (.putfield index, 3)) (hw : ws.set q0 (a, .inr (ci, fs.set f v)) = ws') (k : J (p, l, e, R, s, m, args, below, meth, c, D, T, A, Q) cc nL own (pc + 3) lv st ws' cl sl) : J (p, l, e, R, s, m, args, below, meth, c, D, T, A, Q) cc nL own pc lv (v :: .ref a :: st) ws cl sl := by
  intro C H locs ls hP hD hS hl
  subst hw
  exact va_putN (D := D) (cl := gCl) C.1 C.2.1 C.2.2.2.2.1 hin ty0 hty hnm C.2.2.2.1 C.2.2.2.2.2.1 hP hD hS q0 he hc f hf (va_Nw.use rfl (C.2.2.2.2.2.2.2.1 _ hm)) (fun x h9 => by rw [hr]; exact h9) hfin hd hn hfit hl9 d (fun H locs hP hD hS => k C H locs ls hP hD hS hl)
variable {y : MethodName} {by' : ByteArray} {mL : Nat} {fr lo mc ms : Nat} {As rest st0 : List Value} {wc wr : va_W} {Qr : Option Value → va_W → Prop} {n index b : Nat}
theorem j_callI (hM : Ct l D T y by' mL none fr lo mc ms (.ref b :: As) wc Qr) (m1 : Cond.methodLink own index y ∈ gG) (m2 : Cond.instanceMethod y ∈ gG) (m4 : Cond.initialized y.cls ∈ gG) (m5 : Cond.code y by' mL none ∈ gG) (hy : y.name = "<init>") (hd : y.cls ≠ "java/lang/invoke/MethodHandle" ∧ y.cls ≠ "java/lang/invoke/VarHandle" ∧ (parseMethodDescriptor y.desc).map (fun d => d.parameters.length) = some n) (hRm : fr + 1 ≤ R.frames ∧ 8 + (mL + 11) + lo ≤ R.locals)
    (isC isR : List Nat) (hC : isC.map (fun i => ws[i]?) = wc.map some) (hndC : va_nd isC = true) (hR : isR.map (fun i => ws[i]?) = wr.map some) (hn : va_nd isR = true) (hdis : ∀ i ∈ isR, i ∉ isC) (hlen : As.length = n) (hst : st0 = As.reverse ++ .ref b :: rest) (hW : (rest.map fun v => v.category).sum ≤ 8) (d : decode cc pc = .ok (.invokespecial index, 3)) (hf : cl + mc ≤ R.cells ∧ sl + ms ≤ R.slots)
    (kk : ∀ (v : Option Value) (w : va_W), Qr v w → J (p, l, e, R, s, m, args, below, meth, c, D, T, A, Q) cc nL own (pc + 3) lv (v.toList ++ rest) (wr ++ w) (cl + mc) (sl + ms)) : J (p, l, e, R, s, m, args, below, meth, c, D, T, A, Q) cc nL own pc lv st0 ws cl sl := by
  intro C H locs ls hP hD hS hl
  subst hst
  have hPc := pickP hP hC
  have hDc := hD.sub isC hndC hC
  have hts := C.2.2.2.2.1
  have hG : GoodIn gG (.code y by' mL none :: gG) := fun w hw => by
    rcases List.mem_cons.mp hw with rfl | h
    · exact ⟨m5, gG_good m5⟩
    · exact ⟨h, gG_good h⟩
  refine run_core (va_runI (As := As) (rest := rest) ⟨C.1, C.2.1, C.2.2.1, C.2.2.2.1, hts⟩ (hM H.size) (cwI n hts hG rfl rfl rfl (hts _ m4) (hts _ m1) (hts _ m2) hy hd hRm) ⟨Ct_blind, fun U hU hW => ⟨rfl, by rw [hU], by rw [hU]; exact hPc, va_K.moved hW.alike C.2.2.2.2.2.1, hDc.weaken (fun _ _ _ _ => trivial), gN_warm hW C.2.2.2.2.2.2.2.1, gS_call C.2.2.2.2.2.2.2.2.2 hS hW hU (va_free hD hS C.2.2.2.2.2.2.1 isC hC)⟩⟩ rfl hlen hl.1 rfl (lv_room hW) d hf) hP hD hS C.2.2.2.2.2.2.1 isC isR hC hR hn hdis (fun v w H1 locs1 hq hP1 hD1 hS1 => kk v w hq C H1 locs1 ls hP1 hD1 hS1 hl)
theorem j_callIN {host : String} (hM : Ct l D T y by' mL none fr lo mc ms (.ref b :: As) wc Qr) (m1 : Cond.methodLinkNest own index y host ∈ gNest) (m2 : Cond.instanceMethod y ∈ gG) (m4 : Cond.initialized y.cls ∈ gG) (m5 : Cond.code y by' mL none ∈ gG) (hy : y.name = "<init>") (hd : y.cls ≠ "java/lang/invoke/MethodHandle" ∧ y.cls ≠ "java/lang/invoke/VarHandle" ∧ (parseMethodDescriptor y.desc).map (fun d => d.parameters.length) = some n) (hRm : fr + 1 ≤ R.frames ∧ 8 + (mL + 11) + lo ≤ R.locals)
    (isC isR : List Nat) (hC : isC.map (fun i => ws[i]?) = wc.map some) (hndC : va_nd isC = true) (hR : isR.map (fun i => ws[i]?) = wr.map some) (hn : va_nd isR = true) (hdis : ∀ i ∈ isR, i ∉ isC) (hlen : As.length = n) (hst : st0 = As.reverse ++ .ref b :: rest) (hW : (rest.map fun v => v.category).sum ≤ 8) (d : decode cc pc = .ok (.invokespecial index, 3)) (hf : cl + mc ≤ R.cells ∧ sl + ms ≤ R.slots)
    (kk : ∀ (v : Option Value) (w : va_W), Qr v w → J (p, l, e, R, s, m, args, below, meth, c, D, T, A, Q) cc nL own (pc + 3) lv (v.toList ++ rest) (wr ++ w) (cl + mc) (sl + ms)) : J (p, l, e, R, s, m, args, below, meth, c, D, T, A, Q) cc nL own pc lv st0 ws cl sl := by
  intro C H locs ls hP hD hS hl
  subst hst
  have hPc := pickP hP hC
  have hDc := hD.sub isC hndC hC
  have hts := C.2.2.2.2.1
  have hG : GoodIn gG (.code y by' mL none :: gG) := fun w hw => by
    rcases List.mem_cons.mp hw with rfl | h
    · exact ⟨m5, gG_good m5⟩
    · exact ⟨h, gG_good h⟩
  refine run_core (va_runIN (As := As) (rest := rest) ⟨C.1, C.2.1, C.2.2.1, C.2.2.2.1, hts⟩ (hM H.size) ⟨va_cnB n hts hG rfl rfl rfl (C.2.2.2.2.2.2.2.1 _ m1) (hts _ m4) hd hRm, hy, hts _ m2⟩ ⟨Ct_blind, fun U hU hW => ⟨rfl, by rw [hU], by rw [hU]; exact hPc, va_K.moved hW.alike C.2.2.2.2.2.1, hDc.weaken (fun _ _ _ _ => trivial), gN_warm hW C.2.2.2.2.2.2.2.1, gS_call C.2.2.2.2.2.2.2.2.2 hS hW hU (va_free hD hS C.2.2.2.2.2.2.1 isC hC)⟩⟩ rfl hlen hl.1 rfl (lv_room hW) d hf) hP hD hS C.2.2.2.2.2.2.1 isC isR hC hR hn hdis (fun v w H1 locs1 hq hP1 hD1 hS1 => kk v w hq C H1 locs1 ls hP1 hD1 hS1 hl)
theorem j_aret {v : Value} {rt : FieldType} {w : va_W} (hr : meth.sig.returnType = some rt) (hrt : (∃ n, rt = .object n) ∨ ∃ t, rt = .array t) (hv : v = .null ∨ ∃ a, v = .ref a) (d : decode cc pc = .ok (.areturn, 1)) (is : List Nat) (hs : is.map (fun i => ws[i]?) = w.map some) (hn : va_nd is = true) (hQ : Qr (some v) w) : J (KxOf p l e R s m args below meth c D T wc Qr cl sl) cc nL own pc lv [v] ws cl sl := by
  intro C H locs ls hP hD hS hl
  have hlk := C.2.2.2.2.2.2.2.2.1
  exact W.aret C.1 C.2.1 hr hrt hv (fun t ht hW => ⟨⟨_, w, rfl, hQ, by rw [ht]; exact pickP hP hs, hD.sub is hn hs⟩, hS.F ht⟩) hS.2.2 d
theorem j_acopy {a0 a n0 n1 t0 : Nat} {c0 : ClassId} {f g : Nat → Int32} {ty : FieldType} {sp dp k9 : Int32} {ws' : va_W} (m1 : Cond.methodLink own index arraycopyName ∈ gG) (m2 : Cond.native arraycopyName ∈ gG) (m3 : Cond.static arraycopyName ∈ gG) (m4 : Cond.initialized "java/lang/System" ∈ gG) (q0 q1 : Nat) (ha0 : ws[q0]? = some (a0, .inl (c0, n0, .inl f))) (ha1 : ws[q1]? = some (a, .inl (c0, n1, .inl g))) (hT : T[t0]? = some (c0, ty)) (hprim : refKind ty = false) (h1 : ¬ sp < 0) (h2 : ¬ dp < 0) (h3 : ¬ k9 < 0) (h4 : sp.toNatClampNeg + k9.toNatClampNeg ≤ n0) (h5 : dp.toNatClampNeg + k9.toNatClampNeg ≤ n1) (hfit : ∀ i, i < k9.toNatClampNeg → fits ty (.int (f (sp.toNatClampNeg + i))) = true) (hf : 1 ≤ R.frames) (hlo : (st.map fun v => v.category).sum + (nativeFrameWords "java/lang/System" "arraycopy" 5 + 11) ≤ R.locals) (d : decode cc pc = .ok (.invokestatic index, 3)) (hw : ws.set q1 (a, .inl (c0, n1, .inl (va_cpy f g sp.toNatClampNeg dp.toNatClampNeg k9.toNatClampNeg))) = ws')
    (k : J (p, l, e, R, s, m, args, below, meth, c, D, T, A, Q) cc nL own (pc + 3) lv st ws' cl sl) : J (p, l, e, R, s, m, args, below, meth, c, D, T, A, Q) cc nL own pc lv (.int k9 :: .int dp :: .ref a :: .int sp :: .ref a0 :: st) ws cl sl := by
  intro C H locs ls hP hD hS hl
  subst hw
  have hts := C.2.2.2.2.1
  exact va_copyi C.1 C.2.1 (by rw [C.2.2.1]; exact hl.1.symm) C.2.2.2.1 (hts _ m1) (hts _ m2) (hts _ m3) (hts _ m4) C.2.2.2.2.2.1 hP hD hS q0 q1 t0 t0 ha0 ha1 hT hT hprim h1 h2 h3 h4 h5 hfit hf hlo d (fun H locs hP hD hS => k C H locs ls hP hD hS hl)
end JAlloc
def zb (r : Int32) : Prop := r = 0 ∨ r = 1
theorem zb0 : zb 0 := Or.inl rfl
theorem zb1 : zb 1 := Or.inr rfl
theorem zb_n {r : Int32} (h : zb r) : narrow .boolean (.int r) = .int r := by rcases h with rfl | rfl <;> decide
theorem zb_fit {r : Int32} (h : zb r) : fits .boolean (.int r) = true := by rcases h with rfl | rfl <;> decide
def mn (x y : Int32) : Int32 := if y < x then y else x
theorem j_mmin {p : Program} {l : Launch} {e : Env} {R : Room} {s : State} {m : MethodId} {args : Array Value} {below : List Frame} {meth : Method} {c : Code} {D : va_G} {T : List (ClassId × FieldType)} {A : Nat → Prop} {Q : State → Prop} {cc : ByteArray} {nL : Nat} {own : String} {pc cl sl : Nat} {lv : List (Nat × Value)} {st : List Value} {ws : va_W} {index : Nat} {x y : Int32} (m1 : Cond.methodLink own index Lib.Math.min.name ∈ gG) (m2 : Cond.static Lib.Math.min.name ∈ gG) (m3 : Cond.initialized "java/lang/Math" ∈ gG) (m4 : Cond.code Lib.Math.min.name Lib.Math.min.code 2 (some .int) ∈ gG) (hf : 1 ≤ R.frames) (hlo : (st.map fun v => v.category).sum + 13 ≤ R.locals) (hc : cl ≤ R.cells) (hs : sl ≤ R.slots) (d : decode cc pc = .ok (.invokestatic index, 3))
    (k : J (p, l, e, R, s, m, args, below, meth, c, D, T, A, Q) cc nL own (pc + 3) lv (.int (mn x y) :: st) ws cl sl) : J (p, l, e, R, s, m, args, below, meth, c, D, T, A, Q) cc nL own pc lv (.int y :: .int x :: st) ws cl sl := by
  intro C H locs ls hP hD hS hl
  have hts := C.2.2.2.2.1
  exact va_mmin C.1 C.2.1 (by rw [C.2.2.1]; exact hl.1.symm) C.2.2.2.1 (hts _ m1) (hts _ m2) (hts _ m3) (hts _ m4) hf hlo hc hs d (k C H locs ls hP hD hS hl)
def acpI {α : Type} (n0 n1 : Nat) (k : Int32) (m : Option α) : Option α := if k < 0 ∨ n0 < k.toNatClampNeg ∨ n1 < k.toNatClampNeg then none else m
theorem acpI_s {α : Type} {n0 n1 : Nat} {k : Int32} {m : Option α} {r : α} (h : acpI n0 n1 k m = some r) : ¬ k < 0 ∧ k.toNatClampNeg ≤ n0 ∧ k.toNatClampNeg ≤ n1 ∧ m = some r := by
  unfold acpI at h
  by_cases c : k < 0 ∨ n0 < k.toNatClampNeg ∨ n1 < k.toNatClampNeg
  · rw [if_pos c] at h; cases h
  · rw [if_neg c] at h
    exact ⟨fun z => c (Or.inl z), Nat.not_lt.mp (fun z => c (Or.inr (Or.inl z))), Nat.not_lt.mp (fun z => c (Or.inr (Or.inr z))), h⟩
noncomputable def acpB {α : Type} (f : Nat → Int32) (n0 n1 : Nat) (k : Int32) (m : Option α) : Option α := @ite _ (∀ i, i < k.toNatClampNeg → fits .byte (.int (f i)) = true) (Classical.propDecidable _) (acpI n0 n1 k m) none
theorem acpB_s {α : Type} {f : Nat → Int32} {n0 n1 : Nat} {k : Int32} {m : Option α} {r : α} (h : acpB f n0 n1 k m = some r) : (∀ i, i < k.toNatClampNeg → fits .byte (.int (f i)) = true) ∧ ¬ k < 0 ∧ k.toNatClampNeg ≤ n0 ∧ k.toNatClampNeg ≤ n1 ∧ m = some r := by
  unfold acpB at h
  by_cases c : ∀ i, i < k.toNatClampNeg → fits .byte (.int (f i)) = true
  · rw [if_pos c] at h; exact ⟨c, acpI_s h⟩
  · rw [if_neg c] at h; cases h
theorem acw : nativeFrameWords "java/lang/System" "arraycopy" 5 + 11 ≤ 60 := by decide +kernel
theorem j_lcmp {κ : Kx} {cc : ByteArray} {nL : Nat} {own : String} {pc cl sl : Nat} {lv : List (Nat × Value)} {st : List Value} {ws : va_W} {x y : Int64} (d : decode cc pc = .ok (.lcmp, 1)) (k : J κ cc nL own (pc + 1) lv (.int (lg_cmp x y) :: st) ws cl sl) : J κ cc nL own pc lv (.long y :: .long x :: st) ws cl sl := by
  obtain ⟨p, l, e, R, s, m, args, below, meth, c, D, T, A, Q⟩ := κ
  intro C H locs ls hP hD hS hl
  exact W.lcmp C.1 C.2.1 d (k C H locs ls hP hD hS hl)
