def R_law : String := "EquationTextLaw"
def lw_P (b : Addr) (xs : List Int32) (args : Array Value) (s : State) : Prop := args = #[.ref b] ∧ s.IntsAt b xs ∧ xs.length ≤ 3072 ∧ (Jvm.Cond.and given_1 narrow_1).before args s = true
def lw_Q (_ : Array Value) (s : State) (o : Outcome) (t : State) : Prop := o = .returned (some (.int 1)) ∧ Framed s o t [] 601024 7293034
def lw_Z (below : List Frame) (a : Array Value) (s : State) : State → Prop := fun t => ∃ o, t.status = .running ∧ Ended t below o ∧ lw_Q a s o t
/-- the law's own end, with 1 on the stack, nothing written that was there before, its room as the claim has it -/
theorem lw_ret {p : Program} {l : Launch} {e : Env} {s : State} {m : MethodId} {below : List Frame} {meth : Method} {c : Code} {b : Nat} (hx : p.tables.exec = Jvm.exec) (hb : c.code = code) (hr : meth.sig.returnType = ret) (hlocks : meth.locks = false) {pc : Nat} {H : Heap} {ls : Array Slot} (hdg : decode code pc = .ok (.ireturn, 1)) : W p l e room_1 s m #[Value.ref b] below meth c H [] 601024 7293034 (lw_Z below #[Value.ref b] s) (F0 m pc ls [.int 1]) := by
  intro T hT X
  obtain ⟨fs, hret, hrun, hended, hW, hframe⟩ := X.leave (v := some (.int 1)) (hlocks := hlocks) (fun h => by rw [hr] at h; cases h)
  have hmeth' : T.vm.method? m = some meth := X.method'
  refine ⟨T.setFrames fs, ?_, .returned (some (.int 1)), hrun, hended, rfl, ⟨_, rfl⟩, hW, hframe⟩
  jvm_step X.here [X.here.top, hx, hb, hdg, hmeth', hr, ret, narrow_b1]
  (try refine ⟨rfl, ?_⟩); (try refine ⟨rfl, ?_⟩)
  first | (intro acts; rw [hret _ acts rfl rfl rfl]) | rw [hret _ _ rfl rfl rfl]
  exact Steps.refl _
/-- what holds at the law's entry: the machine, the code, the tables' words (any of lw_tbl by 'hts w (by decide +kernel)'), the script of L ints xs at the cell b, what the Statement gives of the start (any of its parts by flat_of_before) -/
def lw_At (p : Program) (s : State) (m : MethodId) (meth : Method) (c : Code) (b L : Nat) (xs : Nat → Int32) : Prop :=
  p.tables.exec = Jvm.exec ∧ c.code = code ∧ meth.sig.returnType = ret ∧ c.maxLocals = 7 ∧ s.vm.findClass R_law = some m.cls ∧ (∀ w ∈ lw_tbl, w.before #[Value.ref b] s = true) ∧ va_X b L xs s s.heap ∧ b < s.heap.size ∧ meth.locks = false ∧ (Jvm.Cond.and given_1 narrow_1).before #[Value.ref b] s = true

section JLaw
variable {p : Program} {l : Launch} {e : Env} {R : Room} {s : State} {m : MethodId} {args : Array Value} {below : List Frame} {meth : Method} {c : Code} {D : va_G} {T : List (ClassId × FieldType)} {A : Nat → Prop} {Q : State → Prop} {cc : ByteArray} {nL : Nat} {own : String} {pc cl sl : Nat} {lv : List (Nat × Value)} {st : List Value} {ws : va_W} {b L : Nat} {xs : Nat → Int32}
theorem j_lawld {i : Int32} (hX : va_X b L xs s s.heap) (hbl : b < s.heap.size) (hin : vp_in i L) (d : decode cc pc = .ok (.iaload, 1)) (k : J (p, l, e, R, s, m, args, below, meth, c, D, T, (fun q => s.heap.size ≤ q), Q) cc nL own (pc + 1) lv (.int (xs i.toNatClampNeg) :: st) ws cl sl) : J (p, l, e, R, s, m, args, below, meth, c, D, T, (fun q => s.heap.size ≤ q), Q) cc nL own pc lv (.int i :: .ref b :: st) ws cl sl := by
  intro C H locs ls hP hD hS hl
  exact va_sld C.1 C.2.1 hX hbl (Nat.not_le.mpr hbl) hS hin d (k C H locs ls hP hD hS hl)
theorem j_lawlen (hX : va_X b L xs s s.heap) (hbl : b < s.heap.size) (d : decode cc pc = .ok (.arraylength, 1)) (k : J (p, l, e, R, s, m, args, below, meth, c, D, T, (fun q => s.heap.size ≤ q), Q) cc nL own (pc + 1) lv (.int (nI L) :: st) ws cl sl) : J (p, l, e, R, s, m, args, below, meth, c, D, T, (fun q => s.heap.size ≤ q), Q) cc nL own pc lv (.ref b :: st) ws cl sl := by
  intro C H locs ls hP hD hS hl
  exact va_slen C.1 C.2.1 hX hbl (Nat.not_le.mpr hbl) hS d (k C H locs ls hP hD hS hl)
theorem j_lald {t0 : Nat} (q0 : Nat) {a : Nat} {cA : ClassId} {n : Nat} {f : Nat → Int64} (ha : ws[q0]? = some (a, .inl (cA, n, .inr (.inl f)))) (ht : T[t0]? = some (cA, .long)) {i : Int32} (hin : vp_in i n) (d : decode cc pc = .ok (.laload, 1)) (k : J (p, l, e, R, s, m, args, below, meth, c, D, T, A, Q) cc nL own (pc + 1) lv (.long (f i.toNatClampNeg) :: st) ws cl sl) : J (p, l, e, R, s, m, args, below, meth, c, D, T, A, Q) cc nL own pc lv (.int i :: .ref a :: st) ws cl sl := by
  intro C H locs ls hP hD hS hl
  exact va_lald C.1 C.2.1 C.2.2.2.2.2.1 hP q0 t0 ha ht hin d (k C H locs ls hP hD hS hl)
theorem j_lawret (hr : meth.sig.returnType = ret) (hlk : meth.locks = false) (hc : cl ≤ 601024) (hs : sl ≤ 7293034) (d : decode code pc = .ok (.ireturn, 1)) : J (p, l, e, room_1, s, m, #[Value.ref b], below, meth, c, D, T, (fun q => s.heap.size ≤ q), lw_Z below #[Value.ref b] s) code nL own pc lv [.int 1] ws cl sl := by
  intro C H locs ls hP hD hS hl
  exact W.widen (k := 601024) (n := 7293034) hc hs (va_forget (fun q hq => hS.2.2 q hq) (lw_ret C.1 C.2.1 hr hlk d))
end JLaw
