def gNest : List Cond := [Cond.methodLinkNest R_Eq 9 y_Rd_init R_Eq, Cond.methodLinkNest R_Rd 13 y_Sc_init R_Eq, Cond.methodLinkNest R_Sc 11 y_Rw_init R_Eq, Cond.methodLinkNest R_Rd 22 y_Nd_init R_Eq, Cond.methodLinkNest R_Rd 29 y_Tk_init R_Eq, Cond.methodLinkNest R_Rd 51 y_Rw_init R_Eq, Cond.methodLinkNest R_Eq 18 y_Wr_init R_Eq, Cond.methodLinkNest R_Wr 9 y_Nd_init R_Eq, Cond.methodLinkNest R_Wr 18 y_Rw_init R_Eq, Cond.methodLinkNest R_Eq 25 y_Nd_init R_Eq, Cond.methodLinkNest R_Eq 32 y_Rw_init R_Eq, Cond.methodLinkNest R_Mo 106 y_Nm_init R_Mo, Cond.fieldLinkNest R_Mo 288 R_Nm "all" "[I" R_Mo, Cond.fieldLinkNest R_Mo 204 R_Nm "size" "I" R_Mo]
/-! ===== the judgement J: W with world and locals in it; rows of the kit in that form ===== -/
def gG : List Cond := lw_tbl.filter goodWord
theorem gG_in {w : Cond} (h : w ∈ lw_tbl) (g : goodWord w = true) : w ∈ gG := List.mem_filter.mpr ⟨h, g⟩
theorem gG_tbl {w : Cond} (h : w ∈ gG) : w ∈ lw_tbl := (List.mem_filter.mp h).1
theorem gG_good {w : Cond} (h : w ∈ gG) : (w.onTables && w.keeps) = true ∨ ∃ ty, w = .arrayClass ty := good_of_word (List.mem_filter.mp h).2
theorem gG_sub {X : Cond} {ws : List Cond} (h : ∀ w ∈ ws, w ∈ gG) : GoodIn (X :: gG) ws := fun w hw => ⟨List.mem_cons_of_mem _ (h w hw), gG_good (h w hw)⟩
theorem in_g {C : String} {T : u_T} {N : Nat} (h : ∀ w ∈ u_ws C T N, w ∈ lw_tbl) (g : (u_ws C T N).all goodWord = true) : ∀ w ∈ u_ws C T N, w ∈ gG := fun w hw => gG_in (h w hw) (List.all_eq_true.mp g w hw)
def gN (U : State) : Prop := ∀ w ∈ gNest, va_Nw w U
def gStr : List (String × Nat × String × List Int32) := [("EquationText$Scanner", 65, "if", [105, 102]),
  ("EquationText$Scanner", 71, "elseif", [101, 108, 115, 101, 105, 102]),
  ("EquationText$Scanner", 73, "else", [101, 108, 115, 101]),
  ("EquationText$Scanner", 75, "end", [101, 110, 100]),
  ("EquationText$Scanner", 77, "while", [119, 104, 105, 108, 101]),
  ("EquationText$Scanner", 79, "for", [102, 111, 114]),
  ("EquationText$Scanner", 81, "break", [98, 114, 101, 97, 107]),
  ("EquationText$Scanner", 83, "continue", [99, 111, 110, 116, 105, 110, 117, 101]),
  ("EquationText$Scanner", 85, "return", [114, 101, 116, 117, 114, 110]),
  ("EquationText$Scanner", 87, "function", [102, 117, 110, 99, 116, 105, 111, 110]),
  ("EquationText$Scanner", 89, "print", [112, 114, 105, 110, 116]),
  ("EquationText$Scanner", 91, "show", [115, 104, 111, 119]),
  ("EquationText$Scanner", 93, "try", [116, 114, 121]),
  ("EquationText$Scanner", 95, "catch", [99, 97, 116, 99, 104]),
  ("EquationText$Scanner", 116, "179769313486231580793728971405303415079934132710037826936173778980444968292764750946649017977587207096330286416692887910946555547851940402630657488671505820681908902000708383676273854845817711531764475730270069855571366959622842914819860834936475292719074168444365510704342711559699508093042880177904174497792", [49, 55, 57, 55, 54, 57, 51, 49, 51, 52, 56, 54, 50, 51, 49, 53, 56, 48, 55, 57, 51, 55, 50, 56, 57, 55, 49, 52, 48, 53, 51, 48, 51, 52, 49, 53, 48, 55, 57, 57, 51, 52, 49, 51, 50, 55, 49, 48, 48, 51, 55, 56, 50, 54, 57, 51, 54, 49, 55, 51, 55, 55, 56, 57, 56, 48, 52, 52, 52, 57, 54, 56, 50, 57, 50, 55, 54, 52, 55, 53, 48, 57, 52, 54, 54, 52, 57, 48, 49, 55, 57, 55, 55, 53, 56, 55, 50, 48, 55, 48, 57, 54, 51, 51, 48, 50, 56, 54, 52, 49, 54, 54, 57, 50, 56, 56, 55, 57, 49, 48, 57, 52, 54, 53, 53, 53, 53, 52, 55, 56, 53, 49, 57, 52, 48, 52, 48, 50, 54, 51, 48, 54, 53, 55, 52, 56, 56, 54, 55, 49, 53, 48, 53, 56, 50, 48, 54, 56, 49, 57, 48, 56, 57, 48, 50, 48, 48, 48, 55, 48, 56, 51, 56, 51, 54, 55, 54, 50, 55, 51, 56, 53, 52, 56, 52, 53, 56, 49, 55, 55, 49, 49, 53, 51, 49, 55, 54, 52, 52, 55, 53, 55, 51, 48, 50, 55, 48, 48, 54, 57, 56, 53, 53, 53, 55, 49, 51, 54, 54, 57, 53, 57, 54, 50, 50, 56, 52, 50, 57, 49, 52, 56, 49, 57, 56, 54, 48, 56, 51, 52, 57, 51, 54, 52, 55, 53, 50, 57, 50, 55, 49, 57, 48, 55, 52, 49, 54, 56, 52, 52, 52, 51, 54, 53, 53, 49, 48, 55, 48, 52, 51, 52, 50, 55, 49, 49, 53, 53, 57, 54, 57, 57, 53, 48, 56, 48, 57, 51, 48, 52, 50, 56, 56, 48, 49, 55, 55, 57, 48, 52, 49, 55, 52, 52, 57, 55, 55, 57, 50]),
  ("EquationText$Writer", 108, "[", [91]),
  ("EquationText$Writer", 110, "", []),
  ("EquationText$Writer", 112, "if (", [105, 102, 32, 40]),
  ("EquationText$Writer", 75, "  ", [32, 32]),
  ("EquationText$Writer", 117, "while (", [119, 104, 105, 108, 101, 32, 40]),
  ("EquationText$Writer", 119, "for (", [102, 111, 114, 32, 40]),
  ("EquationText$Writer", 121, "try\n", [116, 114, 121, 10]),
  ("EquationText$Writer", 123, ", ", [44, 32]),
  ("EquationText$Writer", 125, "; ", [59, 32]),
  ("EquationText$Writer", 127, " = ", [32, 61, 32]),
  ("EquationText$Writer", 129, ":", [58]),
  ("EquationText$Writer", 150, " ", [32]),
  ("EquationText$Writer", 136, "elseif (", [101, 108, 115, 101, 105, 102, 32, 40]),
  ("EquationText$Writer", 141, "else\n", [101, 108, 115, 101, 10]),
  ("EquationText$Writer", 143, "catch\n", [99, 97, 116, 99, 104, 10]),
  ("EquationText$Writer", 92, "(", [40]),
  ("EquationText$Writer", 155, "function ", [102, 117, 110, 99, 116, 105, 111, 110, 32]),
  ("EquationText$Writer", 157, "end\n", [101, 110, 100, 10]),
  ("EquationText$Writer", 159, ";\n", [59, 10]),
  ("EquationText$Writer", 100, ")", [41]),
  ("EquationText$Writer", 161, "]", [93]),
  ("EquationText$Writer", 163, "'", [39]),
  ("EquationText$Writer", 168, "] = ", [93, 32, 61, 32]),
  ("EquationText$Writer", 170, ")\n", [41, 10]),
  ("EquationText", 61, "n is 0 to 20, and the tape has twenty characters", [110, 32, 105, 115, 32, 48, 32, 116, 111, 32, 50, 48, 44, 32, 97, 110, 100, 32, 116, 104, 101, 32, 116, 97, 112, 101, 32, 104, 97, 115, 32, 116, 119, 101, 110, 116, 121, 32, 99, 104, 97, 114, 97, 99, 116, 101, 114, 115]),
  ("EquationTextModel", 9, "if", [105, 102]),
  ("EquationTextModel", 11, "elseif", [101, 108, 115, 101, 105, 102]),
  ("EquationTextModel", 13, "else", [101, 108, 115, 101]),
  ("EquationTextModel", 15, "end", [101, 110, 100]),
  ("EquationTextModel", 17, "while", [119, 104, 105, 108, 101]),
  ("EquationTextModel", 19, "for", [102, 111, 114]),
  ("EquationTextModel", 21, "break", [98, 114, 101, 97, 107]),
  ("EquationTextModel", 23, "continue", [99, 111, 110, 116, 105, 110, 117, 101]),
  ("EquationTextModel", 25, "return", [114, 101, 116, 117, 114, 110]),
  ("EquationTextModel", 27, "function", [102, 117, 110, 99, 116, 105, 111, 110]),
  ("EquationTextModel", 29, "print", [112, 114, 105, 110, 116]),
  ("EquationTextModel", 31, "show", [115, 104, 111, 119]),
  ("EquationTextModel", 33, "try", [116, 114, 121]),
  ("EquationTextModel", 35, "catch", [99, 97, 116, 99, 104]),
  ("EquationTextModel", 43, "||", [124, 124]),
  ("EquationTextModel", 45, "&&", [38, 38]),
  ("EquationTextModel", 47, "==", [61, 61]),
  ("EquationTextModel", 49, "~=", [126, 61]),
  ("EquationTextModel", 51, "<=", [60, 61]),
  ("EquationTextModel", 53, ">=", [62, 61]),
  ("EquationTextModel", 55, "<", [60]),
  ("EquationTextModel", 57, ">", [62]),
  ("EquationTextModel", 59, ":", [58]),
  ("EquationTextModel", 61, "+", [43]),
  ("EquationTextModel", 63, "-", [45]),
  ("EquationTextModel", 65, "*", [42]),
  ("EquationTextModel", 67, "/", [47]),
  ("EquationTextModel", 69, "\\", [92]),
  ("EquationTextModel", 71, ".*", [46, 42]),
  ("EquationTextModel", 73, "./", [46, 47]),
  ("EquationTextModel", 75, "^", [94]),
  ("EquationTextModel", 77, ".^", [46, 94]),
  ("EquationTextModel", 79, "'", [39]),
  ("EquationTextModel", 81, "~", [126]),
  ("EquationTextModel", 83, "(", [40]),
  ("EquationTextModel", 85, ")", [41]),
  ("EquationTextModel", 87, "[", [91]),
  ("EquationTextModel", 89, "]", [93]),
  ("EquationTextModel", 91, ",", [44]),
  ("EquationTextModel", 93, ";", [59]),
  ("EquationTextModel", 95, "=", [61]),
  ("EquationTextModel", 499, "  ", [32, 32]),
  ("EquationTextModel", 510, "\n", [10]),
  ("EquationTextModel", 505, " ", [32]),
  ("EquationTextModel", 515, ";\n", [59, 10])]
def gNS : Nat := 85
def gB (i : Nat) : List Int32 := match gStr[i]? with
  | some e => e.2.2.2
  | none => []
def sA (D : va_G) (i : Nat) : Nat := D.1 (1000 + i)
def sV (D : va_G) (i : Nat) : Nat := D.1 (2000 + i)
def strAt (q v : Nat) (bs : List Int32) (A : Nat → Prop) (U : State) (H : Heap) : Prop := va_O "java/lang/String" q A U H ∧ va_OF "java/lang/String" "coder" "B" (.int 0) q A U H ∧ va_OF "java/lang/String" "value" "[B" (.ref v) q A U H ∧ va_T .byte v bs.length (fun j => .int (bs.getD j 0)) A U H
def gS (D : va_G) (A : Nat → Prop) (U : State) (H : Heap) : Prop := (∀ (i : Nat) (e : String × Nat × String × List Int32), gStr[i]? = some e → vk_R e.1 e.2.1 e.2.2.1 (sA D i) U ∧ strAt (sA D i) (sV D i) e.2.2.2 A U H) ∧ va_Z "java/lang/String" "COMPACT_STRINGS" "Z" (.int 1) A U H ∧ va_Zq "jdk/internal/util/Preconditions" "SIOOBE_FORMATTER" "Ljava/util/function/BiFunction;" A U H
theorem strAt.go {q v : Nat} {bs : List Int32} {A B : Nat → Prop} {u U : State} {H H1 : Heap} (h : strAt q v bs A u H) (hvm : u.vm.Alike U.vm) (hq : ∀ a : Nat, a < H.size → ¬ A a → H1[a]? = H[a]?) (hF : ∀ q, B q → A q) : strAt q v bs B U H1 := by
  obtain ⟨h1, h2, h3, h4⟩ := h
  exact ⟨((h1.moved hvm).kept hq).narrow hF, ((h2.moved hvm).kept hq).narrow hF, ((h3.moved hvm).kept hq).narrow hF, ((h4.moved hvm).kept hq).narrow hF⟩
theorem gS_call {D : va_G} {A B : Nat → Prop} {s U : State} {H : Heap} {locs : List Loc} (hg : gS D A s s.heap) (hS : va_S A s.heap H locs) (hW : s.WarmedH U.vm) (hU : U.heap = H) (hF : ∀ q, B q → A q) : gS D B U U.heap := by
  subst hU
  exact ⟨fun i e he => ⟨(hg.1 i e he).1.warm hW, (hg.1 i e he).2.go hW.alike hS.2.1 hF⟩, ((hg.2.1.moved hW.alike).kept hS.2.1).narrow hF, ((hg.2.2.moved hW.alike).kept hS.2.1).narrow hF⟩
theorem gS_same {D : va_G} {A : Nat → Prop} {u U : State} {H : Heap} (hv : u.vm = U.vm) (hg : gS D A u H) : gS D A U H := by
  have hal : u.vm.Alike U.vm := by rw [hv]; exact Vm.Alike.refl _
  exact ⟨fun i e he => ⟨vk_R.same hv.symm (hg.1 i e he).1, (hg.1 i e he).2.go hal (fun _ _ _ => rfl) (fun _ h => h)⟩, hg.2.1.moved hal, hg.2.2.moved hal⟩
def Cx (p : Program) (s : State) (m : MethodId) (args : Array Value) (meth : Method) (c : Code) (D : va_G) (T : List (ClassId × FieldType)) (A : Nat → Prop) (cc : ByteArray) (nL : Nat) (own : String) : Prop :=
  p.tables.exec = Jvm.exec ∧ c.code = cc ∧ c.maxLocals = nL ∧ s.vm.findClass own = some m.cls ∧ (∀ w ∈ gG, w.before args s = true) ∧ va_K D gCl T s ∧ (∀ q, s.heap.size ≤ q → A q) ∧ gN s ∧ meth.locks = false ∧ gS D A s s.heap
abbrev Kx : Type := Program × Launch × Env × Room × State × MethodId × Array Value × List Frame × Method × Code × va_G × List (ClassId × FieldType) × (Nat → Prop) × (State → Prop)
def J : Kx → ByteArray → Nat → String → Nat → List (Nat × Value) → List Value → va_W → Nat → Nat → Prop :=
  fun ⟨p, l, e, R, s, m, args, below, meth, c, D, T, A, Q⟩ cc nL own pc lv st ws cl sl => Cx p s m args meth c D T A cc nL own →
    ∀ (H : Heap) (locs : List Loc) (ls : Array Slot), va_P D gCl ws H → va_D A ws → va_S A s.heap H locs → lv_has ls nL lv → W p l e R s m args below meth c H locs cl sl Q (F0 m pc ls st)
section JRows
variable {κ : Kx} {cc : ByteArray} {nL : Nat} {own : String} {pc cl sl : Nat} {lv : List (Nat × Value)} {st : List Value} {ws : va_W}
theorem j_ws {ws' : va_W} (h : ws = ws') (k : J κ cc nL own pc lv st ws' cl sl) : J κ cc nL own pc lv st ws cl sl := h ▸ k
theorem j_st {st' : List Value} (h : st = st') (k : J κ cc nL own pc lv st' ws cl sl) : J κ cc nL own pc lv st ws cl sl := h ▸ k
theorem j_iconst {n : Int} {v : Int32} (d : decode cc pc = .ok (.iconst n, 1)) (hv : Int32.ofInt n = v) (k : J κ cc nL own (pc + 1) lv (.int v :: st) ws cl sl) : J κ cc nL own pc lv (st) ws cl sl := by
  obtain ⟨p, l, e, R, s, m, args, below, meth, c, D, T, A, Q⟩ := κ
  intro C H locs ls hP hD hS hl
  exact lv_iconst C.1 C.2.1 d hv (k C H locs ls hP hD hS hl)
theorem j_bipush {n : Int} {v : Int32} (d : decode cc pc = .ok (.bipush n, 2)) (hv : (Int8.ofInt n).toInt32 = v) (k : J κ cc nL own (pc + 2) lv (.int v :: st) ws cl sl) : J κ cc nL own pc lv (st) ws cl sl := by
  obtain ⟨p, l, e, R, s, m, args, below, meth, c, D, T, A, Q⟩ := κ
  intro C H locs ls hP hD hS hl
  exact lv_bipush C.1 C.2.1 d hv (k C H locs ls hP hD hS hl)
theorem j_sipush {n : Int} {v : Int32} (d : decode cc pc = .ok (.sipush n, 3)) (hv : (Int16.ofInt n).toInt32 = v) (k : J κ cc nL own (pc + 3) lv (.int v :: st) ws cl sl) : J κ cc nL own pc lv (st) ws cl sl := by
  obtain ⟨p, l, e, R, s, m, args, below, meth, c, D, T, A, Q⟩ := κ
  intro C H locs ls hP hD hS hl
  exact lv_sipush C.1 C.2.1 d hv (k C H locs ls hP hD hS hl)
theorem j_lconst {n : Fin 2} {v : Int64} (d : decode cc pc = .ok (.lconst n, 1)) (hv : Int64.ofNat (n : Nat) = v) (k : J κ cc nL own (pc + 1) lv (.long v :: st) ws cl sl) : J κ cc nL own pc lv (st) ws cl sl := by
  obtain ⟨p, l, e, R, s, m, args, below, meth, c, D, T, A, Q⟩ := κ
  intro C H locs ls hP hD hS hl
  exact lv_lconst C.1 C.2.1 d hv (k C H locs ls hP hD hS hl)
theorem j_null (d : decode cc pc = .ok (.aconst_null, 1)) (k : J κ cc nL own (pc + 1) lv (.null :: st) ws cl sl) : J κ cc nL own pc lv (st) ws cl sl := by
  obtain ⟨p, l, e, R, s, m, args, below, meth, c, D, T, A, Q⟩ := κ
  intro C H locs ls hP hD hS hl
  exact lv_null C.1 C.2.1 d (k C H locs ls hP hD hS hl)
theorem j_ldc {index : Nat} {v : Int32} (hm : Cond.constant own index v ∈ gG) (d : decode cc pc = .ok (.ldc index, 2)) (k : J κ cc nL own (pc + 2) lv (.int v :: st) ws cl sl) : J κ cc nL own pc lv (st) ws cl sl := by
  obtain ⟨p, l, e, R, s, m, args, below, meth, c, D, T, A, Q⟩ := κ
  intro C H locs ls hP hD hS hl
  exact lv_ldc C.1 C.2.1 C.2.2.2.1 (C.2.2.2.2.1 _ hm) d (k C H locs ls hP hD hS hl)
theorem j_ldc2 {index : Nat} {v : Int64} (hm : Cond.constantLong own index v ∈ gG) (d : decode cc pc = .ok (.ldc2_w index, 3)) (k : J κ cc nL own (pc + 3) lv (.long v :: st) ws cl sl) : J κ cc nL own pc lv (st) ws cl sl := by
  obtain ⟨p, l, e, R, s, m, args, below, meth, c, D, T, A, Q⟩ := κ
  intro C H locs ls hP hD hS hl
  exact lv_ldc2 C.1 C.2.1 C.2.2.2.1 (C.2.2.2.2.1 _ hm) d (k C H locs ls hP hD hS hl)
theorem j_iload_n {n : Fin 4} {i : Nat} {x : Int32} (d : decode cc pc = .ok (.iload_n n, 1)) (hi : (n : Nat) = i) (q : Nat) (hq : lv[q]? = some (i, .int x)) (k : J κ cc nL own (pc + 1) lv (.int x :: st) ws cl sl) : J κ cc nL own pc lv (st) ws cl sl := by
  obtain ⟨p, l, e, R, s, m, args, below, meth, c, D, T, A, Q⟩ := κ
  intro C H locs ls hP hD hS hl
  exact lv_iload_n C.1 C.2.1 d hi (lv_at hl q hq) (k C H locs ls hP hD hS hl)
theorem j_iload {i : Nat} {x : Int32} (d : decode cc pc = .ok (.iload i, 2)) (q : Nat) (hq : lv[q]? = some (i, .int x)) (k : J κ cc nL own (pc + 2) lv (.int x :: st) ws cl sl) : J κ cc nL own pc lv (st) ws cl sl := by
  obtain ⟨p, l, e, R, s, m, args, below, meth, c, D, T, A, Q⟩ := κ
  intro C H locs ls hP hD hS hl
  exact lv_iload C.1 C.2.1 d (lv_at hl q hq) (k C H locs ls hP hD hS hl)
theorem j_lload_n {n : Fin 4} {i : Nat} {x : Int64} (d : decode cc pc = .ok (.lload_n n, 1)) (hi : (n : Nat) = i) (q : Nat) (hq : lv[q]? = some (i, .long x)) (k : J κ cc nL own (pc + 1) lv (.long x :: st) ws cl sl) : J κ cc nL own pc lv (st) ws cl sl := by
  obtain ⟨p, l, e, R, s, m, args, below, meth, c, D, T, A, Q⟩ := κ
  intro C H locs ls hP hD hS hl
  exact lv_lload_n C.1 C.2.1 d hi (lv_at hl q hq) (k C H locs ls hP hD hS hl)
theorem j_lload {i : Nat} {x : Int64} (d : decode cc pc = .ok (.lload i, 2)) (q : Nat) (hq : lv[q]? = some (i, .long x)) (k : J κ cc nL own (pc + 2) lv (.long x :: st) ws cl sl) : J κ cc nL own pc lv (st) ws cl sl := by
  obtain ⟨p, l, e, R, s, m, args, below, meth, c, D, T, A, Q⟩ := κ
  intro C H locs ls hP hD hS hl
  exact lv_lload C.1 C.2.1 d (lv_at hl q hq) (k C H locs ls hP hD hS hl)
theorem j_aload_n {n : Fin 4} {i : Nat} {x : Nat} (d : decode cc pc = .ok (.aload_n n, 1)) (hi : (n : Nat) = i) (q : Nat) (hq : lv[q]? = some (i, .ref x)) (k : J κ cc nL own (pc + 1) lv (.ref x :: st) ws cl sl) : J κ cc nL own pc lv (st) ws cl sl := by
  obtain ⟨p, l, e, R, s, m, args, below, meth, c, D, T, A, Q⟩ := κ
  intro C H locs ls hP hD hS hl
  exact lv_aload_n C.1 C.2.1 d hi (lv_at hl q hq) (k C H locs ls hP hD hS hl)
theorem j_aload {i : Nat} {x : Nat} (d : decode cc pc = .ok (.aload i, 2)) (q : Nat) (hq : lv[q]? = some (i, .ref x)) (k : J κ cc nL own (pc + 2) lv (.ref x :: st) ws cl sl) : J κ cc nL own pc lv (st) ws cl sl := by
  obtain ⟨p, l, e, R, s, m, args, below, meth, c, D, T, A, Q⟩ := κ
  intro C H locs ls hP hD hS hl
  exact lv_aload C.1 C.2.1 d (lv_at hl q hq) (k C H locs ls hP hD hS hl)
theorem j_aload_nN {n : Fin 4} {i : Nat} (d : decode cc pc = .ok (.aload_n n, 1)) (hi : (n : Nat) = i) (q : Nat) (hq : lv[q]? = some (i, .null)) (k : J κ cc nL own (pc + 1) lv (.null :: st) ws cl sl) : J κ cc nL own pc lv (st) ws cl sl := by
  obtain ⟨p, l, e, R, s, m, args, below, meth, c, D, T, A, Q⟩ := κ
  intro C H locs ls hP hD hS hl
  exact lv_aload_nN C.1 C.2.1 d hi (lv_at hl q hq) (k C H locs ls hP hD hS hl)
theorem j_aloadN {i : Nat} (d : decode cc pc = .ok (.aload i, 2)) (q : Nat) (hq : lv[q]? = some (i, .null)) (k : J κ cc nL own (pc + 2) lv (.null :: st) ws cl sl) : J κ cc nL own pc lv (st) ws cl sl := by
  obtain ⟨p, l, e, R, s, m, args, below, meth, c, D, T, A, Q⟩ := κ
  intro C H locs ls hP hD hS hl
  exact lv_aloadN C.1 C.2.1 d (lv_at hl q hq) (k C H locs ls hP hD hS hl)
theorem j_istore_n {n : Fin 4} {i : Nat} {x : Int32} {lv' : List (Nat × Value)} (d : decode cc pc = .ok (.istore_n n, 1)) (hi : (n : Nat) = i) (hn : i < nL) (hl' : (i, Value.int x) :: lv.filter (fun q => !(q.1 == i) && !(q.1 + 1 == i && q.2.category == 2)) = lv') (k : J κ cc nL own (pc + 1) lv' (st) ws cl sl) : J κ cc nL own pc lv (.int x :: st) ws cl sl := by
  obtain ⟨p, l, e, R, s, m, args, below, meth, c, D, T, A, Q⟩ := κ
  intro C H locs ls hP hD hS hl
  exact lv_istore_n C.1 C.2.1 d hi hl hn hl' (fun ls hl => (k C H locs ls hP hD hS hl))
theorem j_istore {i : Nat} {x : Int32} {lv' : List (Nat × Value)} (d : decode cc pc = .ok (.istore i, 2)) (hn : i < nL) (hl' : (i, Value.int x) :: lv.filter (fun q => !(q.1 == i) && !(q.1 + 1 == i && q.2.category == 2)) = lv') (k : J κ cc nL own (pc + 2) lv' (st) ws cl sl) : J κ cc nL own pc lv (.int x :: st) ws cl sl := by
  obtain ⟨p, l, e, R, s, m, args, below, meth, c, D, T, A, Q⟩ := κ
  intro C H locs ls hP hD hS hl
  exact lv_istore C.1 C.2.1 d hl hn hl' (fun ls hl => (k C H locs ls hP hD hS hl))
theorem j_astore_n {n : Fin 4} {i : Nat} {x : Nat} {lv' : List (Nat × Value)} (d : decode cc pc = .ok (.astore_n n, 1)) (hi : (n : Nat) = i) (hn : i < nL) (hl' : (i, Value.ref x) :: lv.filter (fun q => !(q.1 == i) && !(q.1 + 1 == i && q.2.category == 2)) = lv') (k : J κ cc nL own (pc + 1) lv' (st) ws cl sl) : J κ cc nL own pc lv (.ref x :: st) ws cl sl := by
  obtain ⟨p, l, e, R, s, m, args, below, meth, c, D, T, A, Q⟩ := κ
  intro C H locs ls hP hD hS hl
  exact lv_astore_n C.1 C.2.1 d hi hl hn hl' (fun ls hl => (k C H locs ls hP hD hS hl))
theorem j_astore {i : Nat} {x : Nat} {lv' : List (Nat × Value)} (d : decode cc pc = .ok (.astore i, 2)) (hn : i < nL) (hl' : (i, Value.ref x) :: lv.filter (fun q => !(q.1 == i) && !(q.1 + 1 == i && q.2.category == 2)) = lv') (k : J κ cc nL own (pc + 2) lv' (st) ws cl sl) : J κ cc nL own pc lv (.ref x :: st) ws cl sl := by
  obtain ⟨p, l, e, R, s, m, args, below, meth, c, D, T, A, Q⟩ := κ
  intro C H locs ls hP hD hS hl
  exact lv_astore C.1 C.2.1 d hl hn hl' (fun ls hl => (k C H locs ls hP hD hS hl))
theorem j_lstore_n {n : Fin 4} {i : Nat} {x : Int64} {lv' : List (Nat × Value)} (d : decode cc pc = .ok (.lstore_n n, 1)) (hi : (n : Nat) = i) (hn : i + 1 < nL) (hl' : (i, Value.long x) :: lv.filter (fun q => !(q.1 == i) && (!(q.1 == i + 1) && !(q.1 + 1 == i && q.2.category == 2))) = lv') (k : J κ cc nL own (pc + 1) lv' (st) ws cl sl) : J κ cc nL own pc lv (.long x :: st) ws cl sl := by
  obtain ⟨p, l, e, R, s, m, args, below, meth, c, D, T, A, Q⟩ := κ
  intro C H locs ls hP hD hS hl
  exact lv_lstore_n C.1 C.2.1 d hi hl hn hl' (fun ls hl => (k C H locs ls hP hD hS hl))
theorem j_lstore {i : Nat} {x : Int64} {lv' : List (Nat × Value)} (d : decode cc pc = .ok (.lstore i, 2)) (hn : i + 1 < nL) (hl' : (i, Value.long x) :: lv.filter (fun q => !(q.1 == i) && (!(q.1 == i + 1) && !(q.1 + 1 == i && q.2.category == 2))) = lv') (k : J κ cc nL own (pc + 2) lv' (st) ws cl sl) : J κ cc nL own pc lv (.long x :: st) ws cl sl := by
  obtain ⟨p, l, e, R, s, m, args, below, meth, c, D, T, A, Q⟩ := κ
  intro C H locs ls hP hD hS hl
  exact lv_lstore C.1 C.2.1 d hl hn hl' (fun ls hl => (k C H locs ls hP hD hS hl))
theorem j_iinc {i : Nat} {n : Int} {x v : Int32} {lv' : List (Nat × Value)} (d : decode cc pc = .ok (.iinc i n, 3)) (q : Nat) (hq : lv[q]? = some (i, .int x)) (hv : x + Int32.ofInt n = v) (hn : i < nL) (hl' : (i, Value.int v) :: lv.filter (fun q => !(q.1 == i) && !(q.1 + 1 == i && q.2.category == 2)) = lv') (k : J κ cc nL own (pc + 3) lv' (st) ws cl sl) : J κ cc nL own pc lv (st) ws cl sl := by
  obtain ⟨p, l, e, R, s, m, args, below, meth, c, D, T, A, Q⟩ := κ
  intro C H locs ls hP hD hS hl
  exact lv_iinc C.1 C.2.1 d hl hq hv hn hl' (fun ls hl => (k C H locs ls hP hD hS hl))
theorem j_iadd {x y : Int32} (d : decode cc pc = .ok (.iadd, 1)) (k : J κ cc nL own (pc + 1) lv (.int (x + y) :: st) ws cl sl) : J κ cc nL own pc lv (.int y :: .int x :: st) ws cl sl := by
  obtain ⟨p, l, e, R, s, m, args, below, meth, c, D, T, A, Q⟩ := κ
  intro C H locs ls hP hD hS hl
  exact lv_iadd C.1 C.2.1 d (k C H locs ls hP hD hS hl)
theorem j_isub {x y : Int32} (d : decode cc pc = .ok (.isub, 1)) (k : J κ cc nL own (pc + 1) lv (.int (x - y) :: st) ws cl sl) : J κ cc nL own pc lv (.int y :: .int x :: st) ws cl sl := by
  obtain ⟨p, l, e, R, s, m, args, below, meth, c, D, T, A, Q⟩ := κ
  intro C H locs ls hP hD hS hl
  exact lv_isub C.1 C.2.1 d (k C H locs ls hP hD hS hl)
theorem j_imul {x y : Int32} (d : decode cc pc = .ok (.imul, 1)) (k : J κ cc nL own (pc + 1) lv (.int (x * y) :: st) ws cl sl) : J κ cc nL own pc lv (.int y :: .int x :: st) ws cl sl := by
  obtain ⟨p, l, e, R, s, m, args, below, meth, c, D, T, A, Q⟩ := κ
  intro C H locs ls hP hD hS hl
  exact lv_imul C.1 C.2.1 d (k C H locs ls hP hD hS hl)
theorem j_iand {x y : Int32} (d : decode cc pc = .ok (.iand, 1)) (k : J κ cc nL own (pc + 1) lv (.int (x &&& y) :: st) ws cl sl) : J κ cc nL own pc lv (.int y :: .int x :: st) ws cl sl := by
  obtain ⟨p, l, e, R, s, m, args, below, meth, c, D, T, A, Q⟩ := κ
  intro C H locs ls hP hD hS hl
  exact lv_iand C.1 C.2.1 d (k C H locs ls hP hD hS hl)
theorem j_ior {x y : Int32} (d : decode cc pc = .ok (.ior, 1)) (k : J κ cc nL own (pc + 1) lv (.int (x ||| y) :: st) ws cl sl) : J κ cc nL own pc lv (.int y :: .int x :: st) ws cl sl := by
  obtain ⟨p, l, e, R, s, m, args, below, meth, c, D, T, A, Q⟩ := κ
  intro C H locs ls hP hD hS hl
  exact lv_ior C.1 C.2.1 d (k C H locs ls hP hD hS hl)
theorem j_ixor {x y : Int32} (d : decode cc pc = .ok (.ixor, 1)) (k : J κ cc nL own (pc + 1) lv (.int (x ^^^ y) :: st) ws cl sl) : J κ cc nL own pc lv (.int y :: .int x :: st) ws cl sl := by
  obtain ⟨p, l, e, R, s, m, args, below, meth, c, D, T, A, Q⟩ := κ
  intro C H locs ls hP hD hS hl
  exact lv_ixor C.1 C.2.1 d (k C H locs ls hP hD hS hl)
theorem j_ishl {x y : Int32} (d : decode cc pc = .ok (.ishl, 1)) (k : J κ cc nL own (pc + 1) lv (.int (x <<< (y &&& 31)) :: st) ws cl sl) : J κ cc nL own pc lv (.int y :: .int x :: st) ws cl sl := by
  obtain ⟨p, l, e, R, s, m, args, below, meth, c, D, T, A, Q⟩ := κ
  intro C H locs ls hP hD hS hl
  exact lv_ishl C.1 C.2.1 d (k C H locs ls hP hD hS hl)
theorem j_ishr {x y : Int32} (d : decode cc pc = .ok (.ishr, 1)) (k : J κ cc nL own (pc + 1) lv (.int (x >>> (y &&& 31)) :: st) ws cl sl) : J κ cc nL own pc lv (.int y :: .int x :: st) ws cl sl := by
  obtain ⟨p, l, e, R, s, m, args, below, meth, c, D, T, A, Q⟩ := κ
  intro C H locs ls hP hD hS hl
  exact lv_ishr C.1 C.2.1 d (k C H locs ls hP hD hS hl)
theorem j_ladd {x y : Int64} (d : decode cc pc = .ok (.ladd, 1)) (k : J κ cc nL own (pc + 1) lv (.long (x + y) :: st) ws cl sl) : J κ cc nL own pc lv (.long y :: .long x :: st) ws cl sl := by
  obtain ⟨p, l, e, R, s, m, args, below, meth, c, D, T, A, Q⟩ := κ
  intro C H locs ls hP hD hS hl
  exact lv_ladd C.1 C.2.1 d (k C H locs ls hP hD hS hl)
theorem j_lsub {x y : Int64} (d : decode cc pc = .ok (.lsub, 1)) (k : J κ cc nL own (pc + 1) lv (.long (x - y) :: st) ws cl sl) : J κ cc nL own pc lv (.long y :: .long x :: st) ws cl sl := by
  obtain ⟨p, l, e, R, s, m, args, below, meth, c, D, T, A, Q⟩ := κ
  intro C H locs ls hP hD hS hl
  exact lv_lsub C.1 C.2.1 d (k C H locs ls hP hD hS hl)
theorem j_lmul {x y : Int64} (d : decode cc pc = .ok (.lmul, 1)) (k : J κ cc nL own (pc + 1) lv (.long (x * y) :: st) ws cl sl) : J κ cc nL own pc lv (.long y :: .long x :: st) ws cl sl := by
  obtain ⟨p, l, e, R, s, m, args, below, meth, c, D, T, A, Q⟩ := κ
  intro C H locs ls hP hD hS hl
  exact lv_lmul C.1 C.2.1 d (k C H locs ls hP hD hS hl)
theorem j_ineg {x : Int32} (d : decode cc pc = .ok (.ineg, 1)) (k : J κ cc nL own (pc + 1) lv (.int (-x) :: st) ws cl sl) : J κ cc nL own pc lv (.int x :: st) ws cl sl := by
  obtain ⟨p, l, e, R, s, m, args, below, meth, c, D, T, A, Q⟩ := κ
  intro C H locs ls hP hD hS hl
  exact lv_ineg C.1 C.2.1 d (k C H locs ls hP hD hS hl)
theorem j_lneg {x : Int64} (d : decode cc pc = .ok (.lneg, 1)) (k : J κ cc nL own (pc + 1) lv (.long (-x) :: st) ws cl sl) : J κ cc nL own pc lv (.long x :: st) ws cl sl := by
  obtain ⟨p, l, e, R, s, m, args, below, meth, c, D, T, A, Q⟩ := κ
  intro C H locs ls hP hD hS hl
  exact lv_lneg C.1 C.2.1 d (k C H locs ls hP hD hS hl)
theorem j_idiv {x y : Int32} (hne : ¬ y = 0) (d : decode cc pc = .ok (.idiv, 1)) (k : J κ cc nL own (pc + 1) lv (.int (x / y) :: st) ws cl sl) : J κ cc nL own pc lv (.int y :: .int x :: st) ws cl sl := by
  obtain ⟨p, l, e, R, s, m, args, below, meth, c, D, T, A, Q⟩ := κ
  intro C H locs ls hP hD hS hl
  exact lv_idiv C.1 C.2.1 d hne (k C H locs ls hP hD hS hl)
theorem j_irem {x y : Int32} (hne : ¬ y = 0) (d : decode cc pc = .ok (.irem, 1)) (k : J κ cc nL own (pc + 1) lv (.int (x - x / y * y) :: st) ws cl sl) : J κ cc nL own pc lv (.int y :: .int x :: st) ws cl sl := by
  obtain ⟨p, l, e, R, s, m, args, below, meth, c, D, T, A, Q⟩ := κ
  intro C H locs ls hP hD hS hl
  exact lv_irem C.1 C.2.1 d hne (k C H locs ls hP hD hS hl)
theorem j_i2b {x : Int32} (d : decode cc pc = .ok (.i2b, 1)) (k : J κ cc nL own (pc + 1) lv (.int (x.toInt8.toInt32) :: st) ws cl sl) : J κ cc nL own pc lv (.int x :: st) ws cl sl := by
  obtain ⟨p, l, e, R, s, m, args, below, meth, c, D, T, A, Q⟩ := κ
  intro C H locs ls hP hD hS hl
  exact lv_i2b C.1 C.2.1 d rfl (k C H locs ls hP hD hS hl)
theorem j_i2c {x : Int32} (d : decode cc pc = .ok (.i2c, 1)) (k : J κ cc nL own (pc + 1) lv (.int ((x.toUInt32 % 65536).toInt32) :: st) ws cl sl) : J κ cc nL own pc lv (.int x :: st) ws cl sl := by
  obtain ⟨p, l, e, R, s, m, args, below, meth, c, D, T, A, Q⟩ := κ
  intro C H locs ls hP hD hS hl
  exact lv_i2c C.1 C.2.1 d rfl (k C H locs ls hP hD hS hl)
theorem j_i2l {x : Int32} (d : decode cc pc = .ok (.i2l, 1)) (k : J κ cc nL own (pc + 1) lv (.long (x.toInt64) :: st) ws cl sl) : J κ cc nL own pc lv (.int x :: st) ws cl sl := by
  obtain ⟨p, l, e, R, s, m, args, below, meth, c, D, T, A, Q⟩ := κ
  intro C H locs ls hP hD hS hl
  exact lv_i2l C.1 C.2.1 d rfl (k C H locs ls hP hD hS hl)
theorem j_l2i {x : Int64} (d : decode cc pc = .ok (.l2i, 1)) (k : J κ cc nL own (pc + 1) lv (.int (x.toInt32) :: st) ws cl sl) : J κ cc nL own pc lv (.long x :: st) ws cl sl := by
  obtain ⟨p, l, e, R, s, m, args, below, meth, c, D, T, A, Q⟩ := κ
  intro C H locs ls hP hD hS hl
  exact lv_l2i C.1 C.2.1 d rfl (k C H locs ls hP hD hS hl)
theorem j_iushr {x y : Int32} (d : decode cc pc = .ok (.iushr, 1)) (k : J κ cc nL own (pc + 1) lv (.int (x.toUInt32 >>> (y.toUInt32 &&& Int32.toUInt32 31)).toInt32 :: st) ws cl sl) : J κ cc nL own pc lv (.int y :: .int x :: st) ws cl sl := by
  obtain ⟨p, l, e, R, s, m, args, below, meth, c, D, T, A, Q⟩ := κ
  intro C H locs ls hP hD hS hl
  exact lv_iushr C.1 C.2.1 d rfl (k C H locs ls hP hD hS hl)
theorem j_dup {v : Value} (hv : v.category = 1) (d : decode cc pc = .ok (.dup, 1)) (k : J κ cc nL own (pc + 1) lv (v :: v :: st) ws cl sl) : J κ cc nL own pc lv (v :: st) ws cl sl := by
  obtain ⟨p, l, e, R, s, m, args, below, meth, c, D, T, A, Q⟩ := κ
  intro C H locs ls hP hD hS hl
  exact lv_dup C.1 C.2.1 d hv (k C H locs ls hP hD hS hl)
theorem j_dup_x1 {v w : Value} (hv : v.category = 1) (hw : w.category = 1) (d : decode cc pc = .ok (.dup_x1, 1)) (k : J κ cc nL own (pc + 1) lv (v :: w :: v :: st) ws cl sl) : J κ cc nL own pc lv (v :: w :: st) ws cl sl := by
  obtain ⟨p, l, e, R, s, m, args, below, meth, c, D, T, A, Q⟩ := κ
  intro C H locs ls hP hD hS hl
  exact lv_dup_x1 C.1 C.2.1 d hv hw (k C H locs ls hP hD hS hl)
theorem j_pop {v : Value} (hv : v.category = 1) (d : decode cc pc = .ok (.pop, 1)) (k : J κ cc nL own (pc + 1) lv (st) ws cl sl) : J κ cc nL own pc lv (v :: st) ws cl sl := by
  obtain ⟨p, l, e, R, s, m, args, below, meth, c, D, T, A, Q⟩ := κ
  intro C H locs ls hP hD hS hl
  exact lv_pop C.1 C.2.1 d hv (k C H locs ls hP hD hS hl)
theorem j_if_eq {x : Int32} {off : Int} {tgt : Nat} (d : decode cc pc = .ok (.ifCond .eq off, 3)) (ht : (pc : Int) + off = (tgt : Int)) (kt : x = 0 → J κ cc nL own tgt lv st ws cl sl) (kf : ¬ x = 0 → J κ cc nL own (pc + 3) lv st ws cl sl) : J κ cc nL own pc lv (.int x :: st) ws cl sl := by
  obtain ⟨p, l, e, R, s, m, args, below, meth, c, D, T, A, Q⟩ := κ
  intro C H locs ls hP hD hS hl
  exact lv_if_eq C.1 C.2.1 d ht (fun z => kt z C H locs ls hP hD hS hl) (fun z => kf z C H locs ls hP hD hS hl)
theorem j_if_ne {x : Int32} {off : Int} {tgt : Nat} (d : decode cc pc = .ok (.ifCond .ne off, 3)) (ht : (pc : Int) + off = (tgt : Int)) (kt : ¬ x = 0 → J κ cc nL own tgt lv st ws cl sl) (kf : x = 0 → J κ cc nL own (pc + 3) lv st ws cl sl) : J κ cc nL own pc lv (.int x :: st) ws cl sl := by
  obtain ⟨p, l, e, R, s, m, args, below, meth, c, D, T, A, Q⟩ := κ
  intro C H locs ls hP hD hS hl
  exact lv_if_ne C.1 C.2.1 d ht (fun z => kt z C H locs ls hP hD hS hl) (fun z => kf z C H locs ls hP hD hS hl)
theorem j_if_lt {x : Int32} {off : Int} {tgt : Nat} (d : decode cc pc = .ok (.ifCond .lt off, 3)) (ht : (pc : Int) + off = (tgt : Int)) (kt : x < 0 → J κ cc nL own tgt lv st ws cl sl) (kf : ¬ x < 0 → J κ cc nL own (pc + 3) lv st ws cl sl) : J κ cc nL own pc lv (.int x :: st) ws cl sl := by
  obtain ⟨p, l, e, R, s, m, args, below, meth, c, D, T, A, Q⟩ := κ
  intro C H locs ls hP hD hS hl
  exact lv_if_lt C.1 C.2.1 d ht (fun z => kt z C H locs ls hP hD hS hl) (fun z => kf z C H locs ls hP hD hS hl)
theorem j_if_ge {x : Int32} {off : Int} {tgt : Nat} (d : decode cc pc = .ok (.ifCond .ge off, 3)) (ht : (pc : Int) + off = (tgt : Int)) (kt : 0 ≤ x → J κ cc nL own tgt lv st ws cl sl) (kf : ¬ 0 ≤ x → J κ cc nL own (pc + 3) lv st ws cl sl) : J κ cc nL own pc lv (.int x :: st) ws cl sl := by
  obtain ⟨p, l, e, R, s, m, args, below, meth, c, D, T, A, Q⟩ := κ
  intro C H locs ls hP hD hS hl
  exact lv_if_ge C.1 C.2.1 d ht (fun z => kt z C H locs ls hP hD hS hl) (fun z => kf z C H locs ls hP hD hS hl)
theorem j_if_gt {x : Int32} {off : Int} {tgt : Nat} (d : decode cc pc = .ok (.ifCond .gt off, 3)) (ht : (pc : Int) + off = (tgt : Int)) (kt : 0 < x → J κ cc nL own tgt lv st ws cl sl) (kf : ¬ 0 < x → J κ cc nL own (pc + 3) lv st ws cl sl) : J κ cc nL own pc lv (.int x :: st) ws cl sl := by
  obtain ⟨p, l, e, R, s, m, args, below, meth, c, D, T, A, Q⟩ := κ
  intro C H locs ls hP hD hS hl
  exact lv_if_gt C.1 C.2.1 d ht (fun z => kt z C H locs ls hP hD hS hl) (fun z => kf z C H locs ls hP hD hS hl)
theorem j_if_le {x : Int32} {off : Int} {tgt : Nat} (d : decode cc pc = .ok (.ifCond .le off, 3)) (ht : (pc : Int) + off = (tgt : Int)) (kt : x ≤ 0 → J κ cc nL own tgt lv st ws cl sl) (kf : ¬ x ≤ 0 → J κ cc nL own (pc + 3) lv st ws cl sl) : J κ cc nL own pc lv (.int x :: st) ws cl sl := by
  obtain ⟨p, l, e, R, s, m, args, below, meth, c, D, T, A, Q⟩ := κ
  intro C H locs ls hP hD hS hl
  exact lv_if_le C.1 C.2.1 d ht (fun z => kt z C H locs ls hP hD hS hl) (fun z => kf z C H locs ls hP hD hS hl)
theorem j_icmp_eq {x y : Int32} {off : Int} {tgt : Nat} (d : decode cc pc = .ok (.if_icmp .eq off, 3)) (ht : (pc : Int) + off = (tgt : Int)) (kt : x = y → J κ cc nL own tgt lv st ws cl sl) (kf : ¬ x = y → J κ cc nL own (pc + 3) lv st ws cl sl) : J κ cc nL own pc lv (.int y :: .int x :: st) ws cl sl := by
  obtain ⟨p, l, e, R, s, m, args, below, meth, c, D, T, A, Q⟩ := κ
  intro C H locs ls hP hD hS hl
  exact lv_icmp_eq C.1 C.2.1 d ht (fun z => kt z C H locs ls hP hD hS hl) (fun z => kf z C H locs ls hP hD hS hl)
theorem j_icmp_ne {x y : Int32} {off : Int} {tgt : Nat} (d : decode cc pc = .ok (.if_icmp .ne off, 3)) (ht : (pc : Int) + off = (tgt : Int)) (kt : ¬ x = y → J κ cc nL own tgt lv st ws cl sl) (kf : x = y → J κ cc nL own (pc + 3) lv st ws cl sl) : J κ cc nL own pc lv (.int y :: .int x :: st) ws cl sl := by
  obtain ⟨p, l, e, R, s, m, args, below, meth, c, D, T, A, Q⟩ := κ
  intro C H locs ls hP hD hS hl
  exact lv_icmp_ne C.1 C.2.1 d ht (fun z => kt z C H locs ls hP hD hS hl) (fun z => kf z C H locs ls hP hD hS hl)
theorem j_icmp_lt {x y : Int32} {off : Int} {tgt : Nat} (d : decode cc pc = .ok (.if_icmp .lt off, 3)) (ht : (pc : Int) + off = (tgt : Int)) (kt : x < y → J κ cc nL own tgt lv st ws cl sl) (kf : ¬ x < y → J κ cc nL own (pc + 3) lv st ws cl sl) : J κ cc nL own pc lv (.int y :: .int x :: st) ws cl sl := by
  obtain ⟨p, l, e, R, s, m, args, below, meth, c, D, T, A, Q⟩ := κ
  intro C H locs ls hP hD hS hl
  exact lv_icmp_lt C.1 C.2.1 d ht (fun z => kt z C H locs ls hP hD hS hl) (fun z => kf z C H locs ls hP hD hS hl)
theorem j_icmp_ge {x y : Int32} {off : Int} {tgt : Nat} (d : decode cc pc = .ok (.if_icmp .ge off, 3)) (ht : (pc : Int) + off = (tgt : Int)) (kt : y ≤ x → J κ cc nL own tgt lv st ws cl sl) (kf : ¬ y ≤ x → J κ cc nL own (pc + 3) lv st ws cl sl) : J κ cc nL own pc lv (.int y :: .int x :: st) ws cl sl := by
  obtain ⟨p, l, e, R, s, m, args, below, meth, c, D, T, A, Q⟩ := κ
  intro C H locs ls hP hD hS hl
  exact lv_icmp_ge C.1 C.2.1 d ht (fun z => kt z C H locs ls hP hD hS hl) (fun z => kf z C H locs ls hP hD hS hl)
theorem j_icmp_gt {x y : Int32} {off : Int} {tgt : Nat} (d : decode cc pc = .ok (.if_icmp .gt off, 3)) (ht : (pc : Int) + off = (tgt : Int)) (kt : y < x → J κ cc nL own tgt lv st ws cl sl) (kf : ¬ y < x → J κ cc nL own (pc + 3) lv st ws cl sl) : J κ cc nL own pc lv (.int y :: .int x :: st) ws cl sl := by
  obtain ⟨p, l, e, R, s, m, args, below, meth, c, D, T, A, Q⟩ := κ
  intro C H locs ls hP hD hS hl
  exact lv_icmp_gt C.1 C.2.1 d ht (fun z => kt z C H locs ls hP hD hS hl) (fun z => kf z C H locs ls hP hD hS hl)
theorem j_icmp_le {x y : Int32} {off : Int} {tgt : Nat} (d : decode cc pc = .ok (.if_icmp .le off, 3)) (ht : (pc : Int) + off = (tgt : Int)) (kt : x ≤ y → J κ cc nL own tgt lv st ws cl sl) (kf : ¬ x ≤ y → J κ cc nL own (pc + 3) lv st ws cl sl) : J κ cc nL own pc lv (.int y :: .int x :: st) ws cl sl := by
  obtain ⟨p, l, e, R, s, m, args, below, meth, c, D, T, A, Q⟩ := κ
  intro C H locs ls hP hD hS hl
  exact lv_icmp_le C.1 C.2.1 d ht (fun z => kt z C H locs ls hP hD hS hl) (fun z => kf z C H locs ls hP hD hS hl)
theorem j_goto {off : Int} {tgt : Nat} (d : decode cc pc = .ok (.goto off, 3)) (ht : (pc : Int) + off = (tgt : Int)) (k : J κ cc nL own tgt lv (st) ws cl sl) : J κ cc nL own pc lv (st) ws cl sl := by
  obtain ⟨p, l, e, R, s, m, args, below, meth, c, D, T, A, Q⟩ := κ
  intro C H locs ls hP hD hS hl
  exact lv_goto C.1 C.2.1 d ht (k C H locs ls hP hD hS hl)
theorem j_ifnonnull {x : Nat} {off : Int} {tgt : Nat} (d : decode cc pc = .ok (.ifnonnull off, 3)) (ht : (pc : Int) + off = (tgt : Int)) (k : J κ cc nL own tgt lv (st) ws cl sl) : J κ cc nL own pc lv (.ref x :: st) ws cl sl := by
  obtain ⟨p, l, e, R, s, m, args, below, meth, c, D, T, A, Q⟩ := κ
  intro C H locs ls hP hD hS hl
  exact lv_ifnonnull C.1 C.2.1 d ht (k C H locs ls hP hD hS hl)
theorem j_ifnull {x : Nat} {off : Int} (d : decode cc pc = .ok (.ifnull off, 3)) (k : J κ cc nL own (pc + 3) lv (st) ws cl sl) : J κ cc nL own pc lv (.ref x :: st) ws cl sl := by
  obtain ⟨p, l, e, R, s, m, args, below, meth, c, D, T, A, Q⟩ := κ
  intro C H locs ls hP hD hS hl
  exact lv_ifnull C.1 C.2.1 d (k C H locs ls hP hD hS hl)
theorem j_ifnullN {off : Int} {tgt : Nat} (d : decode cc pc = .ok (.ifnull off, 3)) (ht : (pc : Int) + off = (tgt : Int)) (k : J κ cc nL own tgt lv (st) ws cl sl) : J κ cc nL own pc lv (.null :: st) ws cl sl := by
  obtain ⟨p, l, e, R, s, m, args, below, meth, c, D, T, A, Q⟩ := κ
  intro C H locs ls hP hD hS hl
  exact lv_ifnullN C.1 C.2.1 d ht (k C H locs ls hP hD hS hl)
theorem j_ifnonnullN {off : Int} (d : decode cc pc = .ok (.ifnonnull off, 3)) (k : J κ cc nL own (pc + 3) lv (st) ws cl sl) : J κ cc nL own pc lv (.null :: st) ws cl sl := by
  obtain ⟨p, l, e, R, s, m, args, below, meth, c, D, T, A, Q⟩ := κ
  intro C H locs ls hP hD hS hl
  exact lv_ifnonnullN C.1 C.2.1 d (k C H locs ls hP hD hS hl)
theorem j_get {ref Cn : String} {Tf : u_T} {N ci index a : Nat} {fs : List Value} {v : Value} (hin : ∀ w ∈ u_ws Cn Tf N, w ∈ gG) (hc : gCl[ci]? = some (Cn, Tf, N)) (q0 : Nat) (he : ws[q0]? = some (a, .inr (ci, fs))) (f : Nat) (hf : f < N) (hr : ref = (Tf f).1) (hm : Cond.fieldLink own index ref (Tf f).2.1 (Tf f).2.2.1 ∈ gG) (hv : fs[f]? = some v) (d : decode cc pc = .ok (.getfield index, 3)) (k : J κ cc nL own (pc + 3) lv (v :: st) ws cl sl) : J κ cc nL own pc lv (.ref a :: st) ws cl sl := by
  obtain ⟨p, l, e, R, s, m, args, below, meth, c, D, T, A, Q⟩ := κ
  intro C H locs ls hP hD hS hl
  exact va_get (D := D) (cl := gCl) C.1 C.2.1 C.2.2.2.2.1 hin C.2.2.2.1 C.2.2.2.2.2.1 hP q0 he hc f hf (C.2.2.2.2.1 _ hm) (fun x h9 => by rw [hr]; exact h9) hv d (k C H locs ls hP hD hS hl)
theorem j_put {ref Cn : String} {Tf : u_T} {N ci index a : Nat} {fs : List Value} {v : Value} {ty0 : Nat → FieldType} {ty : FieldType} {ws' : va_W} (hin : ∀ w ∈ u_ws Cn Tf N, w ∈ gG) (hty : ∀ k, k < N → parseFieldDescriptor (Tf k).2.2.1 = some (ty0 k)) (hnm : ∀ a, a < N → ∀ b, b < N → a ≠ b → (Tf a).2.1 ≠ (Tf b).2.1) (hc : gCl[ci]? = some (Cn, Tf, N)) (q0 : Nat) (he : ws[q0]? = some (a, .inr (ci, fs))) (f : Nat) (hf : f < N) (hr : ref = (Tf f).1) (hm : Cond.fieldLink own index ref (Tf f).2.1 (Tf f).2.2.1 ∈ gG) (hfin : (Tf f).2.2.2 = false) (hd : parseFieldDescriptor (Tf f).2.2.1 = some ty) (hn : narrow ty v = v) (hfit : fits ty v = true) (hl9 : f < fs.length) (d : decode cc pc = .ok (.putfield index, 3)) (hw : ws.set q0 (a, .inr (ci, fs.set f v)) = ws') (k : J κ cc nL own (pc + 3) lv st ws' cl sl) : J κ cc nL own pc lv (v :: .ref a :: st) ws cl sl := by
  obtain ⟨p, l, e, R, s, m, args, below, meth, c, D, T, A, Q⟩ := κ
  intro C H locs ls hP hD hS hl
  subst hw
  exact va_put (D := D) (cl := gCl) C.1 C.2.1 C.2.2.2.2.1 hin ty0 hty hnm C.2.2.2.1 C.2.2.2.2.2.1 hP hD hS q0 he hc f hf (C.2.2.2.2.1 _ hm) (fun x h9 => by rw [hr]; exact h9) hfin hd hn hfit hl9 d (fun H locs hP hD hS => (k C H locs ls hP hD hS hl))
theorem j_iald {a n t0 : Nat} {cA : ClassId} {f : Nat → Int32} {i : Int32} (q0 : Nat) (he : ws[q0]? = some (a, .inl (cA, n, .inl f))) (hT : κ.2.2.2.2.2.2.2.2.2.2.2.1[t0]? = some (cA, .int)) (hin : vp_in i n) (d : decode cc pc = .ok (.iaload, 1)) (k : J κ cc nL own (pc + 1) lv (.int (f i.toNatClampNeg) :: st) ws cl sl) : J κ cc nL own pc lv (.int i :: .ref a :: st) ws cl sl := by
  obtain ⟨p, l, e, R, s, m, args, below, meth, c, D, T, A, Q⟩ := κ
  intro C H locs ls hP hD hS hl
  exact va_iald C.1 C.2.1 C.2.2.2.2.2.1 hP q0 t0 he hT hin d (k C H locs ls hP hD hS hl)
theorem j_bald {a n t0 : Nat} {cA : ClassId} {f : Nat → Int32} {i : Int32} (q0 : Nat) (he : ws[q0]? = some (a, .inl (cA, n, .inl f))) (hT : κ.2.2.2.2.2.2.2.2.2.2.2.1[t0]? = some (cA, .byte)) (hin : vp_in i n) (d : decode cc pc = .ok (.baload, 1)) (k : J κ cc nL own (pc + 1) lv (.int (f i.toNatClampNeg) :: st) ws cl sl) : J κ cc nL own pc lv (.int i :: .ref a :: st) ws cl sl := by
  obtain ⟨p, l, e, R, s, m, args, below, meth, c, D, T, A, Q⟩ := κ
  intro C H locs ls hP hD hS hl
  exact va_bald C.1 C.2.1 C.2.2.2.2.2.1 hP q0 t0 he hT hin d (k C H locs ls hP hD hS hl)
theorem j_iast {a n t0 : Nat} {cA : ClassId} {f : Nat → Int32} {i x : Int32} {ws' : va_W} (q0 : Nat) (he : ws[q0]? = some (a, .inl (cA, n, .inl f))) (hT : κ.2.2.2.2.2.2.2.2.2.2.2.1[t0]? = some (cA, .int)) (hin : vp_in i n) (d : decode cc pc = .ok (.iastore, 1)) (hw : ws.set q0 (a, .inl (cA, n, .inl (upd f i.toNatClampNeg x))) = ws') (k : J κ cc nL own (pc + 1) lv st ws' cl sl) : J κ cc nL own pc lv (.int x :: .int i :: .ref a :: st) ws cl sl := by
  obtain ⟨p, l, e, R, s, m, args, below, meth, c, D, T, A, Q⟩ := κ
  intro C H locs ls hP hD hS hl
  subst hw
  exact va_iast C.1 C.2.1 C.2.2.2.2.2.1 hP hD hS q0 t0 he hT hin d (fun H locs hP hD hS => (k C H locs ls hP hD hS hl))
theorem j_bast {a n t0 : Nat} {cA : ClassId} {f : Nat → Int32} {i x : Int32} {ws' : va_W} (q0 : Nat) (he : ws[q0]? = some (a, .inl (cA, n, .inl f))) (hT : κ.2.2.2.2.2.2.2.2.2.2.2.1[t0]? = some (cA, .byte)) (hin : vp_in i n) (d : decode cc pc = .ok (.bastore, 1)) (hw : ws.set q0 (a, .inl (cA, n, .inl (upd f i.toNatClampNeg (vp_nar .byte x)))) = ws') (k : J κ cc nL own (pc + 1) lv st ws' cl sl) : J κ cc nL own pc lv (.int x :: .int i :: .ref a :: st) ws cl sl := by
  obtain ⟨p, l, e, R, s, m, args, below, meth, c, D, T, A, Q⟩ := κ
  intro C H locs ls hP hD hS hl
  subst hw
  exact va_bast C.1 C.2.1 C.2.2.2.2.2.1 hP hD hS q0 t0 he hT hin d (fun H locs hP hD hS => (k C H locs ls hP hD hS hl))
theorem j_alen {a t0 : Nat} {cA : ClassId} {x : vp_A} {ty : FieldType} {v : Int32} (q0 : Nat) (he : ws[q0]? = some (a, .inl (cA, x))) (hT : κ.2.2.2.2.2.2.2.2.2.2.2.1[t0]? = some (cA, ty)) (hv : Int32.ofNat x.1 = v) (d : decode cc pc = .ok (.arraylength, 1)) (k : J κ cc nL own (pc + 1) lv (.int v :: st) ws cl sl) : J κ cc nL own pc lv (.ref a :: st) ws cl sl := by
  obtain ⟨p, l, e, R, s, m, args, below, meth, c, D, T, A, Q⟩ := κ
  intro C H locs ls hP hD hS hl
  exact va_alen C.1 C.2.1 C.2.2.2.2.2.1 hP q0 t0 he hT hv d (k C H locs ls hP hD hS hl)
end JRows
