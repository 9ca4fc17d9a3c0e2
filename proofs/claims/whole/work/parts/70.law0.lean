/-! ===== what holds at the law's entry, in the words of the worlds ===== -/
abbrev R_La0 : String := "EquationTextLaw"
def strC (e : String × Nat × String × List Int32) : List Cond :=
  [.exactly (.string e.1 e.2.1) "java/lang/String", .eq (.field (.string e.1 e.2.1) "java/lang/String" "coder" "B") (.int 0), .arrayOf (.field (.string e.1 e.2.1) "java/lang/String" "value" "[B") .byte, .eq (.length (.field (.string e.1 e.2.1) "java/lang/String" "value" "[B")) (.int (Int32.ofNat e.2.2.2.length))] ++
    (List.range e.2.2.2.length).map (fun j => Cond.eq (.elem (.field (.string e.1 e.2.1) "java/lang/String" "value" "[B") (.int (Int32.ofNat j))) (.int (e.2.2.2.getD j 0)))
def sbl : List Cond → List Cond → Bool
  | as, [] => match as with
    | [] => true
    | _ :: _ => false
  | as, b :: bs => match as with
    | [] => true
    | a :: as' => if a = b then sbl as' bs else sbl (a :: as') bs
theorem sbl_mem : ∀ {bs as : List Cond}, sbl as bs = true → ∀ a ∈ as, a ∈ bs
  | [], as, h, a, ha => by
    cases as with
    | nil => cases ha
    | cons x xs => simp [sbl] at h
  | b :: bs, as, h, a, ha => by
    cases as with
    | nil => cases ha
    | cons x xs =>
      unfold sbl at h
      simp only at h
      by_cases c : x = b
      · rw [if_pos c] at h
        rcases List.mem_cons.mp ha with e | e
        · rw [e, c]; exact List.mem_cons_self
        · exact List.mem_cons_of_mem _ (sbl_mem h a e)
      · rw [if_neg c] at h
        exact List.mem_cons_of_mem _ (sbl_mem h a ha)
set_option maxRecDepth 100000 in
theorem str_all : sbl (gStr.map strC).flatten (flatC narrow_1) = true := by decide +kernel
set_option maxRecDepth 100000 in
theorem str_len : ∀ e ∈ gStr, e.2.2.2.length < 2 ^ 31 := by decide +kernel
set_option maxRecDepth 100000 in
theorem str_ref : sbl (gStr.map (fun e => Cond.stringRef e.1 e.2.1 e.2.2.1)) tables_1 = true := by decide +kernel
theorem str_one {args : Array Value} {s : State} {A : Nat → Prop} {e : String × Nat × String × List Int32} (h : ∀ w ∈ strC e, w.before args s = true) (hl : e.2.2.2.length < 2 ^ 31) (hA : ∀ a : Nat, a < s.heap.size → ¬ A a) : ∃ z : Nat × Nat, (Term.string e.1 e.2.1).eval args s none [] s = some (.ref z.1) ∧ strAt z.1 z.2 e.2.2.2 A s s.heap := by
  obtain ⟨adK, adV, hS, hE⟩ := vk_Sof (args := args) (s := s) (N := 1) (tm := fun _ => Term.string e.1 e.2.1) (len := [e.2.2.2.length]) (byt := [e.2.2.2]) (A := A)
    (fun i hi => by rw [show i = 0 by omega]; exact hl)
    (fun i hi => h _ (by unfold strC; simp))
    (fun i hi => h _ (by unfold strC; simp))
    (fun i hi => h _ (by unfold strC; simp))
    (fun i hi => by rw [show i = 0 by omega]; exact h _ (by unfold strC; simp))
    (fun i hi j hj => by
      rw [show i = 0 by omega] at hj ⊢
      exact h _ (List.mem_append_right _ (List.mem_map.mpr ⟨j, List.mem_range.mpr hj, rfl⟩)))
    (fun i j hi hj hij => absurd (show i = j by omega) hij) hA
  obtain ⟨h1, h2, h3, h4⟩ := hS.1 0 (by omega)
  exact ⟨(adK 0, adV 0), hE 0 (by omega), h1, h2, h3, h4⟩
theorem la_tab {args : Array Value} {s : State} (hts : ∀ w ∈ lw_tbl, w.before args s = true) : ∀ w ∈ tables_1, w.before args s = true := fun w hw => hts w (List.mem_append_right _ hw)
theorem la_inst {args : Array Value} {s : State} (hts : ∀ w ∈ lw_tbl, w.before args s = true) : ∀ (c : Nat), ∃ z : ClassId × (Nat → Nat), ∀ q : vw_C, gCl[c]? = some q → u_Kn s q.1 q.2.1 q.2.2 z.1 z.2 := by
  have key : ∀ {C : String} {T : u_T} {N n : Nat}, (∀ w ∈ u_ws C T N, w ∈ lw_tbl) → Cond.instantiable C n ∈ tables_1 → ∃ z : ClassId × (Nat → Nat), u_Kn s C T N z.1 z.2 := by
    intro C T N n h1 h2
    obtain ⟨cC, iS, h⟩ := u_known hts h1 (la_tab hts _ h2)
    exact ⟨(cC, iS), h⟩
  intro c
  match c with
  | 0 => obtain ⟨z, h⟩ := key in_Fr (n := 15) (List.mem_of_getElem? (i := 101) (by decide +kernel)); exact ⟨z, fun q hq => by cases hq; exact h⟩
  | 1 => obtain ⟨z, h⟩ := key in_Nd (n := 2) (List.mem_of_getElem? (i := 74) (by decide +kernel)); exact ⟨z, fun q hq => by cases hq; exact h⟩
  | 2 => obtain ⟨z, h⟩ := key in_Rd (n := 13) (List.mem_of_getElem? (i := 32) (by decide +kernel)); exact ⟨z, fun q hq => by cases hq; exact h⟩
  | 3 => obtain ⟨z, h⟩ := key in_Rw (n := 2) (List.mem_of_getElem? (i := 44) (by decide +kernel)); exact ⟨z, fun q hq => by cases hq; exact h⟩
  | 4 => obtain ⟨z, h⟩ := key in_Sc (n := 5) (List.mem_of_getElem? (i := 38) (by decide +kernel)); exact ⟨z, fun q hq => by cases hq; exact h⟩
  | 5 => obtain ⟨z, h⟩ := key in_Tk (n := 2) (List.mem_of_getElem? (i := 88) (by decide +kernel)); exact ⟨z, fun q hq => by cases hq; exact h⟩
  | 6 => obtain ⟨z, h⟩ := key in_Wr (n := 5) (List.mem_of_getElem? (i := 210) (by decide +kernel)); exact ⟨z, fun q hq => by cases hq; exact h⟩
  | 7 => obtain ⟨z, h⟩ := key in_Eq (n := 8) (List.mem_of_getElem? (i := 24) (by decide +kernel)); exact ⟨z, fun q hq => by cases hq; exact h⟩
  | 8 => obtain ⟨z, h⟩ := key in_Nm (n := 2) (List.mem_of_getElem? (i := 1096) (by decide +kernel)); exact ⟨z, fun q hq => by cases hq; exact h⟩
  | 9 => obtain ⟨z, h⟩ := key in_Mo (n := 39) (List.mem_of_getElem? (i := 1047) (by decide +kernel)); exact ⟨z, fun q hq => by cases hq; exact h⟩
  | k + 10 => exact ⟨(0, fun _ => 0), fun q hq => by cases hq⟩
theorem la_arr {args : Array Value} {s : State} {ty : FieldType} (h : (Cond.arrayClass ty).before args s = true) : ∃ cA : ClassId, ArrOfT s cA ty ∧ s.vm.findClass ("[" ++ ty.toString) = some cA := by
  obtain ⟨cA, kA, comp, hfind, hk, hkind⟩ := Cond.arrayClass_spec h
  exact ⟨cA, fun N z => ⟨(fun k h => by cases h), kA, hk, comp, hkind⟩, hfind⟩
theorem la_arS {args : Array Value} {s : State} (h : (Cond.arrayOver (.object "java/lang/String")).before args s = true) : ∃ cA : ClassId, ArrOfT s cA (.object "java/lang/String") ∧ va_RA s cA (.object "java/lang/String") := by
  obtain ⟨comp, c, k, h1, h2, h3, h4, h5⟩ := Cond.arrayOver_spec h
  exact ⟨c, fun N z => ⟨(fun k h => by cases h), k, h3, comp, h4⟩, k, comp, h3, h4, h1, h5⟩
theorem la_nest {args : Array Value} {s : State} (hts : ∀ w ∈ tables_1, w.before args s = true) : gN s := by
  have h : sbl gNest tables_1 = true := by decide +kernel
  have h2 : gNest.all (fun w => w.onTables) = true := by decide +kernel
  intro w hw
  exact va_Nw.of (List.all_eq_true.mp h2 w hw) (hts w (sbl_mem h w hw))
/-- the words of the entry -/
theorem la_entry {p : Program} {s : State} {m : MethodId} {meth : Method} {c : Code} {b L : Nat} {xs : Nat → Int32} (C0 : p.tables.exec = Jvm.exec ∧ c.code = code ∧ meth.sig.returnType = ret ∧ c.maxLocals = 7 ∧ s.vm.findClass R_La0 = some m.cls ∧ (∀ w ∈ lw_tbl, w.before #[Value.ref b] s = true) ∧ va_X b L xs s s.heap ∧ b < s.heap.size ∧ meth.locks = false ∧ (Jvm.Cond.and given_1 narrow_1).before #[Value.ref b] s = true) :
    ∃ (D : va_G) (cI cB cJ cS : ClassId), Cx p s m #[Value.ref b] meth c D (gT cI cB cJ cS) (fun q => s.heap.size ≤ q) code 7 R_La0 ∧ va_AO "java/lang/String" s := by
  obtain ⟨g1, g2, g3, g4, g5, hts, g7, g8, g9, g10⟩ := C0
  have hA : ∀ a : Nat, a < s.heap.size → ¬ s.heap.size ≤ a := fun a h => Nat.not_le.mpr h
  have htb := la_tab hts
  have hfl := flat_of_before _ g10
  have hnr : ∀ w ∈ flatC narrow_1, w.before #[Value.ref b] s = true := fun w hw => hfl w (by show w ∈ flatC given_1 ++ flatC narrow_1; exact List.mem_append_right _ hw)
  have hst : ∀ i : Nat, ∃ z : Nat × Nat, ∀ e, gStr[i]? = some e → (Term.string e.1 e.2.1).eval #[Value.ref b] s none [] s = some (.ref z.1) ∧ strAt z.1 z.2 e.2.2.2 (fun q => s.heap.size ≤ q) s s.heap := by
    intro i
    cases he : gStr[i]? with
    | none => exact ⟨(0, 0), fun e h => by cases h⟩
    | some e =>
      have hm : e ∈ gStr := List.mem_of_getElem? he
      obtain ⟨z, h1, h2⟩ := str_one (A := fun q => s.heap.size ≤ q) (fun w hw => hnr w (sbl_mem str_all w (List.mem_flatten.mpr ⟨strC e, List.mem_map.mpr ⟨e, hm, rfl⟩, hw⟩))) (str_len e hm) hA
      exact ⟨z, fun e' h => by cases h; exact ⟨h1, h2⟩⟩
  obtain ⟨fs, hfs⟩ := Classical.axiomOfChoice hst
  obtain ⟨fc, hfc⟩ := Classical.axiomOfChoice (la_inst hts)
  obtain ⟨cI, i1, i2⟩ := la_arr (htb (Cond.arrayClass .int) (List.mem_of_getElem? (i := 86) (by decide +kernel)))
  obtain ⟨cB, b1, b2⟩ := la_arr (htb (Cond.arrayClass .byte) (List.mem_of_getElem? (i := 56) (by decide +kernel)))
  obtain ⟨cJ, j1, j2⟩ := la_arr (htb (Cond.arrayClass .long) (List.mem_of_getElem? (i := 1627) (by decide +kernel)))
  have hov := htb (Cond.arrayOver (.object "java/lang/String")) (List.mem_of_getElem? (i := 1053) (by decide +kernel))
  obtain ⟨cS, s1, s2⟩ := la_arS hov
  refine ⟨(fun k => if k < 1000 then (fc k).1 else if k < 2000 then (fs (k - 1000)).1 else (fs (k - 2000)).2, fun k => (fc k).2), cI, cB, cJ, cS, ⟨g1, g2, g4, g5, fun w hw => hts w (List.mem_filter.mp hw).1, ⟨?_, ?_⟩, fun q h => h, la_nest htb, g9, ?_, ?_, ?_⟩, va_AO.of hov⟩
  · intro k q hq
    have hk : k < 10 := (List.getElem?_eq_some_iff.mp hq).1
    show u_Kn s q.1 q.2.1 q.2.2 (if k < 1000 then (fc k).1 else _) (fc k).2
    rw [if_pos (by omega)]
    exact hfc k q hq
  · intro k q hq
    match k, hq with
    | 0, hq => cases hq; exact ⟨i1, i2⟩
    | 1, hq => cases hq; exact ⟨b1, b2⟩
    | 2, hq => cases hq; exact ⟨j1, j2⟩
    | 3, hq => cases hq; exact ⟨s1, s2⟩
  · intro i e he
    have hi : i < 85 := by
      have := (List.getElem?_eq_some_iff.mp he).1
      have h85 : gStr.length = 85 := by decide +kernel
      omega
    obtain ⟨e1, e2⟩ := hfs i e he
    have a1 : (if 1000 + i < 1000 then (fc (1000 + i)).1 else if 1000 + i < 2000 then (fs (1000 + i - 1000)).1 else (fs (1000 + i - 2000)).2) = (fs i).1 := by
      rw [if_neg (by omega), if_pos (by omega), Nat.add_sub_cancel_left]
    have a2 : (if 2000 + i < 1000 then (fc (2000 + i)).1 else if 2000 + i < 2000 then (fs (2000 + i - 1000)).1 else (fs (2000 + i - 2000)).2) = (fs i).2 := by
      rw [if_neg (by omega), if_neg (by omega), Nat.add_sub_cancel_left]
    refine ⟨?_, ?_⟩
    · show vk_R e.1 e.2.1 e.2.2.1 (if 1000 + i < 1000 then (fc (1000 + i)).1 else if 1000 + i < 2000 then (fs (1000 + i - 1000)).1 else (fs (1000 + i - 2000)).2) s
      rw [a1]
      exact vk_R.of (A := #[Value.ref b]) (htb _ (sbl_mem str_ref _ (List.mem_map.mpr ⟨e, List.mem_of_getElem? he, rfl⟩))) e1
    · show strAt (if 1000 + i < 1000 then (fc (1000 + i)).1 else if 1000 + i < 2000 then (fs (1000 + i - 1000)).1 else (fs (1000 + i - 2000)).2) (if 2000 + i < 1000 then (fc (2000 + i)).1 else if 2000 + i < 2000 then (fs (2000 + i - 1000)).1 else (fs (2000 + i - 2000)).2) e.2.2.2 _ s s.heap
      rw [a1, a2]
      exact e2
  · exact va_Zof (htb (Cond.laysStatic "java/lang/String" "COMPACT_STRINGS" "Z") (List.mem_of_getElem? (i := 367) (by decide +kernel))) (htb (Cond.initialized "java/lang/String") (List.mem_of_getElem? (i := 18) (by decide +kernel))) (va_eqv (hnr (Cond.eq (.static "java/lang/String" "COMPACT_STRINGS" "Z") (.int 1)) (by decide +kernel)) rfl) hA
  · exact va_Zqof (htb (Cond.laysStatic "jdk/internal/util/Preconditions" "SIOOBE_FORMATTER" "Ljava/util/function/BiFunction;") (List.mem_of_getElem? (i := 383) (by decide +kernel))) (htb (Cond.initialized "jdk/internal/util/Preconditions") (List.mem_of_getElem? (i := 20) (by decide +kernel))) (hnr (Cond.isRef (.static "jdk/internal/util/Preconditions" "SIOOBE_FORMATTER" "Ljava/util/function/BiFunction;")) (by decide +kernel)) hA
