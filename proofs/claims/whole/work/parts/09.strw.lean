/-! ===== length and charAt of the String constants, as rows ===== -/
theorem run_pure {p : Program} {l : Launch} {e : Env} {R : Room} {s : State} {m : MethodId} {args : Array Value} {below : List Frame} {meth : Method} {c : Code} {D : va_G} {A : Nat → Prop} {H0 H : Heap} {locs : List Loc} {cells slots mc ms pc : Nat} {ls : Array Slot} {st0 rest : List Value} {ws : va_W} {Qr : Option Value → va_W → Prop} {Q : State → Prop} {a : Array Value}
    (hr : va_Run p l e R s m args below meth c H locs cells slots mc ms (F0 m pc ls st0) rest (CQ D [] H.size Qr a) (va_A [] H.size)) (hP : va_P D gCl ws H) (hS : va_S A H0 H locs) (hA : ∀ q, H0.size ≤ q → A q)
    (kk : ∀ (v : Option Value) (w : va_W) (H1 : Heap) (locs1 : List Loc), Qr v w → va_P D gCl ws H1 → va_S A H0 H1 locs1 → W p l e R s m args below meth c H1 locs1 (cells + mc) (slots + ms) Q (F0 m (pc + 3) ls (v.toList ++ rest))) : W p l e R s m args below meth c H locs cells slots Q (F0 m pc ls st0) := by
  intro T hT X
  obtain ⟨v, st₀, t, T', L, h0, X', hL, e1, e2, ⟨⟨v', w, hv, hq, hPw, hDw⟩, hz, hk⟩, st⟩ := hr T hT X
  cases hv
  rw [h0] at hz hk
  have hF : ∀ q, va_A [] H.size q → A q := fun q h => by
    rcases h with ⟨k, e9, h⟩ | h
    · simp at h
    · exact hA q (Nat.le_trans hS.1 h)
  have hold : ∀ q : Nat, q < H.size → ¬ va_A [] H.size q := fun q hq h => by
    rcases h with ⟨k, e9, h⟩ | h
    · simp at h
    · omega
  obtain ⟨t2, a1, b1⟩ := kk v w T'.heap (locs ++ L) hq (fun k q hk9 => (hP k q hk9).kept (by rw [e1]; exact hk q.1 ((hP k q hk9).lt) (hold _ ((hP k q hk9).lt))))
    ⟨Nat.le_trans hS.1 (by rw [e1]; exact hz), fun q h1 h2 => by rw [e1, hk q (Nat.lt_of_lt_of_le h1 hS.1) (fun z => h2 (hF q z))]; exact hS.2.1 q h1 h2, fun q hq => by
      rcases List.mem_append.mp hq with h | h
      · exact hS.2.2 q h
      · exact hF _ (hL q h)⟩ T' rfl X'
  exact ⟨t2, st t2 a1, b1⟩
section JStrW
variable {p : Program} {l : Launch} {e : Env} {R : Room} {s : State} {m : MethodId} {args : Array Value} {below : List Frame} {meth : Method} {c : Code} {D : va_G} {cI cB cJ cS : ClassId} {A : Nat → Prop} {Q : State → Prop} {cc : ByteArray} {nL : Nat} {own : String} {pc cl sl : Nat} {lv : List (Nat × Value)} {st : List Value} {ws : va_W} {i index : Nat}
theorem va_pure {wc : va_W} {s U : State} {H : Heap} {D : va_G} : va_P D gCl [] H := fun k q h => by simp at h
theorem va_pureD {A : Nat → Prop} : va_D A [] := ⟨fun i j p q h => by simp at h, fun k q h => by simp at h⟩
theorem j_len (hi : i < gNS) (g : GoodIn gG (wsV own index R_JS y_JS_length (.code y_JS_length prog_19_method_54_code 1 (Option.some Jvm.ClassFile.FieldType.int) :: gG))) (hRm : 2 ≤ R.frames ∧ 40 ≤ R.locals) (hW : (st.map fun v => v.category).sum ≤ 8) (hf : cl ≤ R.cells ∧ sl ≤ R.slots) (d : decode cc pc = .ok (.invokevirtual index, 3)) (k : J (p, l, e, R, s, m, args, below, meth, c, D, gT cI cB cJ cS, A, Q) cc nL own (pc + 3) lv (.int (nI (gB i).length) :: st) ws cl sl) : J (p, l, e, R, s, m, args, below, meth, c, D, gT cI cB cJ cS, A, Q) cc nL own pc lv (.ref (sA D i) :: st) ws cl sl := by
  obtain ⟨E, he, hB⟩ := gE_of hi
  rw [hB] at k
  intro C H locs ls hP hD hS hl
  have hrecv : ∃ cell : Cell, H[sA D i]? = some cell ∧ cell.vm.isStatics = false ∧ s.vm.findClass "java/lang/String" = some cell.cls := by
    obtain ⟨cell, h1, h2, h3, -⟩ := (C.2.2.2.2.2.2.2.2.2.1 i _ he).2.1.kept hS.2.1
    exact ⟨cell, h1, h2, h3⟩
  have hF : ∀ q, va_A [] H.size q → A q := fun q h => by
    rcases h with ⟨k, e9, h⟩ | h
    · simp at h
    · exact C.2.2.2.2.2.2.1 q (Nat.le_trans hS.1 h)
  refine run_pure (va_runV (As := []) (rest := st) ⟨C.1, C.2.1, C.2.2.1, C.2.2.2.1, C.2.2.2.2.1⟩ (c_JS_length l D cI cB cJ cS i E he H.size) (cwV 0 C.2.2.2.2.1 g rfl rfl rfl (by decide) hRm) ⟨Ct_blind, hrecv, fun U hU hW => ⟨rfl, by rw [hU], va_pure (wc := []) (s := s) (U := U), va_K.moved hW.alike C.2.2.2.2.2.1, va_pureD, gN_warm hW C.2.2.2.2.2.2.2.1, gS_call C.2.2.2.2.2.2.2.2.2 hS hW hU hF⟩⟩ rfl rfl hl.1 rfl (lv_room hW) d hf) hP hS C.2.2.2.2.2.2.1 (fun v w H1 locs1 hq hP1 hS1 => ?_)
  obtain ⟨rfl, -⟩ := hq
  exact k C H1 locs1 ls hP1 hD hS1 hl
theorem j_chr {j : Int32} (hi : i < gNS) (hj : vp_in j (gB i).length) (g : GoodIn gG (wsV own index R_JS y_JS_charAt (.code y_JS_charAt prog_19_method_56_code 2 (Option.some Jvm.ClassFile.FieldType.char) :: gG))) (hRm : 4 ≤ R.frames ∧ 85 ≤ R.locals) (hW : (st.map fun v => v.category).sum ≤ 8) (hf : cl ≤ R.cells ∧ sl ≤ R.slots) (d : decode cc pc = .ok (.invokevirtual index, 3)) (k : J (p, l, e, R, s, m, args, below, meth, c, D, gT cI cB cJ cS, A, Q) cc nL own (pc + 3) lv (.int (sch i j) :: st) ws cl sl) : J (p, l, e, R, s, m, args, below, meth, c, D, gT cI cB cJ cS, A, Q) cc nL own pc lv (.int j :: .ref (sA D i) :: st) ws cl sl := by
  obtain ⟨E, he, hB⟩ := gE_of hi
  unfold sch at k
  rw [hB] at k hj
  have hlen : E.2.2.2.length < 2 ^ 31 := by
    have h0 : ∀ x ∈ gStr, x.2.2.2.length < 2 ^ 31 := by decide +kernel
    exact h0 E (List.mem_of_getElem? he)
  have h1 : ¬ j < 0 := fun z => hj (Or.inl z)
  have h2 : j < nI E.2.2.2.length := by
    obtain ⟨n, hn, rfl⟩ := vp_in_of hj hlen
    exact nI_lt hn hlen
  intro C H locs ls hP hD hS hl
  have hrecv : ∃ cell : Cell, H[sA D i]? = some cell ∧ cell.vm.isStatics = false ∧ s.vm.findClass "java/lang/String" = some cell.cls := by
    obtain ⟨cell, h1, h2, h3, -⟩ := (C.2.2.2.2.2.2.2.2.2.1 i _ he).2.1.kept hS.2.1
    exact ⟨cell, h1, h2, h3⟩
  have hF : ∀ q, va_A [] H.size q → A q := fun q h => by
    rcases h with ⟨k, e9, h⟩ | h
    · simp at h
    · exact C.2.2.2.2.2.2.1 q (Nat.le_trans hS.1 h)
  refine run_pure (va_runV (As := [.int j]) (rest := st) ⟨C.1, C.2.1, C.2.2.1, C.2.2.2.1, C.2.2.2.2.1⟩ (c_JS_charAt l D cI cB cJ cS i E he j hj h1 h2 H.size) (cwV 1 C.2.2.2.2.1 g rfl rfl rfl (by decide) hRm) ⟨Ct_blind, hrecv, fun U hU hW => ⟨rfl, by rw [hU], va_pure (wc := []) (s := s) (U := U), va_K.moved hW.alike C.2.2.2.2.2.1, va_pureD, gN_warm hW C.2.2.2.2.2.2.2.1, gS_call C.2.2.2.2.2.2.2.2.2 hS hW hU hF⟩⟩ rfl rfl hl.1 rfl (lv_room hW) d hf) hP hS C.2.2.2.2.2.2.1 (fun v w H1 locs1 hq hP1 hS1 => ?_)
  obtain ⟨rfl, -⟩ := hq
  exact k C H1 locs1 ls hP1 hD hS1 hl
end JStrW
def sin {α : Type} (i : Nat) (m : Option α) : Option α := if i < gNS then m else none
theorem sin_s {α : Type} {i : Nat} {m : Option α} {r : α} (h : sin i m = some r) : i < gNS ∧ m = some r := by
  unfold sin at h
  by_cases c : i < gNS
  · rw [if_pos c] at h; exact ⟨c, h⟩
  · rw [if_neg c] at h; cases h
def stA (D : va_G) (b : Nat) : Nat → Option Nat := fun j => some (sA D (b + j))
theorem j_aald {p : Program} {l : Launch} {e : Env} {R : Room} {s : State} {m : MethodId} {args : Array Value} {below : List Frame} {meth : Method} {c : Code} {D : va_G} {T : List (ClassId × FieldType)} {A : Nat → Prop} {Q : State → Prop} {cc : ByteArray} {nL : Nat} {own : String} {pc cl sl : Nat} {lv : List (Nat × Value)} {st : List Value} {ws : va_W} {a n b t0 : Nat} {cA : ClassId} {i : Int32} (q0 : Nat) (he : ws[q0]? = some (a, .inl (cA, n, .inr (.inr (.inr (.inr (stA D b))))))) (hT : T[t0]? = some (cA, .object "java/lang/String")) (hin : vp_in i n) (d : decode cc pc = .ok (.aaload, 1)) (k : J (p, l, e, R, s, m, args, below, meth, c, D, T, A, Q) cc nL own (pc + 1) lv (.ref (sA D (b + i.toNatClampNeg)) :: st) ws cl sl) : J (p, l, e, R, s, m, args, below, meth, c, D, T, A, Q) cc nL own pc lv (.int i :: .ref a :: st) ws cl sl := by
  intro C H locs ls hP hD hS hl
  exact va_aldq C.1 C.2.1 C.2.2.2.2.2.1 hP q0 t0 he hT hin d (k C H locs ls hP hD hS hl)
def zck {α : Type} (v : Int32) (m : Option α) : Option α := if v = 0 ∨ v = 1 then m else none
theorem zck_s {α : Type} {v : Int32} {m : Option α} {r : α} (h : zck v m = some r) : zb v ∧ m = some r := by
  unfold zck at h
  by_cases c : v = 0 ∨ v = 1
  · rw [if_pos c] at h; exact ⟨c, h⟩
  · rw [if_neg c] at h; cases h
