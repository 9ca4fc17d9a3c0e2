section
/-! what holds at the head of the law's loop -/
def Cap (b N : Nat) : Prop := 16 ≤ N ∧ N ≤ b
theorem Cap.vec {b N : Nat} (h : Cap b N) (hb : b ≤ 2 ^ 20) (a : Nat → Int32) : Vec N a [] := ⟨Nat.zero_le _, h.1, Nat.le_trans h.2 hb, fun i hi => absurd hi (Nat.not_lt_zero _)⟩
theorem Vec.cap {N b : Nat} {a : Nat → Int32} {l : List Int32} (h : Vec N a l) (hb : N ≤ b) : Cap b N := ⟨h.pos, hb⟩
theorem Grow.mono {N N' c s : Nat} (h : Grow N N' c s) : N ≤ N' := by have := h.slots; omega
abbrev LW.nC (s : LW) : NC := (s.n52, s.n53, s.n54, s.n55, s.n56, s.n57, s.n58, s.n59)
abbrev LW.nF (s : LW) : NFn := (s.b52, s.b53, s.b54, s.b55, s.b56, s.b57, s.b58, s.b59)
abbrev LW.rw (s : LW) : Rw := (s.n9, s.c9, s.n15, s.b15, s.n16, s.b16, s.n17, s.b17)
/-- the text's characters -/
abbrev txf (l : List Nat) : Nat → Nat := fun i => l.getD i 0
/-- no tree, or the tree of the text so -/
def TreeI (s : LW) (so : List Nat) : Prop := (s.f18_1 = 0 ∧ s.f3_8 = 0) ∨ ∃ (X : Tr Lb) (j : Nat) (mk ex : Nat → Nat), s.f3_8 = 1 ∧ s.f18_1 = nI (Tr.sz X + 1) ∧ (Tr.sz X + 1) * 7 ≤ s.n19 ∧ Tr.TH s.b19 0 (-1) (Tr.nd rootL X) ∧ SV (tkT so.length (txf so)) 1 0 j X ∧ j + 1 = (cutE so.length (txf so)).length ∧ Tr.sz X ≤ j ∧ Vec s.n63 s.b63 (so.map nI) ∧ Vec s.n65 s.b65 ((cutE so.length (txf so)).map (fun t => nI t.1)) ∧ Vec s.n67 s.b67 ((cutE so.length (txf so)).map (fun t => nI t.2.1)) ∧ Vec s.n69 s.b69 ((cutE so.length (txf so)).map (fun t => nI t.2.2)) ∧ s.f64_1 = nI (j + 1) ∧ s.f38_1 = nI (Tr.sz X + 1) ∧ CapA (Tr.sz X + 1) s.nC ∧ Tr.NH s.nF 0 (Tr.nd rootL X) ∧ MkIs (j + 1) s.n49 s.b49 mk ∧ MkIs (j + 1) s.n51 s.b51 ex ∧ MkB (Tr.nd rootL X) mk ex ∧ QS (tkT so.length (txf so)) (txX so.length (txf so)) 0 j X mk ex
abbrev INV (s : LW) (tp fo sp so : List Nat) : Prop := (RowV s.n2 s.b2 tp) ∧ (s.f1_1 = nI tp.length) ∧ (Vec s.n5 s.b5 (tp.map nI)) ∧ (s.f4_1 = nI tp.length) ∧ (s.n5 ≤ 131072) ∧ (RowV s.n71 s.b71 fo) ∧ (s.f70_1 = nI fo.length) ∧ (Vec s.n78 s.b78 (fo.map nI)) ∧ (s.f77_1 = nI fo.length) ∧ (s.n78 ≤ 131072) ∧ (RowV s.n74 s.b74 sp) ∧ (s.f73_1 = nI sp.length) ∧ (RowV s.n8 s.b8 so) ∧ (s.f7_1 = nI so.length) ∧ (s.f0_7 = s.f3_14) ∧ (RVd s.rw s.d9) ∧ (s.n9 ≤ 32772) ∧ (ndCap s.n19) ∧ (Cap 524288 s.n76) ∧ (Cap 131072 s.n21) ∧ (Cap 131072 s.n63) ∧ (Cap 32770 s.n28) ∧ (Cap 32770 s.n29) ∧ (Cap 32770 s.n30) ∧ (Cap 32770 s.n65) ∧ (Cap 32770 s.n67) ∧ (Cap 32770 s.n69) ∧ (Cap 600 s.n34) ∧ (Cap 600 s.n36) ∧ (Cap 65536 s.n37) ∧ (Cap 200000 s.n61) ∧ (Cap 200000 s.n60) ∧ (Cap 32770 s.n49) ∧ (Cap 32770 s.n51) ∧ (CapA 0 s.nC) ∧ (TreeI s so)
theorem INV.t1 {s : LW} {tp fo sp so : List Nat} (h : INV s tp fo sp so) : RowV s.n2 s.b2 tp := h.1
theorem INV.t2 {s : LW} {tp fo sp so : List Nat} (h : INV s tp fo sp so) : s.f1_1 = nI tp.length := h.2.1
theorem INV.t3 {s : LW} {tp fo sp so : List Nat} (h : INV s tp fo sp so) : Vec s.n5 s.b5 (tp.map nI) := h.2.2.1
theorem INV.t4 {s : LW} {tp fo sp so : List Nat} (h : INV s tp fo sp so) : s.f4_1 = nI tp.length := h.2.2.2.1
theorem INV.t5 {s : LW} {tp fo sp so : List Nat} (h : INV s tp fo sp so) : s.n5 ≤ 131072 := h.2.2.2.2.1
theorem INV.o1 {s : LW} {tp fo sp so : List Nat} (h : INV s tp fo sp so) : RowV s.n71 s.b71 fo := h.2.2.2.2.2.1
theorem INV.o2 {s : LW} {tp fo sp so : List Nat} (h : INV s tp fo sp so) : s.f70_1 = nI fo.length := h.2.2.2.2.2.2.1
theorem INV.o3 {s : LW} {tp fo sp so : List Nat} (h : INV s tp fo sp so) : Vec s.n78 s.b78 (fo.map nI) := h.2.2.2.2.2.2.2.1
theorem INV.o4 {s : LW} {tp fo sp so : List Nat} (h : INV s tp fo sp so) : s.f77_1 = nI fo.length := h.2.2.2.2.2.2.2.2.1
theorem INV.o5 {s : LW} {tp fo sp so : List Nat} (h : INV s tp fo sp so) : s.n78 ≤ 131072 := h.2.2.2.2.2.2.2.2.2.1
theorem INV.p1 {s : LW} {tp fo sp so : List Nat} (h : INV s tp fo sp so) : RowV s.n74 s.b74 sp := h.2.2.2.2.2.2.2.2.2.2.1
theorem INV.p2 {s : LW} {tp fo sp so : List Nat} (h : INV s tp fo sp so) : s.f73_1 = nI sp.length := h.2.2.2.2.2.2.2.2.2.2.2.1
theorem INV.r1 {s : LW} {tp fo sp so : List Nat} (h : INV s tp fo sp so) : RowV s.n8 s.b8 so := h.2.2.2.2.2.2.2.2.2.2.2.2.1
theorem INV.r2 {s : LW} {tp fo sp so : List Nat} (h : INV s tp fo sp so) : s.f7_1 = nI so.length := h.2.2.2.2.2.2.2.2.2.2.2.2.2.1
theorem INV.fl {s : LW} {tp fo sp so : List Nat} (h : INV s tp fo sp so) : s.f0_7 = s.f3_14 := h.2.2.2.2.2.2.2.2.2.2.2.2.2.2.1
theorem INV.rd {s : LW} {tp fo sp so : List Nat} (h : INV s tp fo sp so) : RVd s.rw s.d9 := h.2.2.2.2.2.2.2.2.2.2.2.2.2.2.2.1
theorem INV.fr {s : LW} {tp fo sp so : List Nat} (h : INV s tp fo sp so) : s.n9 ≤ 32772 := h.2.2.2.2.2.2.2.2.2.2.2.2.2.2.2.2.1
theorem INV.tc {s : LW} {tp fo sp so : List Nat} (h : INV s tp fo sp so) : ndCap s.n19 := h.2.2.2.2.2.2.2.2.2.2.2.2.2.2.2.2.2.1
theorem INV.m38 {s : LW} {tp fo sp so : List Nat} (h : INV s tp fo sp so) : Cap 524288 s.n76 := h.2.2.2.2.2.2.2.2.2.2.2.2.2.2.2.2.2.2.1
theorem INV.m4 {s : LW} {tp fo sp so : List Nat} (h : INV s tp fo sp so) : Cap 131072 s.n21 := h.2.2.2.2.2.2.2.2.2.2.2.2.2.2.2.2.2.2.2.1
theorem INV.m9 {s : LW} {tp fo sp so : List Nat} (h : INV s tp fo sp so) : Cap 131072 s.n63 := h.2.2.2.2.2.2.2.2.2.2.2.2.2.2.2.2.2.2.2.2.1
theorem INV.m5 {s : LW} {tp fo sp so : List Nat} (h : INV s tp fo sp so) : Cap 32770 s.n28 := h.2.2.2.2.2.2.2.2.2.2.2.2.2.2.2.2.2.2.2.2.2.1
theorem INV.m6 {s : LW} {tp fo sp so : List Nat} (h : INV s tp fo sp so) : Cap 32770 s.n29 := h.2.2.2.2.2.2.2.2.2.2.2.2.2.2.2.2.2.2.2.2.2.2.1
theorem INV.m7 {s : LW} {tp fo sp so : List Nat} (h : INV s tp fo sp so) : Cap 32770 s.n30 := h.2.2.2.2.2.2.2.2.2.2.2.2.2.2.2.2.2.2.2.2.2.2.2.1
theorem INV.m10 {s : LW} {tp fo sp so : List Nat} (h : INV s tp fo sp so) : Cap 32770 s.n65 := h.2.2.2.2.2.2.2.2.2.2.2.2.2.2.2.2.2.2.2.2.2.2.2.2.1
theorem INV.m11 {s : LW} {tp fo sp so : List Nat} (h : INV s tp fo sp so) : Cap 32770 s.n67 := h.2.2.2.2.2.2.2.2.2.2.2.2.2.2.2.2.2.2.2.2.2.2.2.2.2.1
theorem INV.m12 {s : LW} {tp fo sp so : List Nat} (h : INV s tp fo sp so) : Cap 32770 s.n69 := h.2.2.2.2.2.2.2.2.2.2.2.2.2.2.2.2.2.2.2.2.2.2.2.2.2.2.1
theorem INV.m20 {s : LW} {tp fo sp so : List Nat} (h : INV s tp fo sp so) : Cap 600 s.n34 := h.2.2.2.2.2.2.2.2.2.2.2.2.2.2.2.2.2.2.2.2.2.2.2.2.2.2.2.1
theorem INV.m21 {s : LW} {tp fo sp so : List Nat} (h : INV s tp fo sp so) : Cap 600 s.n36 := h.2.2.2.2.2.2.2.2.2.2.2.2.2.2.2.2.2.2.2.2.2.2.2.2.2.2.2.2.1
theorem INV.m22 {s : LW} {tp fo sp so : List Nat} (h : INV s tp fo sp so) : Cap 65536 s.n37 := h.2.2.2.2.2.2.2.2.2.2.2.2.2.2.2.2.2.2.2.2.2.2.2.2.2.2.2.2.2.1
theorem INV.m32 {s : LW} {tp fo sp so : List Nat} (h : INV s tp fo sp so) : Cap 200000 s.n61 := h.2.2.2.2.2.2.2.2.2.2.2.2.2.2.2.2.2.2.2.2.2.2.2.2.2.2.2.2.2.2.1
theorem INV.m33 {s : LW} {tp fo sp so : List Nat} (h : INV s tp fo sp so) : Cap 200000 s.n60 := h.2.2.2.2.2.2.2.2.2.2.2.2.2.2.2.2.2.2.2.2.2.2.2.2.2.2.2.2.2.2.2.1
theorem INV.m34 {s : LW} {tp fo sp so : List Nat} (h : INV s tp fo sp so) : Cap 32770 s.n49 := h.2.2.2.2.2.2.2.2.2.2.2.2.2.2.2.2.2.2.2.2.2.2.2.2.2.2.2.2.2.2.2.2.1
theorem INV.m35 {s : LW} {tp fo sp so : List Nat} (h : INV s tp fo sp so) : Cap 32770 s.n51 := h.2.2.2.2.2.2.2.2.2.2.2.2.2.2.2.2.2.2.2.2.2.2.2.2.2.2.2.2.2.2.2.2.2.1
theorem INV.nc {s : LW} {tp fo sp so : List Nat} (h : INV s tp fo sp so) : CapA 0 s.nC := h.2.2.2.2.2.2.2.2.2.2.2.2.2.2.2.2.2.2.2.2.2.2.2.2.2.2.2.2.2.2.2.2.2.2.1
theorem INV.tr {s : LW} {tp fo sp so : List Nat} (h : INV s tp fo sp so) : TreeI s so := h.2.2.2.2.2.2.2.2.2.2.2.2.2.2.2.2.2.2.2.2.2.2.2.2.2.2.2.2.2.2.2.2.2.2.2
/-- what the state has cost -/
def phiC (s : LW) : Nat := Nat.log2 s.n2 + Nat.log2 s.n5 + Nat.log2 s.n71 + Nat.log2 s.n78 + Nat.log2 s.n74 + Nat.log2 s.n8 + Nat.log2 s.n76 + Nat.log2 s.n21 + Nat.log2 s.n63 + Nat.log2 s.n28 + Nat.log2 s.n29 + Nat.log2 s.n30 + Nat.log2 s.n65 + Nat.log2 s.n67 + Nat.log2 s.n69 + Nat.log2 s.n34 + Nat.log2 s.n36 + Nat.log2 s.n37 + Nat.log2 s.n61 + Nat.log2 s.n60 + Nat.log2 s.n49 + Nat.log2 s.n51 + NC.lg s.nC + phC s.rw + ndC s.n19
def phiS (s : LW) : Nat := 2 * (s.n2 + s.n5 + s.n71 + s.n78 + s.n74 + s.n8 + s.n76 + s.n21 + s.n63 + s.n28 + s.n29 + s.n30 + s.n65 + s.n67 + s.n69 + s.n34 + s.n36 + s.n37 + s.n61 + s.n60 + s.n49 + s.n51) + 2 * NC.sm s.nC + phS s.rw + ndS s.n19
section Law
variable {L : Nat} {xs : Nat → Int32} {n_ou : Nat} {B : Nat → Int32} {n_m2 : Nat} {b_m2 : Nat → Int32}
variable {s : LW} {tp fo sp so : List Nat}
/-- one call: on to the state s', at the cost of its growth and at most an exception -/
def LStp (L : Nat) (xs : Nat → Int32) (n_ou : Nat) (B : Nat → Int32) (n_m2 : Nat) (b_m2 : Nat → Int32) (i : Nat) (s : LW) : Prop := ∃ (s' : LW) (tp fo sp so : List Nat) (c sl : Nat), INV s' tp fo sp so ∧ c + phiC s ≤ phiC s' + 1 ∧ sl + phiS s ≤ phiS s' + 6 ∧ ∀ fu R c' sl', LawF L xs n_ou 309 B n_m2 b_m2 fu (nI (i + 6)) s' = some (R, c', sl') → LawF L xs n_ou 309 B n_m2 b_m2 (fu + 1) (nI i) s = some (R, c + c', sl + sl')
theorem INV.thr (h : INV s tp fo sp so) : INV s.do_place tp fo sp so := by
  unfold INV TreeI at h ⊢
  exact h
variable {i : Nat}
theorem st_other (hL : i + 6 ≤ L) (hL2 : L ≤ 4000) (h : INV s tp fo sp so) (hop : ∀ k : Nat, k ≤ 10 → ¬ xs i &&& 15 = nI k) : LStp L xs n_ou B n_m2 b_m2 i s :=
  ⟨s, tp, fo, sp, so, 0, 0, h, by omega, by omega, fun fu R c' sl' hh => by rw [Nat.zero_add, Nat.zero_add]; exact law_other hL hL2 hop hh⟩
theorem st_place (hL : i + 6 ≤ L) (hL2 : L ≤ 4000) (h : INV s tp fo sp so) (hop : xs i &&& 15 = 3) : LStp L xs n_ou B n_m2 b_m2 i s :=
  ⟨s.do_place, tp, fo, sp, so, 0, 0, h.thr, by show 0 + phiC s ≤ phiC s + 1; omega, by show 0 + phiS s ≤ phiS s + 6; omega, fun fu R c' sl' hh => by rw [Nat.zero_add, Nat.zero_add]; exact law_place hL hL2 hop h.fl hh⟩
theorem st_nodes (hL : i + 6 ≤ L) (hL2 : L ≤ 4000) (h : INV s tp fo sp so) (hop : xs i &&& 15 = 4) : LStp L xs n_ou B n_m2 b_m2 i s := by
  refine ⟨s.do_nodes, tp, fo, sp, so, 0, 0, h.thr, by show 0 + phiC s ≤ phiC s + 1; omega, by show 0 + phiS s ≤ phiS s + 6; omega, fun fu R c' sl' hh => ?_⟩
  rw [Nat.zero_add, Nat.zero_add]
  refine law_nodes hL hL2 hop rfl ?_ hh
  unfold F_Mo_nodes
  rcases h.tr with ⟨h1, h2⟩ | ⟨X, j, mk, ex, h1, h2, _, _, _, _, _, _, _, _, _, _, h3, _⟩
  · rw [if_pos h2, h1]
  · rw [if_neg (by rw [h1]; decide), h2, h3]
end Law
end
