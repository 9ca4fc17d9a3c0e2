section
/-! items and rows of the building -/
def NdS (C : NC) (f : NFn) (G : Tr Lb) : Prop := CapA (Tr.sz G) C ∧ Tr.NH f 0 G
def PlIs (m N : Nat) (a : Nat → Int32) (T : Tks) : Prop := m ≤ N ∧ N ≤ 2 ^ 20 ∧ ∀ i, i < m → a i = T.tpl i
section Md
variable {T : Tks} {m N5 N6 : Nat} {a5 a6 : Nat → Int32}
variable {q1 q2 q3 q4 q5 q6 q7 q8 q9 q0 z6 : Int32}
theorem Mo_place (hT : TkOK T m) (hp6 : PlIs m N6 a6 T) {i : Nat} (hi : i < m) : F_Mo_placeOf (nI i) q1 q2 q3 q4 q5 q6 q7 q8 q9 z6 N6 a6 = some () ∧ a6 (Int32.toNatClampNeg (nI i)) = T.tpl i := by
  have hle := hT.le
  have h1 := hp6.1; have h2 := hp6.2.1
  refine ⟨?_, by rw [nI_clamp' (by omega)]; exact hp6.2.2 i hi⟩
  unfold F_Mo_placeOf F_Nm_at
  rw [inb_ok (by omega) (by omega), Option.bind_some]
/-- a node more -/
theorem Mo_newS {C : NC} {f : NFn} {G : Tr Lb} {p : Nat} (h : NdS C f G) (hp : Tr.OnP G p) (hz : Tr.sz G ≤ 16400) (a : Lb) :
    ∃ (C' : NC) (f' : NFn) (c s : Nat), F_Mo_newNode (nI p) a.k a.pl a.sec a.tk q1 q2 q3 q4 q5 q6 q7 q8 q9 (nI (Tr.sz G)) C.1 f.1 (nI (Tr.sz G)) C.2.1 f.2.1 (nI (Tr.sz G)) C.2.2.1 f.2.2.1 (nI (Tr.sz G)) C.2.2.2.1 f.2.2.2.1 (nI (Tr.sz G)) C.2.2.2.2.1 f.2.2.2.2.1 (nI (Tr.sz G)) C.2.2.2.2.2.1 f.2.2.2.2.2.1 (nI (Tr.sz G)) C.2.2.2.2.2.2.1 f.2.2.2.2.2.2.1 (nI (Tr.sz G)) C.2.2.2.2.2.2.2 f.2.2.2.2.2.2.2 = some ((nI (Tr.sz G + 1), nI (Tr.sz G + 1), nI (Tr.sz G + 1), C'.1, f'.1, C'.2.1, f'.2.1, C'.2.2.1, f'.2.2.1, C'.2.2.2.1, f'.2.2.2.1, C'.2.2.2.2.1, f'.2.2.2.2.1, C'.2.2.2.2.2.1, f'.2.2.2.2.2.1, C'.2.2.2.2.2.2.1, f'.2.2.2.2.2.2.1, C'.2.2.2.2.2.2.2, f'.2.2.2.2.2.2.2), c, s) ∧ NdS C' f' (Tr.appAt (Tr.nd a .leaf) G p) ∧ GrowA C C' c s := by
  obtain ⟨C', f', c, s, e, h1, h2, h3⟩ := Mo_new (q1 := q1) (q2 := q2) (q3 := q3) (q4 := q4) (q5 := q5) (q6 := q6) (q7 := q7) (q8 := q8) (q9 := q9) h.1 h.2 hp hz a
  refine ⟨C', f', c, s, e, ⟨?_, h2⟩, h3⟩
  rw [Tr.sz_appAt G p hp]
  exact h1
theorem Mo_leaf (hT : TkOK T m) (hp6 : PlIs m N6 a6 T) {C : NC} {f : NFn} {G : Tr Lb} {p i : Nat} {k : Int32} (h : NdS C f G) (hp : Tr.OnP G p) (hz : Tr.sz G ≤ 16400) (hi : i < m) (w : Int32) :
    ∃ (C' : NC) (f' : NFn) (c s : Nat), F_Mo_leafNode (nI p) k (nI i) q1 q2 q3 q4 q5 q6 q7 q8 q9 z6 N6 a6 (nI (Tr.sz G)) C.1 f.1 (nI (Tr.sz G)) C.2.1 f.2.1 (nI (Tr.sz G)) C.2.2.1 f.2.2.1 (nI (Tr.sz G)) C.2.2.2.1 f.2.2.2.1 (nI (Tr.sz G)) C.2.2.2.2.1 f.2.2.2.2.1 (nI (Tr.sz G)) C.2.2.2.2.2.1 f.2.2.2.2.2.1 (nI (Tr.sz G)) C.2.2.2.2.2.2.1 f.2.2.2.2.2.2.1 (nI (Tr.sz G)) C.2.2.2.2.2.2.2 f.2.2.2.2.2.2.2 = some ((nI (Tr.sz G + 1), nI (Tr.sz G + 1), nI (Tr.sz G + 1), C'.1, f'.1, C'.2.1, f'.2.1, C'.2.2.1, f'.2.2.1, C'.2.2.2.1, f'.2.2.2.1, C'.2.2.2.2.1, f'.2.2.2.2.1, C'.2.2.2.2.2.1, f'.2.2.2.2.2.1, C'.2.2.2.2.2.2.1, f'.2.2.2.2.2.2.1, C'.2.2.2.2.2.2.2, f'.2.2.2.2.2.2.2), c, s) ∧ NdS C' f' (Tr.appAt (Tr.nd (k, T.tpl i, -1, w, nI i) .leaf) G p) ∧ GrowA C C' c s := by
  obtain ⟨e1, e2⟩ := Mo_place hT hp6 (q1 := q1) (q2 := q2) (q3 := q3) (q4 := q4) (q5 := q5) (q6 := q6) (q7 := q7) (q8 := q8) (q9 := q9) (z6 := z6) hi
  obtain ⟨C', f', c, s, e, h1, h2⟩ := Mo_newS (q1 := q1) (q2 := q2) (q3 := q3) (q4 := q4) (q5 := q5) (q6 := q6) (q7 := q7) (q8 := q8) (q9 := q9) h hp hz (k, T.tpl i, -1, w, nI i)
  refine ⟨C', f', c + 0, s + 0, ?_, h1, h2⟩
  unfold F_Mo_leafNode
  rw [e1, Option.bind_some, e2]
  exact bw_ok e rfl
theorem Mo_exps (hT : TkOK T m) (hk : KdIs m N5 a5 T.tkd) {p a b : Nat} {t : Tr Lb} {md : Nat} {N : Nat} {b0 : Nat → Int32} {l0 : List Int32} (hb : b ≤ m) (x : (b = a ∧ t = .leaf) ∨ (VV T md 0 a b t ∧ (md = 1 ∨ md = 2))) (hv : VecT N b0 l0) :
    ∃ L N' b' c s, F_Mo_expressions (nI p) (nI a) (nI b) q1 q2 q3 q4 q5 q6 q7 q8 q9 0 N b0 q0 N5 a5 = some ((nI (5 * (exT p L).length), N', b'), c, s) ∧ VecT N' b' (flT (exT p L)) ∧ Grow N N' c s ∧ t = joinT L ∧ ((b = a ∧ L = []) ∨ EC (VEl T (VV T) true) T.tkd 54 a L b) := by
  have hle := hT.le
  have hv0 : VecT N b0 (flT []) := ⟨hv.1.clear, hv.2⟩
  unfold F_Mo_expressions
  rcases x with ⟨h1, h2⟩ | ⟨x, hmd⟩
  · subst h1 h2
    refine ⟨[], N, b0, 0, 0, ?_, hv0, Grow.rfl, rfl, Or.inl ⟨rfl, rfl⟩⟩
    rw [show FU = 999999 + 1 from rfl, F_Mo_expressions_6, if_pos (show nI b ≤ nI b by rw [nI_le' (by omega) (by omega)]; omega), if_pos (show nI b ≤ nI b by rw [nI_le' (by omega) (by omega)]; omega)]
    rfl
  · obtain ⟨L, h1, h2⟩ : ∃ L, EC (VEl T (VV T) true) T.tkd 54 a L b ∧ t = joinT L := by
      obtain ⟨f, x⟩ := x
      rcases hmd with h | h
      · subst h; exact VV.args x
      · subst h; exact VV.elts x
    have hlen := EC.le (fun s e t h => (VEl.lay h).2.1) h1
    obtain ⟨N', b', c, s, e, v, g⟩ := Mo_ex6 hT hk (q1 := q1) (q2 := q2) (q3 := q3) (q4 := q4) (q5 := q5) (q6 := q6) (q7 := q7) (q8 := q8) (q9 := q9) (q0 := q0) (p := p) hb L a [] N b0 FU h1 (by unfold FU; omega) hv0 (by show 0 + L.length ≤ 18000; omega)
    exact ⟨L, N', b', c, s, e, v, g, h2, Or.inr h1⟩
theorem Mo_row (hT : TkOK T m) (hk : KdIs m N5 a5 T.tkd) (hp6 : PlIs m N6 a6 T) {C : NC} {f : NFn} {G : Tr Lb} {p a b : Nat} {l : Tr Lb} {N : Nat} {b0 : Nat → Int32} {l0 : List Int32} (h : NdS C f G) (hp : Tr.OnP G p) (hz : Tr.sz G ≤ 16400) (hb : b ≤ m) (x : VV T 2 0 a b l) (hv : VecT N b0 l0) :
    ∃ (C' : NC) (f' : NFn) (L : List Piece) (N' : Nat) (b' : Nat → Int32) (c s c2 s2 : Nat), F_Mo_buildRow (nI p) (nI a) (nI b) q1 q2 q3 q4 q5 q6 q7 q8 q9 z6 N6 a6 (nI (Tr.sz G)) C.1 f.1 (nI (Tr.sz G)) C.2.1 f.2.1 (nI (Tr.sz G)) C.2.2.1 f.2.2.1 (nI (Tr.sz G)) C.2.2.2.1 f.2.2.2.1 (nI (Tr.sz G)) C.2.2.2.2.1 f.2.2.2.2.1 (nI (Tr.sz G)) C.2.2.2.2.2.1 f.2.2.2.2.2.1 (nI (Tr.sz G)) C.2.2.2.2.2.2.1 f.2.2.2.2.2.2.1 (nI (Tr.sz G)) C.2.2.2.2.2.2.2 f.2.2.2.2.2.2.2 0 N b0 q0 N5 a5 = some ((nI (Tr.sz G + 1), nI (Tr.sz G + 1), nI (Tr.sz G + 1), nI (5 * (exT (Tr.sz G) L).length), C'.1, f'.1, C'.2.1, f'.2.1, C'.2.2.1, f'.2.2.1, C'.2.2.2.1, f'.2.2.2.1, C'.2.2.2.2.1, f'.2.2.2.2.1, C'.2.2.2.2.2.1, f'.2.2.2.2.2.1, C'.2.2.2.2.2.2.1, f'.2.2.2.2.2.2.1, C'.2.2.2.2.2.2.2, f'.2.2.2.2.2.2.2, N', b'), c + (c2 + 0), s + (s2 + 0)) ∧ NdS C' f' (Tr.appAt (Tr.nd (T.lb 37 a) .leaf) G p) ∧ GrowA C C' c s ∧ VecT N' b' (flT (exT (Tr.sz G) L)) ∧ Grow N N' c2 s2 ∧ l = joinT L ∧ EC (VEl T (VV T) true) T.tkd 54 a L b := by
  have hlt := x.lt
  obtain ⟨C', f', c, s, e1, h1, h2⟩ := Mo_leaf hT hp6 (q1 := q1) (q2 := q2) (q3 := q3) (q4 := q4) (q5 := q5) (q6 := q6) (q7 := q7) (q8 := q8) (q9 := q9) (z6 := z6) (k := 37) (i := a) h hp hz (by omega) (T.twd a)
  obtain ⟨L, N', b', c2, s2, e2, v2, g2, j2, k2⟩ := Mo_exps hT hk (q1 := q1) (q2 := q2) (q3 := q3) (q4 := q4) (q5 := q5) (q6 := q6) (q7 := q7) (q8 := q8) (q9 := q9) (q0 := q0) (p := Tr.sz G) hb (Or.inr ⟨x, Or.inr rfl⟩) hv
  refine ⟨C', f', L, N', b', c, s, c2, s2, ?_, h1, h2, v2, g2, j2, k2.resolve_left (fun y => by omega)⟩
  unfold F_Mo_buildRow
  exact bw_ok e1 (bw_ok e2 rfl)
end Md
end
