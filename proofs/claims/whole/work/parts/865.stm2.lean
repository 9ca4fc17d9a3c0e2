section
section Md
variable {T : Tks} {m N5 N6 : Nat} {a5 a6 : Nat → Int32}
variable {q1 q2 q3 q4 q5 q6 q7 q8 q9 q0 z6 z34 : Int32}
variable {C : NC} {f : NFn} {N N34 : Nat} {b0 b34 : Nat → Int32} {G : Tr Lb} {p a : Nat} {l0 : List Int32} {mk : Nat → Nat}
/-- a list of values -/
theorem St_list20 (hT : TkOK T m) (hk : KdIs m N5 a5 T.tkd) (hp6 : PlIs m N6 a6 T) (h : NdS C f G) (hp : Tr.OnP G p) (hz : Tr.sz G ≤ 16390) (hv : VecT N b0 l0) (h34 : MkIs m N34 b34 mk) {b' : Nat} {l : Tr Lb} (hka : T.tkd a = 20) (x : VV T 2 0 (a + 1) b' l) (hb : b' < m) : ∃ L, StO m q1 q2 q3 q4 q5 q6 q7 q8 q9 q0 N5 a5 z6 N6 a6 z34 N34 b34 C f N b0 G p a (b' + 1) (Tr.nd (T.lb 18 a) .leaf) (exT (Tr.sz G) L) mk ∧ l = joinT L ∧ EC (VEl T (VV T) true) T.tkd 54 (a + 1) L b' := by
  have hle := hT.le
  have hlt := x.lt
  obtain ⟨C', f', c1, s1, e1, g1, r1⟩ := Mo_leaf hT hp6 (q1 := q1) (q2 := q2) (q3 := q3) (q4 := q4) (q5 := q5) (q6 := q6) (q7 := q7) (q8 := q8) (q9 := q9) (z6 := z6) (k := 18) (i := a) h hp (by omega) (by omega) (T.twd a)
  obtain ⟨L, N', b2, c2, s2, e2, v2, r2, j2, k2⟩ := Mo_exps hT hk (q1 := q1) (q2 := q2) (q3 := q3) (q4 := q4) (q5 := q5) (q6 := q6) (q7 := q7) (q8 := q8) (q9 := q9) (q0 := q0) (p := Tr.sz G) (a := a + 1) (b := b') (t := l) (md := 2) (by omega) (Or.inr ⟨x, Or.inr rfl⟩) hv
  refine ⟨L, ⟨C', f', N', b2, b34, _, _, c1, s1, c2 + 0, s2 + 0, ?_, rfl, rfl, g1, r1, v2, r2.trans Grow.rfl, h34⟩, j2, k2.resolve_left (fun y => by omega)⟩
  have y8 : nI (Tr.sz G) + 1 = nI (Tr.sz G + 1) := nI_add' _ 1
  obtain ⟨w1, w2⟩ := St_k hk (q0 := q0) (show a < m by omega) hka
  unfold F_Mo_buildStatement
  rw [w1, Option.bind_some, w2, if_neg (show ¬ nI 20 = (10 : Int32) by decide), if_neg (show ¬ nI 20 = (11 : Int32) by decide), if_neg (show ¬ nI 20 = (12 : Int32) by decide), if_neg (show ¬ nI 20 = (13 : Int32) by decide), if_neg (show ¬ nI 20 = (14 : Int32) by decide), if_neg (show ¬ nI 20 = (15 : Int32) by decide), if_neg (show ¬ nI 20 = (16 : Int32) by decide), if_neg (show ¬ nI 20 = (17 : Int32) by decide), if_neg (show ¬ nI 20 = (18 : Int32) by decide), if_neg (show ¬ nI 20 = (19 : Int32) by decide), if_pos (show nI 20 = (20 : Int32) from rfl), y8, show nI 20 - 20 + 18 = (18 : Int32) from rfl, show nI a + 1 = nI (a + 1) from nI_add' _ 1, nI_p1]
  exact bw_ok e1 (bw_ok e2 rfl)
/-- a list of values -/
theorem St_list21 (hT : TkOK T m) (hk : KdIs m N5 a5 T.tkd) (hp6 : PlIs m N6 a6 T) (h : NdS C f G) (hp : Tr.OnP G p) (hz : Tr.sz G ≤ 16390) (hv : VecT N b0 l0) (h34 : MkIs m N34 b34 mk) {b' : Nat} {l : Tr Lb} (hka : T.tkd a = 21) (x : VV T 2 0 (a + 1) b' l) (hb : b' < m) : ∃ L, StO m q1 q2 q3 q4 q5 q6 q7 q8 q9 q0 N5 a5 z6 N6 a6 z34 N34 b34 C f N b0 G p a (b' + 1) (Tr.nd (T.lb 19 a) .leaf) (exT (Tr.sz G) L) mk ∧ l = joinT L ∧ EC (VEl T (VV T) true) T.tkd 54 (a + 1) L b' := by
  have hle := hT.le
  have hlt := x.lt
  obtain ⟨C', f', c1, s1, e1, g1, r1⟩ := Mo_leaf hT hp6 (q1 := q1) (q2 := q2) (q3 := q3) (q4 := q4) (q5 := q5) (q6 := q6) (q7 := q7) (q8 := q8) (q9 := q9) (z6 := z6) (k := 19) (i := a) h hp (by omega) (by omega) (T.twd a)
  obtain ⟨L, N', b2, c2, s2, e2, v2, r2, j2, k2⟩ := Mo_exps hT hk (q1 := q1) (q2 := q2) (q3 := q3) (q4 := q4) (q5 := q5) (q6 := q6) (q7 := q7) (q8 := q8) (q9 := q9) (q0 := q0) (p := Tr.sz G) (a := a + 1) (b := b') (t := l) (md := 2) (by omega) (Or.inr ⟨x, Or.inr rfl⟩) hv
  refine ⟨L, ⟨C', f', N', b2, b34, _, _, c1, s1, c2 + 0, s2 + 0, ?_, rfl, rfl, g1, r1, v2, r2.trans Grow.rfl, h34⟩, j2, k2.resolve_left (fun y => by omega)⟩
  have y8 : nI (Tr.sz G) + 1 = nI (Tr.sz G + 1) := nI_add' _ 1
  obtain ⟨w1, w2⟩ := St_k hk (q0 := q0) (show a < m by omega) hka
  unfold F_Mo_buildStatement
  rw [w1, Option.bind_some, w2, if_neg (show ¬ nI 21 = (10 : Int32) by decide), if_neg (show ¬ nI 21 = (11 : Int32) by decide), if_neg (show ¬ nI 21 = (12 : Int32) by decide), if_neg (show ¬ nI 21 = (13 : Int32) by decide), if_neg (show ¬ nI 21 = (14 : Int32) by decide), if_neg (show ¬ nI 21 = (15 : Int32) by decide), if_neg (show ¬ nI 21 = (16 : Int32) by decide), if_neg (show ¬ nI 21 = (17 : Int32) by decide), if_neg (show ¬ nI 21 = (18 : Int32) by decide), if_neg (show ¬ nI 21 = (19 : Int32) by decide), if_neg (show ¬ nI 21 = (20 : Int32) by decide), if_pos (show nI 21 = (21 : Int32) from rfl), y8, show nI 21 - 20 + 18 = (19 : Int32) from rfl, show nI a + 1 = nI (a + 1) from nI_add' _ 1, nI_p1]
  exact bw_ok e1 (bw_ok e2 rfl)
/-- a for -/
theorem St_for (hT : TkOK T m) (hk : KdIs m N5 a5 T.tkd) (hp6 : PlIs m N6 a6 T) (h : NdS C f G) (hp : Tr.OnP G p) (hz : Tr.sz G ≤ 16390) (hv : VecT N b0 l0) (h34 : MkIs m N34 b34 mk) {e c r : Nat} {l : Tr Lb} (hka : T.tkd a = 15) (h50 : T.tkd (a + 1) = 50) (h2 : T.tkd (a + 2) = 2) (h56 : T.tkd (a + 3) = 56) (x : VV T 0 r (a + 4) c l) (h51 : T.tkd c = 51) (hce : c < e) (he : e < m) : StO m q1 q2 q3 q4 q5 q6 q7 q8 q9 q0 N5 a5 z6 N6 a6 z34 N34 b34 C f N b0 G p a (e + 1) (Tr.nd (T.lb 13 a) (Tr.nd (T.lb 32 (a + 2)) .leaf)) [(1, Tr.sz G, a + 4, c, 1), (2, Tr.sz G, c + 1, e, c)] mk := by
  have hle := hT.le
  have hlt := x.lt
  have hv0 : VecT N b0 (flT []) := ⟨hv.1.clear, hv.2⟩
  have l2 : Lay T.tkd (a + 1 + 1) c := (Lay.one (a := a + 2) (by omega) (by omega) (by omega) (by omega)).trans ((Lay.one (a := a + 3) (by omega) (by omega) (by omega) (by omega)).trans x.lay.1)
  have hcl : clos T.tkd FU (a + 1) 0 = some c := Lay.cl (Or.inl h50) l2 (Or.inl h51) (by omega)
  obtain ⟨C1, f1, c1, s1, e1, g1, r1⟩ := Mo_leaf hT hp6 (q1 := q1) (q2 := q2) (q3 := q3) (q4 := q4) (q5 := q5) (q6 := q6) (q7 := q7) (q8 := q8) (q9 := q9) (z6 := z6) (k := 13) (i := a) h hp (by omega) (by omega) (T.twd a)
  have hG1 : Tr.sz (Tr.appAt (Tr.nd (T.lb 13 a) .leaf) G p) = Tr.sz G + 1 := Tr.sz_appAt G p hp
  have o1 : Tr.OnP (Tr.appAt (Tr.nd (T.lb 13 a) .leaf) G p) (Tr.sz G) := Tr.OnP_new G p hp
  obtain ⟨C2, f2, c2, s2, e2, g2, r2⟩ := Mo_leaf hT hp6 (q1 := q1) (q2 := q2) (q3 := q3) (q4 := q4) (q5 := q5) (q6 := q6) (q7 := q7) (q8 := q8) (q9 := q9) (z6 := z6) (k := 32) (i := a + 2) g1 o1 (by show Tr.sz (Tr.appAt (Tr.nd (T.lb 13 a) .leaf) G p) ≤ 16400; rw [hG1]; omega) (by omega) (T.twd (a + 2))
  have g2 : NdS C2 f2 (Tr.appAt (Tr.nd (T.lb 32 (a + 2)) .leaf) (Tr.appAt (Tr.nd (T.lb 13 a) .leaf) G p) (Tr.sz G)) := g2
  rw [Tr.appAt_new G p hp] at g2
  rw [show Tr.sz (Tr.appAt (Tr.nd ((13 : Int32), T.tpl a, (-1 : Int32), T.twd a, nI a) .leaf) G p) = Tr.sz G + 1 from hG1] at e2
  obtain ⟨N1, b1, c3, s3, e3, v3, r3, z3⟩ := Mo_task (q1 := q1) (q2 := q2) (q3 := q3) (q4 := q4) (q5 := q5) (q6 := q6) (q7 := q7) (q8 := q8) (q9 := q9) hv0 (by show 0 ≤ 18000; omega) (1, Tr.sz G, a + 4, c, 1) (z := 0) rfl
  obtain ⟨N2, b2, c4, s4, e4, v4, r4, z4⟩ := Mo_task (q1 := q1) (q2 := q2) (q3 := q3) (q4 := q4) (q5 := q5) (q6 := q6) (q7 := q7) (q8 := q8) (q9 := q9) (L := [(1, Tr.sz G, a + 4, c, 1)]) v3 (by show 1 ≤ 18000; omega) (2, Tr.sz G, c + 1, e, c) z3
  refine ⟨C2, f2, N2, b2, b34, _, _, c1 + c2, s1 + s2, c3 + (c4 + 0), s3 + (s4 + 0), ?_, (by rw [show c1 + c2 + (c3 + (c4 + 0)) = c1 + (c2 + (c3 + (c4 + 0))) by omega]), (by rw [show s1 + s2 + (s3 + (s4 + 0)) = s1 + (s2 + (s3 + (s4 + 0))) by omega]), g2, r1.trans r2, v4, r3.trans (r4.trans Grow.rfl), h34⟩
  have y8 : nI (Tr.sz G) + 1 = nI (Tr.sz G + 1) := nI_add' _ 1
  have y9 : nI (Tr.sz G + 1) + 1 = nI (Tr.sz G + 2) := nI_add' _ 1
  obtain ⟨w1, w2⟩ := St_k hk (q0 := q0) (show a < m by omega) hka
  unfold F_Mo_buildStatement
  rw [w1, Option.bind_some, w2, if_neg (show ¬ nI 15 = (10 : Int32) by decide), if_neg (show ¬ nI 15 = (11 : Int32) by decide), if_neg (show ¬ nI 15 = (12 : Int32) by decide), if_neg (show ¬ nI 15 = (13 : Int32) by decide), if_neg (show ¬ nI 15 = (14 : Int32) by decide), if_pos (show nI 15 = (15 : Int32) from rfl), y8, y9]
  refine bw_ok e1 ?_
  dsimp only
  rw [show nI a + 1 = nI (a + 1) from nI_add' _ 1, Mo_cl hk hcl (by omega) (by omega), Option.bind_some, show nI a + 2 = nI (a + 2) from nI_add' _ 2, show nI a + 4 = nI (a + 4) from nI_add' _ 4, show nI c + 1 = nI (c + 1) from nI_add' _ 1, nI_p1]
  refine bw_ok e2 ?_
  dsimp only
  refine bw_ok e3 (bw_ok e4 ?_)
  dsimp only
  rw [z4]
  rfl
/-- a try -/
theorem St_try (hT : TkOK T m) (hk : KdIs m N5 a5 T.tkd) (hp6 : PlIs m N6 a6 T) (h : NdS C f G) (hp : Tr.OnP G p) (hz : Tr.sz G ≤ 16390) (hv : VecT N b0 l0) (h34 : MkIs m N34 b34 mk) {e c : Nat} {S1 : Tr Lb} (hka : T.tkd a = 22) (x : SV T 1 (a + 1) c S1) (h23 : T.tkd c = 23) (hce : c < e) (he : e < m) : StO m q1 q2 q3 q4 q5 q6 q7 q8 q9 q0 N5 a5 z6 N6 a6 z34 N34 b34 C f N b0 G p a (e + 1) (Tr.nd (T.lb 14 a) .leaf) [(2, Tr.sz G, a + 1, c, a), (2, Tr.sz G, c + 1, e, c)] mk := by
  have hle := hT.le
  have hv0 : VecT N b0 (flT []) := ⟨hv.1.clear, hv.2⟩
  obtain ⟨k1, k2, _, _⟩ := x.sq (by omega)
  obtain ⟨np, hpt⟩ := k2 (by omega)
  have hbe := Mo_be hT hk (q1 := q1) (q2 := q2) (q3 := q3) (q4 := q4) (q5 := q5) (q6 := q6) (q7 := q7) (q8 := q8) (q9 := q9) (q0 := q0) hpt (by omega) (by unfold stB; omega)
  obtain ⟨C', f', c1, s1, e1, g1, r1⟩ := Mo_leaf hT hp6 (q1 := q1) (q2 := q2) (q3 := q3) (q4 := q4) (q5 := q5) (q6 := q6) (q7 := q7) (q8 := q8) (q9 := q9) (z6 := z6) (k := 14) (i := a) h hp (by omega) (by omega) (T.twd a)
  obtain ⟨N1, b1, c2, s2, e2, v2, r2, z2⟩ := Mo_task (q1 := q1) (q2 := q2) (q3 := q3) (q4 := q4) (q5 := q5) (q6 := q6) (q7 := q7) (q8 := q8) (q9 := q9) hv0 (by show 0 ≤ 18000; omega) (2, Tr.sz G, a + 1, c, a) (z := 0) rfl
  obtain ⟨N2, b2, c3, s3, e3, v3, r3, z3⟩ := Mo_task (q1 := q1) (q2 := q2) (q3 := q3) (q4 := q4) (q5 := q5) (q6 := q6) (q7 := q7) (q8 := q8) (q9 := q9) (L := [(2, Tr.sz G, a + 1, c, a)]) v2 (by show 1 ≤ 18000; omega) (2, Tr.sz G, c + 1, e, c) z2
  refine ⟨C', f', N2, b2, b34, _, _, c1, s1, c2 + (c3 + 0), s2 + (s3 + 0), ?_, rfl, rfl, g1, r1, v3, r2.trans (r3.trans Grow.rfl), h34⟩
  have y8 : nI (Tr.sz G) + 1 = nI (Tr.sz G + 1) := nI_add' _ 1
  obtain ⟨w1, w2⟩ := St_k hk (q0 := q0) (show a < m by omega) hka
  unfold F_Mo_buildStatement
  rw [w1, Option.bind_some, w2, if_neg (show ¬ nI 22 = (10 : Int32) by decide), if_neg (show ¬ nI 22 = (11 : Int32) by decide), if_neg (show ¬ nI 22 = (12 : Int32) by decide), if_neg (show ¬ nI 22 = (13 : Int32) by decide), if_neg (show ¬ nI 22 = (14 : Int32) by decide), if_neg (show ¬ nI 22 = (15 : Int32) by decide), if_neg (show ¬ nI 22 = (16 : Int32) by decide), if_neg (show ¬ nI 22 = (17 : Int32) by decide), if_neg (show ¬ nI 22 = (18 : Int32) by decide), if_neg (show ¬ nI 22 = (19 : Int32) by decide), if_neg (show ¬ nI 22 = (20 : Int32) by decide), if_neg (show ¬ nI 22 = (21 : Int32) by decide), if_pos (show nI 22 = (22 : Int32) from rfl), y8]
  refine bw_ok e1 ?_
  dsimp only
  rw [show nI a + 1 = nI (a + 1) from nI_add' _ 1, hbe, Option.bind_some, show nI c + 1 = nI (c + 1) from nI_add' _ 1, nI_p1]
  refine bw_ok e2 (bw_ok e3 ?_)
  dsimp only
  rw [z3]
  rfl
end Md
end
