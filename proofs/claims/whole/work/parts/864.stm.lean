section
/-! one statement of the building -/
/-- the building of the statement from a to b - 1 puts X below p, asks for the tasks Ts and leaves the marks mk' -/
def StO (m : Nat) (q1 q2 q3 q4 q5 q6 q7 q8 q9 q0 : Int32) (N5 : Nat) (a5 : Nat → Int32) (z6 : Int32) (N6 : Nat) (a6 : Nat → Int32) (z34 : Int32) (N34 : Nat) (b34 : Nat → Int32) (C : NC) (f : NFn) (N : Nat) (b0 : Nat → Int32) (G : Tr Lb) (p a b : Nat) (X : Tr Lb) (Ts : List Tsk) (mk' : Nat → Nat) : Prop :=
  ∃ (C' : NC) (f' : NFn) (N' : Nat) (b' b34' : Nat → Int32) (cc ss c1 s1 c2 s2 : Nat), F_Mo_buildStatement (nI p) (nI a) (nI b) q1 q2 q3 q4 q5 q6 q7 q8 q9 q0 N5 a5 z6 N6 a6 (nI (Tr.sz G)) C.1 f.1 (nI (Tr.sz G)) C.2.1 f.2.1 (nI (Tr.sz G)) C.2.2.1 f.2.2.1 (nI (Tr.sz G)) C.2.2.2.1 f.2.2.2.1 (nI (Tr.sz G)) C.2.2.2.2.1 f.2.2.2.2.1 (nI (Tr.sz G)) C.2.2.2.2.2.1 f.2.2.2.2.2.1 (nI (Tr.sz G)) C.2.2.2.2.2.2.1 f.2.2.2.2.2.2.1 (nI (Tr.sz G)) C.2.2.2.2.2.2.2 f.2.2.2.2.2.2.2 0 N b0 z34 N34 b34 = some ((nI (Tr.sz G + Tr.sz X), nI (Tr.sz G + Tr.sz X), nI (Tr.sz G + Tr.sz X), nI (Tr.sz G + Tr.sz X), nI (Tr.sz G + Tr.sz X), nI (Tr.sz G + Tr.sz X), nI (Tr.sz G + Tr.sz X), nI (Tr.sz G + Tr.sz X), nI (5 * Ts.length), b34', C'.1, f'.1, C'.2.1, f'.2.1, C'.2.2.1, f'.2.2.1, C'.2.2.2.1, f'.2.2.2.1, C'.2.2.2.2.1, f'.2.2.2.2.1, C'.2.2.2.2.2.1, f'.2.2.2.2.2.1, C'.2.2.2.2.2.2.1, f'.2.2.2.2.2.2.1, C'.2.2.2.2.2.2.2, f'.2.2.2.2.2.2.2, N', b'), cc, ss) ∧ cc = c1 + c2 ∧ ss = s1 + s2 ∧ NdS C' f' (Tr.appAt X G p) ∧ GrowA C C' c1 s1 ∧ VecT N' b' (flT Ts) ∧ Grow N N' c2 s2 ∧ MkIs m N34 b34' mk'
section Md
variable {T : Tks} {m N5 N6 : Nat} {a5 a6 : Nat → Int32}
variable {q1 q2 q3 q4 q5 q6 q7 q8 q9 q0 z6 z34 : Int32}
variable {C : NC} {f : NFn} {N N34 : Nat} {b0 b34 : Nat → Int32} {G : Tr Lb} {p a : Nat} {l0 : List Int32} {mk : Nat → Nat}
theorem St_k (hk : KdIs m N5 a5 T.tkd) {k : Nat} (ha : a < m) (hka : T.tkd a = k) : F_Nm_at (nI a) q0 N5 a5 = some () ∧ a5 (Int32.toNatClampNeg (nI a)) = nI k := ⟨Mo_at hk ha, by rw [Mo_a5 hk ha, hka]⟩
/-- a word alone -/
theorem St_word (hT : TkOK T m) (hk : KdIs m N5 a5 T.tkd) (hp6 : PlIs m N6 a6 T) (h : NdS C f G) (hp : Tr.OnP G p) (hz : Tr.sz G ≤ 16390) (hv : VecT N b0 l0) (h34 : MkIs m N34 b34 mk) {b : Nat} {k : Int32} (ha : a < m) (hka : (T.tkd a = 16 ∧ k = 15) ∨ (T.tkd a = 17 ∧ k = 16) ∨ (T.tkd a = 18 ∧ k = 17)) : StO m q1 q2 q3 q4 q5 q6 q7 q8 q9 q0 N5 a5 z6 N6 a6 z34 N34 b34 C f N b0 G p a b (Tr.nd (T.lb k a) .leaf) [] mk := by
  have hv0 : VecT N b0 (flT []) := ⟨hv.1.clear, hv.2⟩
  obtain ⟨C', f', c1, s1, e1, g1, r1⟩ := Mo_leaf hT hp6 (q1 := q1) (q2 := q2) (q3 := q3) (q4 := q4) (q5 := q5) (q6 := q6) (q7 := q7) (q8 := q8) (q9 := q9) (z6 := z6) (k := k) (i := a) h hp (by omega) ha (T.twd a)
  refine ⟨C', f', N, b0, b34, _, _, c1, s1, 0, 0, ?_, rfl, rfl, g1, r1, hv0, Grow.rfl, h34⟩
  have y8 : nI (Tr.sz G) + 1 = nI (Tr.sz G + 1) := nI_add' _ 1
  unfold F_Mo_buildStatement
  rcases hka with ⟨k1, k2⟩ | ⟨k1, k2⟩ | ⟨k1, k2⟩
  · subst k2
    obtain ⟨w1, w2⟩ := St_k hk (q0 := q0) ha k1
    rw [w1, Option.bind_some, w2, if_neg (show ¬ nI 16 = (10 : Int32) by decide), if_neg (show ¬ nI 16 = (11 : Int32) by decide), if_neg (show ¬ nI 16 = (12 : Int32) by decide), if_neg (show ¬ nI 16 = (13 : Int32) by decide), if_neg (show ¬ nI 16 = (14 : Int32) by decide), if_neg (show ¬ nI 16 = (15 : Int32) by decide), if_pos (show nI 16 = (16 : Int32) from rfl), y8, show nI 16 - 16 + 15 = (15 : Int32) from rfl]
    exact bw_ok e1 rfl
  · subst k2
    obtain ⟨w1, w2⟩ := St_k hk (q0 := q0) ha k1
    rw [w1, Option.bind_some, w2, if_neg (show ¬ nI 17 = (10 : Int32) by decide), if_neg (show ¬ nI 17 = (11 : Int32) by decide), if_neg (show ¬ nI 17 = (12 : Int32) by decide), if_neg (show ¬ nI 17 = (13 : Int32) by decide), if_neg (show ¬ nI 17 = (14 : Int32) by decide), if_neg (show ¬ nI 17 = (15 : Int32) by decide), if_neg (show ¬ nI 17 = (16 : Int32) by decide), if_pos (show nI 17 = (17 : Int32) from rfl), y8, show nI 17 - 16 + 15 = (16 : Int32) from rfl]
    exact bw_ok e1 rfl
  · subst k2
    obtain ⟨w1, w2⟩ := St_k hk (q0 := q0) ha k1
    rw [w1, Option.bind_some, w2, if_neg (show ¬ nI 18 = (10 : Int32) by decide), if_neg (show ¬ nI 18 = (11 : Int32) by decide), if_neg (show ¬ nI 18 = (12 : Int32) by decide), if_neg (show ¬ nI 18 = (13 : Int32) by decide), if_neg (show ¬ nI 18 = (14 : Int32) by decide), if_neg (show ¬ nI 18 = (15 : Int32) by decide), if_neg (show ¬ nI 18 = (16 : Int32) by decide), if_neg (show ¬ nI 18 = (17 : Int32) by decide), if_pos (show nI 18 = (18 : Int32) from rfl), y8, show nI 18 - 16 + 15 = (17 : Int32) from rfl]
    exact bw_ok e1 rfl
/-- an if -/
theorem St_if (hT : TkOK T m) (hk : KdIs m N5 a5 T.tkd) (hp6 : PlIs m N6 a6 T) (h : NdS C f G) (hp : Tr.OnP G p) (hz : Tr.sz G ≤ 16390) (hv : VecT N b0 l0) (h34 : MkIs m N34 b34 mk) {b d : Nat} {L : List Brn} {el : Option (Nat × Nat)} (ha : a < m) (hka : T.tkd a = 10) (hd : d < m) (hL : IfC T 10 a L d) (hel : (el = none ∧ T.tkd d = 13) ∨ ∃ e S, el = some (d, e) ∧ T.tkd d = 12 ∧ SV T 1 (d + 1) e S ∧ T.tkd e = 13 ∧ e < m) : StO m q1 q2 q3 q4 q5 q6 q7 q8 q9 q0 N5 a5 z6 N6 a6 z34 N34 b34 C f N b0 G p a b (Tr.nd (T.lb 11 a) .leaf) (ifT (Tr.sz G) L ++ elT (Tr.sz G) el) mk := by
  obtain ⟨C', f', c1, s1, e1, g1, r1⟩ := Mo_leaf hT hp6 (q1 := q1) (q2 := q2) (q3 := q3) (q4 := q4) (q5 := q5) (q6 := q6) (q7 := q7) (q8 := q8) (q9 := q9) (z6 := z6) (k := 11) (i := a) h hp (by omega) ha (T.twd a)
  obtain ⟨N', b', c2, s2, e2, v2, r2⟩ := Mo_if hT hk (q1 := q1) (q2 := q2) (q3 := q3) (q4 := q4) (q5 := q5) (q6 := q6) (q7 := q7) (q8 := q8) (q9 := q9) (q0 := q0) (z := Tr.sz G) hd hL hel hv
  refine ⟨C', f', N', b', b34, _, _, c1, s1, c2 + 0, s2 + 0, ?_, rfl, rfl, g1, r1, v2, r2.trans Grow.rfl, h34⟩
  have y8 : nI (Tr.sz G) + 1 = nI (Tr.sz G + 1) := nI_add' _ 1
  obtain ⟨w1, w2⟩ := St_k hk (q0 := q0) ha hka
  unfold F_Mo_buildStatement
  rw [w1, Option.bind_some, w2, if_pos (show nI 10 = (10 : Int32) from rfl), y8]
  exact bw_ok e1 (bw_ok e2 rfl)
/-- a while -/
theorem St_while (hT : TkOK T m) (hk : KdIs m N5 a5 T.tkd) (hp6 : PlIs m N6 a6 T) (h : NdS C f G) (hp : Tr.OnP G p) (hz : Tr.sz G ≤ 16390) (hv : VecT N b0 l0) (h34 : MkIs m N34 b34 mk) {e c r : Nat} {l : Tr Lb} (hka : T.tkd a = 14) (h50 : T.tkd (a + 1) = 50) (x : VV T 0 r (a + 2) c l) (h51 : T.tkd c = 51) (hce : c < e) (he : e < m) : StO m q1 q2 q3 q4 q5 q6 q7 q8 q9 q0 N5 a5 z6 N6 a6 z34 N34 b34 C f N b0 G p a (e + 1) (Tr.nd (T.lb 12 a) .leaf) [(1, Tr.sz G, a + 2, c, 1), (2, Tr.sz G, c + 1, e, c)] mk := by
  have hle := hT.le
  have hlt := x.lt
  have hv0 : VecT N b0 (flT []) := ⟨hv.1.clear, hv.2⟩
  have hcl : clos T.tkd FU (a + 1) 0 = some c := Pass.closed (Or.inl h50) (Or.inl h51) x.pass FU (by unfold FU; omega)
  obtain ⟨C', f', c1, s1, e1, g1, r1⟩ := Mo_leaf hT hp6 (q1 := q1) (q2 := q2) (q3 := q3) (q4 := q4) (q5 := q5) (q6 := q6) (q7 := q7) (q8 := q8) (q9 := q9) (z6 := z6) (k := 12) (i := a) h hp (by omega) (by omega) (T.twd a)
  obtain ⟨N1, b1, c2, s2, e2, v2, r2, z2⟩ := Mo_task (q1 := q1) (q2 := q2) (q3 := q3) (q4 := q4) (q5 := q5) (q6 := q6) (q7 := q7) (q8 := q8) (q9 := q9) hv0 (by show 0 ≤ 18000; omega) (1, Tr.sz G, a + 2, c, 1) (z := 0) rfl
  obtain ⟨N2, b2, c3, s3, e3, v3, r3, z3⟩ := Mo_task (q1 := q1) (q2 := q2) (q3 := q3) (q4 := q4) (q5 := q5) (q6 := q6) (q7 := q7) (q8 := q8) (q9 := q9) (L := [(1, Tr.sz G, a + 2, c, 1)]) v2 (by show 1 ≤ 18000; omega) (2, Tr.sz G, c + 1, e, c) z2
  refine ⟨C', f', N2, b2, b34, _, _, c1, s1, c2 + (c3 + 0), s2 + (s3 + 0), ?_, rfl, rfl, g1, r1, v3, r2.trans (r3.trans Grow.rfl), h34⟩
  have y8 : nI (Tr.sz G) + 1 = nI (Tr.sz G + 1) := nI_add' _ 1
  obtain ⟨w1, w2⟩ := St_k hk (q0 := q0) (show a < m by omega) hka
  unfold F_Mo_buildStatement
  rw [w1, Option.bind_some, w2, if_neg (show ¬ nI 14 = (10 : Int32) by decide), if_neg (show ¬ nI 14 = (11 : Int32) by decide), if_neg (show ¬ nI 14 = (12 : Int32) by decide), if_neg (show ¬ nI 14 = (13 : Int32) by decide), if_pos (show nI 14 = (14 : Int32) from rfl), y8]
  refine bw_ok e1 ?_
  dsimp only
  rw [show nI a + 1 = nI (a + 1) from nI_add' _ 1, Mo_cl hk hcl (by omega) (by omega), Option.bind_some, show nI a + 2 = nI (a + 2) from nI_add' _ 2, show nI c + 1 = nI (c + 1) from nI_add' _ 1, nI_p1]
  refine bw_ok e2 (bw_ok e3 ?_)
  dsimp only
  rw [z3]
  rfl
end Md
end
