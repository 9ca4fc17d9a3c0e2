section
theorem Lay.cl {K : Nat → Nat} {a c : Nat} (ho : K a = 50 ∨ K a = 52) (h : Lay K (a + 1) c) (hc : K c = 51 ∨ K c = 53) (hb : c + 1 < 2 ^ 17) : clos K FU a 0 = some c := by
  have h1 := h.1
  obtain ⟨e, g1, g2, g3, g4⟩ := (Lay.brk ho h hc).hop (Lay.top (by omega)) ho hb
  have : e = c := by
    by_cases d : e = c
    · exact d
    · have := dp_in ho h (e + 1) (by omega) (by omega)
      omega
  rw [g1, this]
section Md
variable {T : Tks} {m N5 N6 : Nat} {a5 a6 : Nat → Int32}
variable {q1 q2 q3 q4 q5 q6 q7 q8 q9 q0 z6 z33 : Int32}
variable {C : NC} {f : NFn} {N : Nat} {b0 : Nat → Int32}
/-- several places at once -/
theorem Mo_sm5 (hT : TkOK T m) (hk : KdIs m N5 a5 T.tkd) (hp6 : PlIs m N6 a6 T) {G : Tr Lb} {p a n c : Nat} {l l2 : Tr Lb} {l0 : List Int32} (h : NdS C f G) (hp : Tr.OnP G p) (hz : Tr.sz G + n + 3 ≤ 16400) (h52 : T.tkd a = 52) (hn : 0 < n) (hl : NmL T true (a + 1) n l) (h53 : T.tkd (a + 2 * n) = 53) (h56 : T.tkd (a + 2 * n + 1) = 56) (x : (c = a + 2 * n + 4 ∧ l2 = .leaf) ∨ VV T 2 0 (a + 2 * n + 4) c l2) (hc : c + 1 < m) (hv : VecT N b0 l0) :
    ∃ (C' : NC) (f' : NFn) (L : List Piece) (N' : Nat) (b2 : Nat → Int32) (cc ss c1 s1 c2 s2 : Nat), F_Mo_buildSimple (nI p) (nI a) (nI (c + 1)) q1 q2 q3 q4 q5 q6 q7 q8 q9 q0 N5 a5 z6 N6 a6 (nI (Tr.sz G)) C.1 f.1 (nI (Tr.sz G)) C.2.1 f.2.1 (nI (Tr.sz G)) C.2.2.1 f.2.2.1 (nI (Tr.sz G)) C.2.2.2.1 f.2.2.2.1 (nI (Tr.sz G)) C.2.2.2.2.1 f.2.2.2.2.1 (nI (Tr.sz G)) C.2.2.2.2.2.1 f.2.2.2.2.2.1 (nI (Tr.sz G)) C.2.2.2.2.2.2.1 f.2.2.2.2.2.2.1 (nI (Tr.sz G)) C.2.2.2.2.2.2.2 f.2.2.2.2.2.2.2 0 N b0 = some ((nI (Tr.sz G + n + 3), nI (Tr.sz G + n + 3), nI (Tr.sz G + n + 3), nI (Tr.sz G + n + 3), nI (Tr.sz G + n + 3), nI (Tr.sz G + n + 3), nI (Tr.sz G + n + 3), nI (Tr.sz G + n + 3), nI (5 * (exT (Tr.sz G + n + 2) L).length), C'.1, f'.1, C'.2.1, f'.2.1, C'.2.2.1, f'.2.2.1, C'.2.2.2.1, f'.2.2.2.1, C'.2.2.2.2.1, f'.2.2.2.2.1, C'.2.2.2.2.2.1, f'.2.2.2.2.2.1, C'.2.2.2.2.2.2.1, f'.2.2.2.2.2.2.1, C'.2.2.2.2.2.2.2, f'.2.2.2.2.2.2.2, N', b2), cc, ss) ∧ cc = c1 + c2 ∧ ss = s1 + s2 ∧ NdS C' f' (Tr.appAt (Tr.nd (10, T.tpl (a + 2 * n + 1), T.tpl a, T.twd (a + 2 * n + 1), nI (a + 2 * n + 1)) (Tr.app (Tr.nd (T.nms a) l) (Tr.nd (33, T.tpl (a + 2 * n + 2), T.tpl (a + 2 * n + 3), T.twd (a + 2 * n + 2), nI (a + 2 * n + 2)) .leaf))) G p) ∧ GrowA C C' c1 s1 ∧ VecT N' b2 (flT (exT (Tr.sz G + n + 2) L)) ∧ Grow N N' c2 s2 ∧ l2 = joinT L ∧ ((c = a + 2 * n + 4 ∧ L = []) ∨ EC (VEl T (VV T) true) T.tkd 54 (a + 2 * n + 4) L c) := by
  have hle := hT.le
  have hac : a + 2 * n + 4 ≤ c := by
    rcases x with ⟨x, _⟩ | x
    · omega
    · have := x.lt; omega
  obtain ⟨n', rfl⟩ : ∃ n', n = n' + 1 := ⟨n - 1, by omega⟩
  have hly := hl.lay
  rw [show a + 1 + 2 * n' + 1 = a + 2 * (n' + 1) by omega] at hly
  have hcl : clos T.tkd FU a 0 = some (a + 2 * (n' + 1)) := Lay.cl (Or.inr h52) hly (Or.inr h53) (by omega)
  have hcl2 : F_Mo_closing (nI a) q1 q2 q3 q4 q5 q6 q7 q8 q9 q0 N5 a5 = some (nI (a + 2 * (n' + 1))) := Mo_cl hk hcl (by omega) (by omega)
  have e52 : (a5 (Int32.toNatClampNeg (nI a)) = 52) = (T.tkd a = 52) := Mo_kd hk (by omega) (p := 52) (by omega)
  have e56 : (a5 (Int32.toNatClampNeg (nI (a + 2 * (n' + 1) + 1))) = 56) = (T.tkd (a + 2 * (n' + 1) + 1) = 56) := Mo_kd hk (by omega) (p := 56) (by omega)
  obtain ⟨p1, p2⟩ := Mo_place hT hp6 (q1 := q1) (q2 := q2) (q3 := q3) (q4 := q4) (q5 := q5) (q6 := q6) (q7 := q7) (q8 := q8) (q9 := q9) (z6 := z6) (i := a + 2 * (n' + 1) + 1) (by omega)
  obtain ⟨p3, p4⟩ := Mo_place hT hp6 (q1 := q1) (q2 := q2) (q3 := q3) (q4 := q4) (q5 := q5) (q6 := q6) (q7 := q7) (q8 := q8) (q9 := q9) (z6 := z6) (i := a) (by omega)
  obtain ⟨p5, p6⟩ := Mo_place hT hp6 (q1 := q1) (q2 := q2) (q3 := q3) (q4 := q4) (q5 := q5) (q6 := q6) (q7 := q7) (q8 := q8) (q9 := q9) (z6 := z6) (i := a + 2 * (n' + 1) + 2) (by omega)
  obtain ⟨p7, p8⟩ := Mo_place hT hp6 (q1 := q1) (q2 := q2) (q3 := q3) (q4 := q4) (q5 := q5) (q6 := q6) (q7 := q7) (q8 := q8) (q9 := q9) (z6 := z6) (i := a + 2 * (n' + 1) + 3) (by omega)
  -- the statement's node
  obtain ⟨C1, f1, c1, s1, e1, g1, r1⟩ := Mo_newS (q1 := q1) (q2 := q2) (q3 := q3) (q4 := q4) (q5 := q5) (q6 := q6) (q7 := q7) (q8 := q8) (q9 := q9) h hp (by omega) (10, T.tpl (a + 2 * (n' + 1) + 1), T.tpl a, T.twd (a + 2 * (n' + 1) + 1), nI (a + 2 * (n' + 1) + 1))
  have hG1 : Tr.sz (Tr.appAt (Tr.nd (10, T.tpl (a + 2 * (n' + 1) + 1), T.tpl a, T.twd (a + 2 * (n' + 1) + 1), nI (a + 2 * (n' + 1) + 1)) .leaf) G p) = Tr.sz G + 1 := Tr.sz_appAt G p hp
  have o1 : Tr.OnP (Tr.appAt (Tr.nd (10, T.tpl (a + 2 * (n' + 1) + 1), T.tpl a, T.twd (a + 2 * (n' + 1) + 1), nI (a + 2 * (n' + 1) + 1)) .leaf) G p) (Tr.sz G) := Tr.OnP_new G p hp
  -- the places' node
  obtain ⟨C2, f2, c2, s2, e2, g2, r2⟩ := Mo_newS (q1 := q1) (q2 := q2) (q3 := q3) (q4 := q4) (q5 := q5) (q6 := q6) (q7 := q7) (q8 := q8) (q9 := q9) g1 o1 (by rw [hG1]; omega) (T.nms a)
  rw [hG1] at e2
  generalize hH : Tr.appAt (Tr.nd (10, T.tpl (a + 2 * (n' + 1) + 1), T.tpl a, T.twd (a + 2 * (n' + 1) + 1), nI (a + 2 * (n' + 1) + 1)) .leaf) G p = H at hG1 o1 g1 g2
  have hG2 : Tr.sz (Tr.appAt (Tr.nd (T.nms a) .leaf) H (Tr.sz G)) = Tr.sz G + 2 := by rw [Tr.sz_appAt H _ o1, hG1]; rfl
  have o2 : Tr.OnP (Tr.appAt (Tr.nd (T.nms a) .leaf) H (Tr.sz G)) (Tr.sz G + 1) := by
    have := Tr.OnP_new (a0 := T.nms a) (L := .leaf) H _ o1
    rw [hG1] at this
    exact this
  obtain ⟨C3, f3, c3, s3, e3, g3, r3⟩ := Mo_nn hT hk hp6 (q1 := q1) (q2 := q2) (q3 := q3) (q4 := q4) (q5 := q5) (q6 := q6) (q7 := q7) (q8 := q8) (q9 := q9) (q0 := q0) (z6 := z6) (to := a + 2 * (n' + 1)) g2 o2 (by omega) hl (by rw [hG2]; omega) (Or.inr ⟨by omega, by omega⟩) (by omega)
  rw [hG2] at e3
  have hap : Tr.appAt l (Tr.appAt (Tr.nd (T.nms a) .leaf) H (Tr.sz G)) (Tr.sz G + 1) = Tr.appAt (Tr.nd (T.nms a) l) H (Tr.sz G) := by
    have := Tr.appAt_new (F := l) (a0 := T.nms a) (L := .leaf) H _ o1
    rw [hG1] at this
    exact this
  rw [hap] at g3
  have hls : Tr.sz l = n' + 1 := hl.sz
  have hG3 : Tr.sz (Tr.appAt (Tr.nd (T.nms a) l) H (Tr.sz G)) = Tr.sz G + (n' + 1) + 2 := by
    rw [Tr.sz_appAt H _ o1, hG1]
    show _ + (Tr.sz l + 0 + 1) = _
    omega
  have o3 : Tr.OnP (Tr.appAt (Tr.nd (T.nms a) l) H (Tr.sz G)) (Tr.sz G) := Tr.OnP_le H _ _ o1 o1 (Nat.le_refl _)
  obtain ⟨C4, f4, c4, s4, e4, g4, r4⟩ := Mo_newS (q1 := q1) (q2 := q2) (q3 := q3) (q4 := q4) (q5 := q5) (q6 := q6) (q7 := q7) (q8 := q8) (q9 := q9) g3 o3 (by rw [hG3]; omega) (33, T.tpl (a + 2 * (n' + 1) + 2), T.tpl (a + 2 * (n' + 1) + 3), T.twd (a + 2 * (n' + 1) + 2), nI (a + 2 * (n' + 1) + 2))
  rw [hG3] at e4
  rw [Tr.appAt_app H _ o1, ← hH, Tr.appAt_new G p hp] at g4
  obtain ⟨L, N', b2, c5, s5, e5, v5, r5, j5, k5⟩ := Mo_exps hT hk (q1 := q1) (q2 := q2) (q3 := q3) (q4 := q4) (q5 := q5) (q6 := q6) (q7 := q7) (q8 := q8) (q9 := q9) (q0 := q0) (p := Tr.sz G + (n' + 1) + 2) (a := a + 2 * (n' + 1) + 4) (b := c) (t := l2) (md := 2) (by omega) (x.imp id (fun y => ⟨y, Or.inr rfl⟩)) hv
  refine ⟨C4, f4, L, N', b2, _, _, c1 + (c2 + (c3 + c4)), s1 + (s2 + (s3 + s4)), c5 + 0, s5 + 0, ?_, (by rw [show c1 + (c2 + (c3 + c4)) + (c5 + 0) = c1 + (c2 + (c3 + (c4 + (c5 + 0)))) by omega]), (by rw [show s1 + (s2 + (s3 + s4)) + (s5 + 0) = s1 + (s2 + (s3 + (s4 + (s5 + 0)))) by omega]), g4, r1.trans (r2.trans (r3.trans r4)), v5, r5.trans Grow.rfl, j5, k5⟩
  have y1 : nI (a + 2 * (n' + 1)) + 1 = nI (a + 2 * (n' + 1) + 1) := nI_add' _ 1
  have y2 : nI (a + 2 * (n' + 1) + 1) + 1 = nI (a + 2 * (n' + 1) + 2) := nI_add' _ 1
  have y3 : nI (a + 2 * (n' + 1) + 1) + 2 = nI (a + 2 * (n' + 1) + 3) := nI_add' _ 2
  have y4 : nI (a + 2 * (n' + 1) + 1) + 3 = nI (a + 2 * (n' + 1) + 4) := nI_add' _ 3
  have y5 : nI (a + 2 * (n' + 1) + 1) - 1 = nI (a + 2 * (n' + 1)) := nI_p1 _
  have y6 : nI a + 1 = nI (a + 1) := nI_add' _ 1
  have y7 : nI (c + 1) - 1 = nI c := nI_p1 _
  have y8 : nI (Tr.sz G) + 1 = nI (Tr.sz G + 1) := nI_add' _ 1
  have y9 : nI (Tr.sz G + 1) + 1 = nI (Tr.sz G + 2) := nI_add' _ 1
  have hs3 : Tr.sz G + 2 + (n' + 1) = Tr.sz G + (n' + 1) + 2 := by omega
  have y10 : nI (Tr.sz G + (n' + 1) + 2) + 1 = nI (Tr.sz G + (n' + 1) + 3) := nI_add' _ 1
  rw [hs3] at e3
  unfold F_Mo_buildSimple
  rw [Mo_at hk (by omega), Option.bind_some]
  simp only [e52]
  rw [if_pos h52, hcl2, Option.bind_some, y1, Mo_at hk (by omega), Option.bind_some]
  simp only [e56]
  rw [if_pos h56, Option.bind_some, y1, p1, Option.bind_some, p3, Option.bind_some, p2, p4]
  refine bw_ok e1 ?_
  dsimp only
  rw [Option.bind_some, y8]
  refine bw_ok e2 ?_
  dsimp only
  rw [y5, y6, y9]
  refine bw_ok e3 ?_
  dsimp only
  rw [y2, y3, y4, y7, p5, Option.bind_some, p7, Option.bind_some, p6, p8]
  refine bw_ok e4 (bw_ok e5 ?_)
  dsimp only
  rw [y10]
end Md
end
