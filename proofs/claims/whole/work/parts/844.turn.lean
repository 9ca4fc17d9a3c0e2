section
/-! one turn of the building: an expression that no bracket surrounds -/
def ndT (T : Tks) (r : Nat) (t : Tr Lb) : Nat := if r = 8 then (if tgT T t = true then 7 else 9) else r + 1
/-- the node lab above l, and the tasks of its parts -/
def XF (T : Tks) (z r a b c : Nat) (lab : Lb) (l : Tr Lb) (Ts : List Tsk) : Prop :=
  (r = 10 ∧ SubI T z a b lab l Ts)
  ∨ (r = 9 ∧ b = c + 1 ∧ T.tkd c = 48 ∧ lab = T.lb 38 c ∧ Ts = [(1, z, a, c, 9)] ∧ ∃ r', 9 ≤ r' ∧ VV T 0 r' a c l)
  ∨ (r = 7 ∧ c = a ∧ (T.tkd a = 40 ∨ T.tkd a = 39 ∨ T.tkd a = 49) ∧ lab = T.lb 39 a ∧ Ts = [(1, z, a + 1, b, 7)] ∧ ∃ r', 7 ≤ r' ∧ VV T 0 r' (a + 1) b l)
  ∨ (0 < r ∧ r ≠ 4 ∧ rkM (T.tkd c) = r ∧ lab = T.lb 40 c ∧ ∃ r1 t1 r2 t2, r ≤ r1 ∧ VV T 0 r1 a c t1 ∧ VV T 0 r2 (c + 1) b t2 ∧ l = Tr.app t1 t2 ∧ (ndT T r t2 ≤ r2 ∨ (ndT T r t2 = 9 ∧ r2 = 7)) ∧ Ts = [(1, z, a, c, r), (1, z, c + 1, b, ndT T r t2)])
  ∨ (r = 4 ∧ T.tkd c = 38 ∧ lab = T.lb 41 c ∧ ∃ r1 r2 t1 t2, 5 ≤ r1 ∧ 5 ≤ r2 ∧ VV T 0 r1 a c t1 ∧ VV T 0 r2 (c + 1) b t2 ∧ l = Tr.app t1 t2 ∧ Ts = [(1, z, a, c, 5), (1, z, c + 1, b, 5)])
  ∨ (r = 4 ∧ T.tkd c = 38 ∧ ∃ m, T.tkd m = 38 ∧ lab = (41, T.tpl m, T.tpl c, T.twd m, nI m) ∧ ∃ r1 r2 r3 t1 t2 t3, 5 ≤ r1 ∧ 5 ≤ r2 ∧ 5 ≤ r3 ∧ VV T 0 r1 a m t1 ∧ VV T 0 r2 (m + 1) c t2 ∧ VV T 0 r3 (c + 1) b t3 ∧ l = Tr.app t1 (Tr.app t2 t3) ∧ Ts = [(1, z, a, m, 5), (1, z, m + 1, c, 5), (1, z, c + 1, b, 5)])
section Md
variable {T : Tks} {m N5 N6 : Nat} {a5 a6 : Nat → Int32}
variable {n2 : Nat} {b2 : Nat → Int32}
variable {q1 q2 q3 q4 q5 q6 q7 q8 q9 q0 z6 v10 v5 : Int32}
variable {C : NC} {f : NFn} {b34 b35 : Nat → Int32}
theorem Mo_203 (hT : TkOK T m) (hk : KdIs m N5 a5 T.tkd) (hp6 : PlIs m N6 a6 T) (hr : RkIs n2 b2) {G : Tr Lb} {p r a b c : Nat} {t : Tr Lb} {N : Nat} {b0 : Nat → Int32} {l0 : List Int32} (h : NdS C f G) (hp : Tr.OnP G p) (hz : Tr.sz G ≤ 16400) (hb : b ≤ m) (x : VR T r a b c t) (hv : VecT N b0 l0) :
    ∃ (C' : NC) (f' : NFn) (lab : Lb) (l : Tr Lb) (Ts : List Tsk) (N' : Nat) (b' : Nat → Int32) (fnd : Int32) (cc ss c1 s1 c2 s2 : Nat), F_Mo_buildExpression_203 (nI p) q1 q2 q3 q4 q5 q6 q7 q8 q0 N5 a5 z6 N6 a6 (nI (Tr.sz G)) C.1 f.1 (nI (Tr.sz G)) C.2.1 f.2.1 (nI (Tr.sz G)) C.2.2.1 f.2.2.1 (nI (Tr.sz G)) C.2.2.2.1 f.2.2.2.1 (nI (Tr.sz G)) C.2.2.2.2.1 f.2.2.2.2.1 (nI (Tr.sz G)) C.2.2.2.2.2.1 f.2.2.2.2.2.1 (nI (Tr.sz G)) C.2.2.2.2.2.2.1 f.2.2.2.2.2.2.1 (nI (Tr.sz G)) C.2.2.2.2.2.2.2 f.2.2.2.2.2.2.2 n2 b2 0 N b0 v10 (nI c) (nI r) (nI b) (nI a) v5 b34 b35 q9 = some ((fnd, nI (Tr.sz G + 1), nI (Tr.sz G + 1), nI (Tr.sz G + 1), b34, b35, nI (5 * Ts.length), C'.1, f'.1, C'.2.1, f'.2.1, C'.2.2.1, f'.2.2.1, C'.2.2.2.1, f'.2.2.2.1, C'.2.2.2.2.1, f'.2.2.2.2.1, C'.2.2.2.2.2.1, f'.2.2.2.2.2.1, C'.2.2.2.2.2.2.1, f'.2.2.2.2.2.2.1, C'.2.2.2.2.2.2.2, f'.2.2.2.2.2.2.2, N', b'), cc, ss) ∧ cc = c1 + c2 ∧ ss = s1 + s2 ∧ t = Tr.nd lab l ∧ NdS C' f' (Tr.appAt (Tr.nd lab .leaf) G p) ∧ GrowA C C' c1 s1 ∧ VecT N' b' (flT Ts) ∧ Grow N N' c2 s2 ∧ XF T (Tr.sz G) r a b c lab l Ts := by
  have hle := hT.le
  have hvv := x.vv
  have hab := hvv.lt
  have hr10 := ((hvv.lay.2.2 rfl).2.2.2.2)
  have hv0 : VecT N b0 (flT []) := ⟨hv.1.clear, hv.2⟩
  have er : ∀ k, k < 2 ^ 31 → (nI r = nI k) = (r = k) := fun k hk => nI_eq' (by omega) hk
  have e4 : (nI r = 4) = (r = 4) := er 4 (by omega)
  have e7 : (nI r = 7) = (r = 7) := er 7 (by omega)
  have e9 : (nI r = 9) = (r = 9) := er 9 (by omega)
  have e8 : (nI r = 8) = (r = 8) := er 8 (by omega)
  have l9 : ((9 : Int32) ≤ nI r) = (9 ≤ r) := nI_le' (a := 9) (by omega) (by omega)
  have zz : (0 : Int32) = nI (5 * ([] : List Tsk).length) := rfl
  have tone : ∀ (q : Int32) (t1 : Tsk), ∃ N' b' c s, F_Mo_task (nI t1.1) (nI t1.2.1) (nI t1.2.2.1) (nI t1.2.2.2.1) (nI t1.2.2.2.2) q1 q2 q3 q4 q5 q6 q7 q8 q 0 N b0 = some ((N', b'), c, s) ∧ VecT N' b' (flT [t1]) ∧ Grow N N' c s ∧ (0 : Int32) + 1 + 1 + 1 + 1 + 1 = nI (5 * [t1].length) := fun q t1 => Mo_task (q1 := q1) (q2 := q2) (q3 := q3) (q4 := q4) (q5 := q5) (q6 := q6) (q7 := q7) (q8 := q8) (q9 := q) hv0 (by show 0 ≤ 18000; omega) t1 zz
  have ttwo : ∀ (q : Int32) (t1 t2 : Tsk) (N' : Nat) (b' : Nat → Int32), VecT N' b' (flT [t1]) → ∃ N2 b2 c s, F_Mo_task (nI t2.1) (nI t2.2.1) (nI t2.2.2.1) (nI t2.2.2.2.1) (nI t2.2.2.2.2) q1 q2 q3 q4 q5 q6 q7 q8 q (0 + 1 + 1 + 1 + 1 + 1) N' b' = some ((N2, b2), c, s) ∧ VecT N2 b2 (flT [t1, t2]) ∧ Grow N' N2 c s ∧ (0 : Int32) + 1 + 1 + 1 + 1 + 1 + 1 + 1 + 1 + 1 + 1 = nI (5 * [t1, t2].length) := fun q t1 t2 N' b' hv' => Mo_task (q1 := q1) (q2 := q2) (q3 := q3) (q4 := q4) (q5 := q5) (q6 := q6) (q7 := q7) (q8 := q8) (q9 := q) (L := [t1]) hv' (by show 1 ≤ 18000; omega) t2 rfl
  have tthr : ∀ (q : Int32) (t1 t2 t3 : Tsk) (N' : Nat) (b' : Nat → Int32), VecT N' b' (flT [t1, t2]) → ∃ N2 b2 c s, F_Mo_task (nI t3.1) (nI t3.2.1) (nI t3.2.2.1) (nI t3.2.2.2.1) (nI t3.2.2.2.2) q1 q2 q3 q4 q5 q6 q7 q8 q (0 + 1 + 1 + 1 + 1 + 1 + 1 + 1 + 1 + 1 + 1) N' b' = some ((N2, b2), c, s) ∧ VecT N2 b2 (flT [t1, t2, t3]) ∧ Grow N' N2 c s ∧ (0 : Int32) + 1 + 1 + 1 + 1 + 1 + 1 + 1 + 1 + 1 + 1 + 1 + 1 + 1 + 1 + 1 = nI (5 * [t1, t2, t3].length) := fun q t1 t2 t3 N' b' hv' => Mo_task (q1 := q1) (q2 := q2) (q3 := q3) (q4 := q4) (q5 := q5) (q6 := q6) (q7 := q7) (q8 := q8) (q9 := q) (L := [t1, t2]) hv' (by show 2 ≤ 18000; omega) t3 rfl
  have ec1 : nI c + 1 = nI (c + 1) := nI_add' c 1
  have ea1 : nI a + 1 = nI (a + 1) := nI_add' a 1
  unfold F_Mo_buildExpression_203
  simp only [e4, e7, e9, e8, l9]
  rcases x with ⟨h1, h2, h3⟩ | ⟨x1, x2, x3, r', l, x4, x, x5⟩ | ⟨x1, x0, x2, r', l, x3, x, x4⟩ | ⟨x1, x2, x3, r1, t1, t2, x4, x, y, x5⟩ | ⟨x1, x2, r1, r2, t1, t2, x3, x4, x, y, x5⟩ | ⟨x1, x3, m1, x2, r1, r2, r3, t1, t2, t3, x4, x5, x6, x, y, w, x7⟩
  · -- an item
    rw [if_neg (by omega), if_neg (by omega), if_pos (by omega), if_neg (by omega)]
    obtain ⟨C', f', lab, l, Ts, N', b', cc, ss, c1, s1, c2, s2, e1, g1, g2, g3, g4, g5, g6, g7, g8⟩ := Mo_item hT hk hp6 (q1 := q1) (q2 := q2) (q3 := q3) (q4 := q4) (q5 := q5) (q6 := q6) (q7 := q7) (q8 := q8) (q9 := q9) (q0 := q0) (z6 := z6) h hp hz hb h3 hv
    refine ⟨C', f', lab, l, Ts, N', b', q9, cc + 0, ss + 0, c1, s1, c2, s2, bw_ok e1 rfl, by omega, by omega, g3, g4, g5, g6, g7, Or.inl ⟨h1, g8⟩⟩
  · -- a mark behind
    rw [if_neg (by omega), if_neg (by omega), if_pos (by omega), if_pos (by omega)]
    obtain ⟨C', f', c1, s1, e1, g1, g2⟩ := Mo_leaf hT hp6 (q1 := q1) (q2 := q2) (q3 := q3) (q4 := q4) (q5 := q5) (q6 := q6) (q7 := q7) (q8 := q8) (q9 := q9) (z6 := z6) (k := 38) (i := c) h hp hz (by omega) (T.twd c)
    obtain ⟨N', b', c2, s2, e2, v2, gr, z2⟩ := tone q9 (1, Tr.sz G, a, c, 9)
    refine ⟨C', f', T.lb 38 c, l, [(1, Tr.sz G, a, c, 9)], N', b', q9, _, _, c1, s1, c2 + 0, s2 + 0, bw_ok e1 (bw_ok e2 ?_), rfl, rfl, x5, g1, g2, v2, gr.trans Grow.rfl, Or.inr (Or.inl ⟨x1, x2, x3, rfl, rfl, r', x4, x⟩)⟩
    dsimp only
    rw [z2]
  · -- a sign
    rw [if_neg (by omega), if_pos (by omega), ea1]
    obtain ⟨C', f', c1, s1, e1, g1, g2⟩ := Mo_leaf hT hp6 (q1 := q1) (q2 := q2) (q3 := q3) (q4 := q4) (q5 := q5) (q6 := q6) (q7 := q7) (q8 := q8) (q9 := q9) (z6 := z6) (k := 39) (i := a) h hp hz (by omega) (T.twd a)
    obtain ⟨N', b', c2, s2, e2, v2, gr, z2⟩ := tone q9 (1, Tr.sz G, a + 1, b, 7)
    refine ⟨C', f', T.lb 39 a, l, [(1, Tr.sz G, a + 1, b, 7)], N', b', q9, _, _, c1, s1, c2 + 0, s2 + 0, bw_ok e1 (bw_ok e2 ?_), rfl, rfl, x4, g1, g2, v2, gr.trans Grow.rfl, Or.inr (Or.inr (Or.inl ⟨x1, x0, x2, rfl, rfl, r', x3, x⟩))⟩
    dsimp only
    rw [z2]
  · -- an operator
    have hr8 := rk_le (T.tkd c)
    have hr7 := rk_not7 (T.tkd c)
    have hxl := x.lt
    obtain ⟨r2, hy, hn⟩ : ∃ r2, VV T 0 r2 (c + 1) b t2 ∧ (ndT T r t2 ≤ r2 ∨ (ndT T r t2 = 9 ∧ r2 = 7)) := by
      unfold ndT
      rcases y with ⟨r2, h2, y⟩ | ⟨h8, h40, r3, l, h9, y, h5⟩
      · refine ⟨r2, y, Or.inl ?_⟩
        by_cases c8 : r = 8
        · rw [if_pos c8]
          by_cases c7 : tgT T t2 = true
          · rw [if_pos c7]; omega
          · rw [if_neg c7]; omega
        · rw [if_neg c8]; omega
      · rw [if_pos h8]
        refine ⟨7, by rw [h5]; exact VV.sign (Or.inl h40) (by omega) y, ?_⟩
        by_cases c7 : tgT T t2 = true
        · rw [if_pos c7]; exact Or.inl (Nat.le_refl _)
        · rw [if_neg c7]; exact Or.inr ⟨rfl, rfl⟩
    have hyl := hy.lt
    rw [if_neg (by omega), if_neg (by omega), if_neg (by omega)]
    obtain ⟨C', f', c1, s1, e1, g1, g2⟩ := Mo_leaf hT hp6 (q1 := q1) (q2 := q2) (q3 := q3) (q4 := q4) (q5 := q5) (q6 := q6) (q7 := q7) (q8 := q8) (q9 := q9) (z6 := z6) (k := 40) (i := c) h hp hz (by omega) (T.twd c)
    obtain ⟨N', b', c2, s2, e2, v2, gr, z2⟩ := tone q9 (1, Tr.sz G, a, c, r)
    have fin : ∀ (q : Int32) (nd : Nat), nd = ndT T r t2 → ∃ (C' : NC) (f' : NFn) (lab : Lb) (l : Tr Lb) (Ts : List Tsk) (N3 : Nat) (b3 : Nat → Int32) (c3 s3 : Nat), F_Mo_task 1 (nI (Tr.sz G)) (nI (c + 1)) (nI b) (nI nd) q1 q2 q3 q4 q5 q6 q7 q8 q (0 + 1 + 1 + 1 + 1 + 1) N' b' = some ((N3, b3), c3, s3) ∧ VecT N3 b3 (flT [(1, Tr.sz G, a, c, r), (1, Tr.sz G, c + 1, b, ndT T r t2)]) ∧ Grow N' N3 c3 s3 ∧ (0 : Int32) + 1 + 1 + 1 + 1 + 1 + 1 + 1 + 1 + 1 + 1 = nI (5 * [(1, Tr.sz G, a, c, r), (1, Tr.sz G, c + 1, b, ndT T r t2)].length) := by
      intro q nd hnd
      obtain ⟨N3, b3, c3, s3, e3, v3, gr3, z3⟩ := ttwo q (1, Tr.sz G, a, c, r) (1, Tr.sz G, c + 1, b, ndT T r t2) N' b' v2
      exact ⟨C, f, T.lb 40 c, .leaf, [], N3, b3, c3, s3, by rw [hnd]; exact e3, v3, gr3, z3⟩
    have hXF : XF T (Tr.sz G) r a b c (T.lb 40 c) (Tr.app t1 t2) [(1, Tr.sz G, a, c, r), (1, Tr.sz G, c + 1, b, ndT T r t2)] := Or.inr (Or.inr (Or.inr (Or.inl ⟨x1, x2, x3, rfl, r1, t1, r2, t2, x4, x, hy, rfl, hn, rfl⟩)))
    rw [ec1]
    by_cases c8 : r = 8
    · obtain ⟨fd, e4⟩ := Mo_tight hT hk hr (q1 := q1) (q2 := q2) (q3 := q3) (q4 := q4) (q5 := q5) (q6 := q6) (q7 := q7) (q8 := q8) (q9 := q9) (q0 := q0) hy hb
      by_cases c7 : tgT T t2 = true
      · obtain ⟨_, _, _, _, _, N3, b3, c3, s3, e3, v3, gr3, z3⟩ := fin fd 7 (by unfold ndT; rw [if_pos c8, if_pos c7])
        refine ⟨C', f', T.lb 40 c, Tr.app t1 t2, _, N3, b3, fd, _, _, c1, s1, c2 + (c3 + 0), s2 + (s3 + 0), bw_ok e1 (bw_ok e2 ?_), rfl, rfl, x5, g1, g2, v3, gr.trans (gr3.trans Grow.rfl), hXF⟩
        dsimp only
        rw [if_pos c8, e4, Option.bind_some]
        dsimp only
        rw [if_pos c7, if_neg (show ¬ (1 : Int32) = 0 by decide)]
        refine bw_ok e3 ?_
        dsimp only
        rw [z3]
      · obtain ⟨_, _, _, _, _, N3, b3, c3, s3, e3, v3, gr3, z3⟩ := fin fd 9 (by unfold ndT; rw [if_pos c8, if_neg c7])
        refine ⟨C', f', T.lb 40 c, Tr.app t1 t2, _, N3, b3, fd, _, _, c1, s1, c2 + (c3 + 0), s2 + (s3 + 0), bw_ok e1 (bw_ok e2 ?_), rfl, rfl, x5, g1, g2, v3, gr.trans (gr3.trans Grow.rfl), hXF⟩
        dsimp only
        rw [if_pos c8, e4, Option.bind_some]
        dsimp only
        rw [if_neg c7, if_pos rfl, show nI r + 1 = nI 9 from by rw [c8]; rfl]
        refine bw_ok e3 ?_
        dsimp only
        rw [z3]
    · obtain ⟨_, _, _, _, _, N3, b3, c3, s3, e3, v3, gr3, z3⟩ := fin q9 (r + 1) (by unfold ndT; rw [if_neg c8])
      refine ⟨C', f', T.lb 40 c, Tr.app t1 t2, _, N3, b3, q9, _, _, c1, s1, c2 + (c3 + 0), s2 + (s3 + 0), bw_ok e1 (bw_ok e2 ?_), rfl, rfl, x5, g1, g2, v3, gr.trans (gr3.trans Grow.rfl), hXF⟩
      dsimp only
      rw [if_neg c8, show nI r + 1 = nI (r + 1) from nI_add' r 1]
      refine bw_ok e3 ?_
      dsimp only
      rw [z3]
  · -- a colon
    have hxl := x.lt; have hyl := y.lt
    rw [if_pos x1, Mo_col1 hT hk hr (q1 := q1) (q2 := q2) (q3 := q3) (q4 := q4) (q5 := q5) (q6 := q6) (q7 := q7) (q8 := q8) (q9 := q9) (q0 := q0) x x3 (by omega), Option.bind_some, if_neg (show ¬ (0 : Int32) ≤ -1 by decide)]
    obtain ⟨p1, p2⟩ := Mo_place hT hp6 (q1 := q1) (q2 := q2) (q3 := q3) (q4 := q4) (q5 := q5) (q6 := q6) (q7 := q7) (q8 := q8) (q9 := q9) (z6 := z6) (i := c) (by omega)
    obtain ⟨C', f', c1, s1, e1, g1, g2⟩ := Mo_newS (q1 := q1) (q2 := q2) (q3 := q3) (q4 := q4) (q5 := q5) (q6 := q6) (q7 := q7) (q8 := q8) (q9 := q9) h hp hz (41, T.tpl c, -1, T.twd c, nI c)
    obtain ⟨N', b', c2, s2, e2, v2, gr, z2⟩ := tone q9 (1, Tr.sz G, a, c, 5)
    obtain ⟨N3, b3, c3, s3, e3, v3, gr3, z3⟩ := ttwo q9 (1, Tr.sz G, a, c, 5) (1, Tr.sz G, c + 1, b, 5) N' b' v2
    refine ⟨C', f', T.lb 41 c, Tr.app t1 t2, [(1, Tr.sz G, a, c, 5), (1, Tr.sz G, c + 1, b, 5)], N3, b3, q9, _, _, c1, s1, c2 + (c3 + 0), s2 + (s3 + 0), ?_, rfl, rfl, x5, g1, g2, v3, gr.trans (gr3.trans Grow.rfl), Or.inr (Or.inr (Or.inr (Or.inr (Or.inl ⟨x1, x2, rfl, r1, r2, t1, t2, x3, x4, x, y, rfl, rfl⟩))))⟩
    unfold F_Mo_buildExpression_237
    rw [p1, Option.bind_some, if_neg (show ¬ (0 : Int32) ≤ -1 by decide), if_neg (show ¬ (0 : Int32) ≤ -1 by decide), p2]
    unfold F_Mo_buildExpression_267
    refine bw_ok e1 ?_
    dsimp only
    rw [if_neg (show ¬ (0 : Int32) ≤ -1 by decide)]
    unfold F_Mo_buildExpression_290
    refine bw_ok e2 ?_
    dsimp only
    rw [if_pos (show (-1 : Int32) < 0 by decide)]
    unfold F_Mo_buildExpression_313
    rw [ec1]
    refine bw_ok e3 ?_
    dsimp only
    rw [z3]
  · -- two colons
    have hxl := x.lt; have hyl := y.lt; have hwl := w.lt
    have hm0 : (0 : Int32) ≤ nI m1 := by rw [nI_ge0 (by omega)]; trivial
    rw [if_pos x1, Mo_col2 hT hk hr (q1 := q1) (q2 := q2) (q3 := q3) (q4 := q4) (q5 := q5) (q6 := q6) (q7 := q7) (q8 := q8) (q9 := q9) (q0 := q0) x x2 y x5 (by omega), Option.bind_some, if_pos hm0]
    obtain ⟨p1, p2⟩ := Mo_place hT hp6 (q1 := q1) (q2 := q2) (q3 := q3) (q4 := q4) (q5 := q5) (q6 := q6) (q7 := q7) (q8 := q8) (q9 := q9) (z6 := z6) (i := m1) (by omega)
    obtain ⟨p3, p4⟩ := Mo_place hT hp6 (q1 := q1) (q2 := q2) (q3 := q3) (q4 := q4) (q5 := q5) (q6 := q6) (q7 := q7) (q8 := q8) (q9 := q9) (z6 := z6) (i := c) (by omega)
    obtain ⟨C', f', c1, s1, e1, g1, g2⟩ := Mo_newS (q1 := q1) (q2 := q2) (q3 := q3) (q4 := q4) (q5 := q5) (q6 := q6) (q7 := q7) (q8 := q8) (q9 := q9) h hp hz (41, T.tpl m1, T.tpl c, T.twd m1, nI m1)
    obtain ⟨N', b', c2, s2, e2, v2, gr, z2⟩ := tone q9 (1, Tr.sz G, a, m1, 5)
    obtain ⟨N3, b3, c3, s3, e3, v3, gr3, z3⟩ := ttwo q9 (1, Tr.sz G, a, m1, 5) (1, Tr.sz G, m1 + 1, c, 5) N' b' v2
    obtain ⟨N4, b4, c4, s4, e4', v4, gr4, z4⟩ := tthr q9 (1, Tr.sz G, a, m1, 5) (1, Tr.sz G, m1 + 1, c, 5) (1, Tr.sz G, c + 1, b, 5) N3 b3 v3
    refine ⟨C', f', (41, T.tpl m1, T.tpl c, T.twd m1, nI m1), Tr.app t1 (Tr.app t2 t3), [(1, Tr.sz G, a, m1, 5), (1, Tr.sz G, m1 + 1, c, 5), (1, Tr.sz G, c + 1, b, 5)], N4, b4, q9, _, _, c1, s1, c2 + (c3 + (c4 + 0)), s2 + (s3 + (s4 + 0)), ?_, rfl, rfl, x7, g1, g2, v4, gr.trans (gr3.trans (gr4.trans Grow.rfl)), Or.inr (Or.inr (Or.inr (Or.inr (Or.inr ⟨x1, x3, m1, x2, rfl, r1, r2, r3, t1, t2, t3, x4, x5, x6, x, y, w, rfl, rfl⟩))))⟩
    unfold F_Mo_buildExpression_237
    rw [p1, Option.bind_some, if_pos hm0, p3, Option.bind_some, if_pos hm0, p2, p4]
    unfold F_Mo_buildExpression_267
    refine bw_ok e1 ?_
    dsimp only
    rw [if_pos hm0]
    unfold F_Mo_buildExpression_290
    refine bw_ok e2 ?_
    dsimp only
    rw [if_neg (show ¬ nI m1 < 0 by rw [nI_nn (by omega)]; exact id), show nI m1 + 1 = nI (m1 + 1) from nI_add' m1 1]
    refine bw_ok e3 ?_
    dsimp only
    unfold F_Mo_buildExpression_313
    rw [ec1]
    refine bw_ok e4' ?_
    dsimp only
    rw [z4]
end Md
end
