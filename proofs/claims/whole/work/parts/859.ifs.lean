section
/-! branches -/
abbrev Brn : Type := Nat × Nat × Nat × Tr Lb × Tr Lb
/-- branches from token a to d: keyword, condition up to the bracket c, block up to the next -/
def IfC (T : Tks) : Nat → Nat → List Brn → Nat → Prop
  | _, a, [], d => a = d
  | kw, a, x :: L, d => x.1 = a ∧ T.tkd a = kw ∧ T.tkd (a + 1) = 50 ∧ (∃ r, VV T 0 r (a + 2) x.2.1 x.2.2.2.1) ∧ T.tkd x.2.1 = 51 ∧ SV T 1 (x.2.1 + 1) x.2.2.1 x.2.2.2.2 ∧ IfC T 11 x.2.2.1 L d
def ifF (T : Tks) : List Brn → Tr Lb
  | [] => .leaf
  | x :: L => Tr.app x.2.2.2.1 (Tr.app (Tr.nd (T.blk x.2.1) x.2.2.2.2) (ifF T L))
def ifT (z : Nat) : List Brn → List Tsk
  | [] => []
  | x :: L => (1, z, x.1 + 2, x.2.1, 1) :: (2, z, x.2.1 + 1, x.2.2.1, x.2.1) :: ifT z L
theorem ifF_app (T : Tks) : ∀ L M : List Brn, ifF T (L ++ M) = Tr.app (ifF T L) (ifF T M)
  | [], M => rfl
  | x :: L, M => by rw [List.cons_append, ifF, ifF_app T L M, ifF, Tr.app_assoc, Tr.app_assoc]
theorem ifT_len (z : Nat) : ∀ L : List Brn, (ifT z L).length = 2 * L.length
  | [] => rfl
  | x :: L => by rw [ifT, List.length_cons, List.length_cons, ifT_len z L, List.length_cons]; omega
theorem IfC.snoc {T : Tks} {m d : Nat} {x : Brn} (hx : IfC T 11 m [x] d) : ∀ {L : List Brn} {a : Nat}, IfC T 11 a L m → IfC T 11 a (L ++ [x]) d
  | [], a, h => by have h : a = m := h; subst h; exact hx
  | y :: L, a, ⟨h1, h2, h3, h4, h5, h6, h7⟩ => ⟨h1, h2, h3, h4, h5, h6, IfC.snoc hx h7⟩
section G
variable {T : Tks}
theorem SV.ifs {a d : Nat} {l : Tr Lb} (x : SV T 2 a d l) (ha : T.tkd a = 10) : ∃ L, IfC T 10 a L d ∧ L ≠ [] ∧ l = ifF T L := by
  have key : SV T 2 a d l ∧ ((2 : Nat) = 2 → T.tkd a = 10 → ∃ L, IfC T 10 a L d ∧ L ≠ [] ∧ l = ifF T L) := by
    refine x (fun md a b t => SV T md a b t ∧ (md = 2 → T.tkd a = 10 → ∃ L, IfC T 10 a L b ∧ L ≠ [] ∧ t = ifF T L)) ?_
    intro md a b t y
    refine ⟨SV.mk (SS.mono (fun _ _ _ _ z => z.1) y), fun hmd ha => ?_⟩
    subst hmd
    rcases y with ⟨c, r, e, S, h1, h2, h3, h4, h5⟩ | ⟨m, c, r, e, S, l1, h1, h2, h3, h4, h5, h6, h7⟩
    · refine ⟨[(a, c, b, e, S)], ⟨rfl, ha, h1, ⟨r, h2⟩, h3, h4.1, rfl⟩, (by intro h; cases h), ?_⟩
      rw [h5]
      show _ = Tr.app e (Tr.app (Tr.nd (T.blk c) S) .leaf)
      rw [Tr.app_nil]
    · obtain ⟨L, g1, g2, g3⟩ := h1.2 rfl ha
      have hx : IfC T 11 m [(m, c, b, e, S)] b := ⟨rfl, h2, h3, ⟨r, h4⟩, h5, h6.1, rfl⟩
      refine ⟨L ++ [(m, c, b, e, S)], ?_, (by intro h; exact g2 (List.append_eq_nil_iff.mp h).1), ?_⟩
      · match L, g1, g2 with
        | [], _, g2 => exact absurd rfl g2
        | y :: L', ⟨k1, k2, k3, k4, k5, k6, k7⟩, _ => exact ⟨k1, k2, k3, k4, k5, k6, IfC.snoc hx k7⟩
      rw [ifF_app, h7, g3]
      show _ = Tr.app _ (Tr.app e (Tr.app (Tr.nd (T.blk c) S) .leaf))
      rw [Tr.app_nil]
  exact key.2 rfl ha
theorem IfC.le {L : List Brn} : ∀ {kw a d : Nat}, IfC T kw a L d → d < 2 ^ 17 → a + 4 * L.length ≤ d ∧ (∀ x ∈ L, a ≤ x.1 ∧ x.1 + 2 < x.2.1 ∧ x.2.1 + 1 ≤ x.2.2.1 ∧ x.2.2.1 ≤ d) := by
  induction L with
  | nil => intro kw a d h _; have h : a = d := h; exact ⟨by rw [h]; show d + 0 ≤ d; omega, fun x hx => by cases hx⟩
  | cons y L ih =>
    intro kw a d h hd
    obtain ⟨h1, h2, h3, ⟨r, h4⟩, h5, h6, h7⟩ := h
    obtain ⟨g1, g2⟩ := ih h7 hd
    have hl := h4.lt
    have hs := (h6.sq (by omega)).1
    refine ⟨by rw [List.length_cons]; omega, fun x hx => ?_⟩
    rcases List.mem_cons.mp hx with e | e
    · subst e; exact ⟨by omega, by omega, hs, by omega⟩
    · obtain ⟨k1, k2, k3, k4⟩ := g2 x e
      exact ⟨by omega, k2, k3, k4⟩
end G
section Md
variable {T : Tks} {m N5 N6 : Nat} {a5 a6 : Nat → Int32}
variable {q1 q2 q3 q4 q5 q6 q7 q8 q9 q0 z6 : Int32}
/-- one turn: a block -/
theorem Mo_block (hT : TkOK T m) (hp6 : PlIs m N6 a6 T) {C : NC} {f : NFn} {G : Tr Lb} {p a b c : Nat} {N : Nat} {b0 : Nat → Int32} {l0 : List Int32} (h : NdS C f G) (hp : Tr.OnP G p) (hz : Tr.sz G ≤ 16400) (hc : c < m) (hv : VecT N b0 l0) :
    ∃ (C' : NC) (f' : NFn) (N' : Nat) (b' : Nat → Int32) (c1 s1 c2 s2 : Nat), F_Mo_buildBlock (nI p) (nI a) (nI b) (nI c) q1 q2 q3 q4 q5 q6 q7 q8 q9 z6 N6 a6 (nI (Tr.sz G)) C.1 f.1 (nI (Tr.sz G)) C.2.1 f.2.1 (nI (Tr.sz G)) C.2.2.1 f.2.2.1 (nI (Tr.sz G)) C.2.2.2.1 f.2.2.2.1 (nI (Tr.sz G)) C.2.2.2.2.1 f.2.2.2.2.1 (nI (Tr.sz G)) C.2.2.2.2.2.1 f.2.2.2.2.2.1 (nI (Tr.sz G)) C.2.2.2.2.2.2.1 f.2.2.2.2.2.2.1 (nI (Tr.sz G)) C.2.2.2.2.2.2.2 f.2.2.2.2.2.2.2 0 N b0 = some ((nI (Tr.sz G + 1), nI (Tr.sz G + 1), nI (Tr.sz G + 1), C'.1, f'.1, C'.2.1, f'.2.1, C'.2.2.1, f'.2.2.1, C'.2.2.2.1, f'.2.2.2.1, C'.2.2.2.2.1, f'.2.2.2.2.1, C'.2.2.2.2.2.1, f'.2.2.2.2.2.1, C'.2.2.2.2.2.2.1, f'.2.2.2.2.2.2.1, C'.2.2.2.2.2.2.2, f'.2.2.2.2.2.2.2, N', b'), c1 + (c2 + 0), s1 + (s2 + 0)) ∧ NdS C' f' (Tr.appAt (Tr.nd (T.blk c) .leaf) G p) ∧ GrowA C C' c1 s1 ∧ VecT N' b' (flT [(0, Tr.sz G, a, b, 0)]) ∧ Grow N N' c2 s2 ∧ (0 : Int32) + 1 + 1 + 1 + 1 + 1 = nI (5 * [((0, Tr.sz G, a, b, 0) : Tsk)].length) := by
  have hv0 : VecT N b0 (flT []) := ⟨hv.1.clear, hv.2⟩
  obtain ⟨p1, p2⟩ := Mo_place hT hp6 (q1 := q1) (q2 := q2) (q3 := q3) (q4 := q4) (q5 := q5) (q6 := q6) (q7 := q7) (q8 := q8) (q9 := q9) (z6 := z6) hc
  obtain ⟨C', f', c1, s1, e1, g1, g2⟩ := Mo_newS (q1 := q1) (q2 := q2) (q3 := q3) (q4 := q4) (q5 := q5) (q6 := q6) (q7 := q7) (q8 := q8) (q9 := q9) h hp hz (T.blk c)
  obtain ⟨N', b', c2, s2, e2, v2, gr, z2⟩ := Mo_task (q1 := q1) (q2 := q2) (q3 := q3) (q4 := q4) (q5 := q5) (q6 := q6) (q7 := q7) (q8 := q8) (q9 := q9) hv0 (by show 0 ≤ 18000; omega) (0, Tr.sz G, a, b, 0) (z := 0) rfl
  refine ⟨C', f', N', b', c1, s1, c2, s2, ?_, g1, g2, v2, gr, z2⟩
  unfold F_Mo_buildBlock
  rw [p1, Option.bind_some, p2]
  exact bw_ok e1 (bw_ok e2 rfl)
/-- the tasks of the branches -/
theorem Mo_if2 (hT : TkOK T m) (hk : KdIs m N5 a5 T.tkd) {z d : Nat} (hd : d < m) (hsd : stB (T.tkd d)) : ∀ (L : List Brn) (kw a : Nat) (A : List Tsk) (N : Nat) (b : Nat → Int32), (kw = 10 ∨ kw = 11) → IfC T kw a L d → VecT N b (flT A) → A.length + 2 * L.length ≤ 17990 →
    ∃ N' b' c sl, VecT N' b' (flT (A ++ ifT z L)) ∧ Grow N N' c sl ∧ ∀ fu R c' sl', F_Mo_buildIf_2 (nI z) q1 q2 q3 q4 q5 q6 q7 q8 q9 q0 N5 a5 fu (nI d) (nI (5 * (A ++ ifT z L).length)) N' b' = some (R, c', sl') → F_Mo_buildIf_2 (nI z) q1 q2 q3 q4 q5 q6 q7 q8 q9 q0 N5 a5 (fu + L.length) (nI a) (nI (5 * A.length)) N b = some (R, c + c', sl + sl')
  | [], kw, a, A, N, b, hkw, h, hv, hA => by
    have h : a = d := h
    subst h
    refine ⟨N, b, 0, 0, by show VecT N b (flT (A ++ [])); rw [List.append_nil]; exact hv, Grow.rfl, fun fu R c' sl' hh => ?_⟩
    have hh : F_Mo_buildIf_2 (nI z) q1 q2 q3 q4 q5 q6 q7 q8 q9 q0 N5 a5 fu (nI a) (nI (5 * (A ++ []).length)) N b = some (R, c', sl') := hh
    rw [List.append_nil] at hh
    rw [Nat.zero_add, Nat.zero_add]
    exact hh
  | x :: L, kw, a, A, N, b, hkw, h, hv, hA => by
    have hle := hT.le
    obtain ⟨hh1, hh2⟩ := IfC.le h (by omega)
    obtain ⟨_, _, k3, k4⟩ := hh2 x List.mem_cons_self
    obtain ⟨h1, h2, h3, ⟨r, h4⟩, h5, h6, h7⟩ := h
    have hA : A.length + 2 * (L.length + 1) ≤ 17990 := hA
    subst h1
    have hl := h4.lt
    have hcl : clos T.tkd FU (x.1 + 1) 0 = some x.2.1 := Pass.closed (Or.inl h3) (Or.inl h5) h4.pass FU (by unfold FU; omega)
    have hst : stB (T.tkd x.2.2.1) := by
      match L, h7 with
      | [], h7 => have h7 : x.2.2.1 = d := h7; rw [h7]; exact hsd
      | y :: L', h7 =>
        obtain ⟨_, k, _, _, _, _, _⟩ := h7
        unfold stB; omega
    obtain ⟨np, hpt⟩ := (h6.sq (by omega)).2.1 (by omega)
    have hbe := Mo_be hT hk (q1 := q1) (q2 := q2) (q3 := q3) (q4 := q4) (q5 := q5) (q6 := q6) (q7 := q7) (q8 := q8) (q9 := q9) (q0 := q0) hpt (by omega) hst
    obtain ⟨N1, b1, c1, s1, e1, v1, g1, z1⟩ := Mo_task (q1 := q1) (q2 := q2) (q3 := q3) (q4 := q4) (q5 := q5) (q6 := q6) (q7 := q7) (q8 := q8) (q9 := q9) hv (by omega) (1, z, x.1 + 2, x.2.1, 1) rfl
    have hlA : (A ++ [((1, z, x.1 + 2, x.2.1, 1) : Tsk)]).length = A.length + 1 := by rw [List.length_append]; rfl
    obtain ⟨N2, b2, c2, s2, e2, v2, g2, z2⟩ := Mo_task (q1 := q1) (q2 := q2) (q3 := q3) (q4 := q4) (q5 := q5) (q6 := q6) (q7 := q7) (q8 := q8) (q9 := q9) v1 (by omega) (2, z, x.2.1 + 1, x.2.2.1, x.2.1) z1
    have hlB : (A ++ [((1, z, x.1 + 2, x.2.1, 1) : Tsk)] ++ [((2, z, x.2.1 + 1, x.2.2.1, x.2.1) : Tsk)]).length = A.length + 2 := by rw [List.length_append, hlA]; rfl
    obtain ⟨N3, b3, c3, s3, v3, g3, w3⟩ := Mo_if2 hT hk hd hsd L 11 x.2.2.1 _ N2 b2 (Or.inr rfl) h7 v2 (by rw [hlB]; omega)
    have hAA : A ++ [((1, z, x.1 + 2, x.2.1, 1) : Tsk)] ++ [((2, z, x.2.1 + 1, x.2.2.1, x.2.1) : Tsk)] ++ ifT z L = A ++ ifT z (x :: L) := by rw [List.append_assoc, List.append_assoc]; rfl
    rw [hAA] at v3 w3
    refine ⟨N3, b3, c1 + (c2 + c3), s1 + (s2 + s3), v3, g1.trans (g2.trans g3), fun fu R c' sl' hh => ?_⟩
    have w := w3 fu R c' sl' hh
    rw [show fu + (x :: L).length = fu + L.length + 1 from rfl, show c1 + (c2 + c3) + c' = c1 + (c2 + (c3 + c')) by omega, show s1 + (s2 + s3) + sl' = s1 + (s2 + (s3 + sl')) by omega]
    have e10 : (a5 (Int32.toNatClampNeg (nI x.1)) = 10) = (T.tkd x.1 = 10) := Mo_kd hk (by omega) (p := 10) (by omega)
    have e11 : (a5 (Int32.toNatClampNeg (nI x.1)) = 11) = (T.tkd x.1 = 11) := Mo_kd hk (by omega) (p := 11) (by omega)
    have hgo : F_Mo_buildIf_28 (nI z) q1 q2 q3 q4 q5 q6 q7 q8 q9 q0 N5 a5 (nI x.1) (nI (5 * A.length)) N b (F_Mo_buildIf_2 (nI z) q1 q2 q3 q4 q5 q6 q7 q8 q9 q0 N5 a5 (fu + L.length)) = some (R, c1 + (c2 + (c3 + c')), s1 + (s2 + (s3 + sl'))) := by
      unfold F_Mo_buildIf_28
      rw [show nI x.1 + 1 = nI (x.1 + 1) from nI_add' _ 1, Mo_cl hk hcl (by omega) (by omega), Option.bind_some, show nI x.2.1 + 1 = nI (x.2.1 + 1) from nI_add' _ 1, hbe, Option.bind_some, show nI x.1 + 2 = nI (x.1 + 2) from nI_add' _ 2]
      refine bw_ok e1 (bw_ok e2 ?_)
      dsimp only
      rw [z2]
      exact w
    rw [F_Mo_buildIf_2, Mo_at hk (by omega), Option.bind_some, Option.bind_some]
    simp only [e10, e11]
    rcases hkw with k | k
    · rw [if_pos (by omega)]; exact hgo
    · rw [if_neg (by omega), if_pos (by omega)]; exact hgo
/-- the task of a last branch -/
def elT (z : Nat) : Option (Nat × Nat) → List Tsk
  | none => []
  | some (d, e) => [(2, z, d + 1, e, d)]
/-- the tasks of an if -/
theorem Mo_if (hT : TkOK T m) (hk : KdIs m N5 a5 T.tkd) {z a d : Nat} {N : Nat} {b0 : Nat → Int32} {l0 : List Int32} {L : List Brn} {el : Option (Nat × Nat)} (hd : d < m) (hL : IfC T 10 a L d) (hel : (el = none ∧ T.tkd d = 13) ∨ ∃ e S, el = some (d, e) ∧ T.tkd d = 12 ∧ SV T 1 (d + 1) e S ∧ T.tkd e = 13 ∧ e < m) (hv : VecT N b0 l0) :
    ∃ N' b' c s, F_Mo_buildIf (nI z) (nI a) q1 q2 q3 q4 q5 q6 q7 q8 q9 q0 N5 a5 0 N b0 = some ((nI (5 * (ifT z L ++ elT z el).length), N', b'), c, s) ∧ VecT N' b' (flT (ifT z L ++ elT z el)) ∧ Grow N N' c s := by
  have hle := hT.le
  have hv0 : VecT N b0 (flT []) := ⟨hv.1.clear, hv.2⟩
  have hlen := (IfC.le hL (by omega)).1
  have hsd : stB (T.tkd d) := by
    rcases hel with ⟨_, h⟩ | ⟨_, _, _, h, _⟩
    · unfold stB; omega
    · unfold stB; omega
  obtain ⟨N1, b1, c1, s1, v1, g1, w1⟩ := Mo_if2 hT hk (q1 := q1) (q2 := q2) (q3 := q3) (q4 := q4) (q5 := q5) (q6 := q6) (q7 := q7) (q8 := q8) (q9 := q9) (q0 := q0) (z := z) hd hsd L 10 a [] N b0 (Or.inl rfl) hL hv0 (by show 0 + 2 * L.length ≤ 17990; omega)
  rw [List.nil_append] at v1 w1
  have e10 : (a5 (Int32.toNatClampNeg (nI d)) = 10) = (T.tkd d = 10) := Mo_kd hk hd (p := 10) (by omega)
  have e11 : (a5 (Int32.toNatClampNeg (nI d)) = 11) = (T.tkd d = 11) := Mo_kd hk hd (p := 11) (by omega)
  have e12 : (a5 (Int32.toNatClampNeg (nI d)) = 12) = (T.tkd d = 12) := Mo_kd hk hd (p := 12) (by omega)
  have hfu : FU = (FU - L.length - 1 + 1) + L.length := by unfold FU; omega
  unfold F_Mo_buildIf
  rcases hel with ⟨h1, h2⟩ | ⟨e, S, h1, h2, h3, h4, h5⟩
  · subst h1
    have hnil : ifT z L ++ elT z none = ifT z L := List.append_nil _
    rw [hnil]
    have w := w1 (FU - L.length - 1 + 1) (nI (5 * (ifT z L).length), N1, b1) 0 0 (by
      rw [F_Mo_buildIf_2, Mo_at hk hd, Option.bind_some, Option.bind_some, Option.bind_some]
      simp only [e10, e11, e12]
      rw [if_neg (by omega), if_neg (by omega), if_neg (by omega)])
    rw [← hfu] at w
    exact ⟨N1, b1, c1 + 0, s1 + 0, w, v1, g1⟩
  · subst h1
    obtain ⟨_, k2, _, _⟩ := h3.sq (by omega)
    obtain ⟨np, hpt⟩ := k2 (by omega)
    have hbe := Mo_be hT hk (q1 := q1) (q2 := q2) (q3 := q3) (q4 := q4) (q5 := q5) (q6 := q6) (q7 := q7) (q8 := q8) (q9 := q9) (q0 := q0) hpt h5 (by unfold stB; omega)
    have hlT := ifT_len z L
    obtain ⟨N2, b2, c2, s2, e2, v2, g2, z2⟩ := Mo_task (q1 := q1) (q2 := q2) (q3 := q3) (q4 := q4) (q5 := q5) (q6 := q6) (q7 := q7) (q8 := q8) (q9 := q9) v1 (by omega) (2, z, d + 1, e, d) rfl
    have w := w1 (FU - L.length - 1 + 1) (nI (5 * (ifT z L ++ [((2, z, d + 1, e, d) : Tsk)]).length), N2, b2) (c2 + 0) (s2 + 0) (by
      rw [F_Mo_buildIf_2, Mo_at hk hd, Option.bind_some, Option.bind_some, Option.bind_some]
      simp only [e10, e11, e12]
      rw [if_neg (by omega), if_neg (by omega), if_pos h2, show nI d + 1 = nI (d + 1) from nI_add' d 1, hbe, Option.bind_some]
      refine bw_ok e2 ?_
      dsimp only
      rw [z2])
    rw [← hfu] at w
    exact ⟨N2, b2, c1 + (c2 + 0), s1 + (s2 + 0), w, v2, g1.trans (g2.trans Grow.rfl)⟩
end Md
end
