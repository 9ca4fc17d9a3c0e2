section
section Md
variable {T : Tks} {m N5 N6 : Nat} {a5 a6 : Nat → Int32}
variable {q1 q2 q3 q4 q5 q6 q7 q8 q9 q0 z6 z33 : Int32}
variable {C : NC} {f : NFn} {N : Nat} {b0 : Nat → Int32}
/-- the look for an equals sign passes over a piece -/
theorem Mo_sm_pass (hT : TkOK T m) (hk : KdIs m N5 a5 T.tkd) {s e a to p zz : Nat} (hl : Lay T.tkd s e) (hno : ∀ i, Top T.tkd s e i → T.tkd i ≠ 56) (he : e ≤ to) (hto : to ≤ m) : ∀ (n i fu : Nat), e - i ≤ n → s ≤ i → i ≤ e → dp T.tkd s i = 0 → e - i ≤ fu →
    ∃ fu', fu ≤ fu' + (e - i) ∧ F_Mo_buildSimple_139 (nI p) (nI a) (nI to) q1 q2 q3 q4 q5 q6 q7 q8 q9 q0 N5 a5 z6 N6 a6 (nI zz) C.1 f.1 (nI zz) C.2.1 f.2.1 (nI zz) C.2.2.1 f.2.2.1 (nI zz) C.2.2.2.1 f.2.2.2.1 (nI zz) C.2.2.2.2.1 f.2.2.2.2.1 (nI zz) C.2.2.2.2.2.1 f.2.2.2.2.2.1 (nI zz) C.2.2.2.2.2.2.1 f.2.2.2.2.2.2.1 (nI zz) C.2.2.2.2.2.2.2 f.2.2.2.2.2.2.2 z33 N b0 fu (nI i) = F_Mo_buildSimple_139 (nI p) (nI a) (nI to) q1 q2 q3 q4 q5 q6 q7 q8 q9 q0 N5 a5 z6 N6 a6 (nI zz) C.1 f.1 (nI zz) C.2.1 f.2.1 (nI zz) C.2.2.1 f.2.2.1 (nI zz) C.2.2.2.1 f.2.2.2.1 (nI zz) C.2.2.2.2.1 f.2.2.2.2.1 (nI zz) C.2.2.2.2.2.1 f.2.2.2.2.2.1 (nI zz) C.2.2.2.2.2.2.1 f.2.2.2.2.2.2.1 (nI zz) C.2.2.2.2.2.2.2 f.2.2.2.2.2.2.2 z33 N b0 fu' (nI e) := by
  intro n
  induction n with
  | zero =>
    intro i fu h1 h2 h3 h4 h5
    have : i = e := by omega
    subst this
    exact ⟨fu, by omega, rfl⟩
  | succ n ih =>
    intro i fu h1 h2 h3 h4 h5
    have hle := hT.le
    by_cases hie : i = e
    · subst hie
      exact ⟨fu, by omega, rfl⟩
    · obtain ⟨f2, rfl⟩ : ∃ f2, fu = f2 + 1 := ⟨fu - 1, by omega⟩
      have ht : Top T.tkd s e i := ⟨h2, by omega, h4⟩
      have e56 : (a5 (Int32.toNatClampNeg (nI i)) = 56) = (T.tkd i = 56) := Mo_kd hk (by omega) (p := 56) (by omega)
      have e50 : (a5 (Int32.toNatClampNeg (nI i)) = 50) = (T.tkd i = 50) := Mo_kd hk (by omega) (p := 50) (by omega)
      have e52 : (a5 (Int32.toNatClampNeg (nI i)) = 52) = (T.tkd i = 52) := Mo_kd hk (by omega) (p := 52) (by omega)
      rw [F_Mo_buildSimple_139, if_neg (show ¬ nI to ≤ nI i by rw [nI_le' (by omega) (by omega)]; omega), Mo_at hk (by omega), Option.bind_some, Option.bind_some, Option.bind_some]
      simp only [e56, e50, e52]
      rw [if_neg (hno i ht)]
      by_cases o : T.tkd i = 50 ∨ T.tkd i = 52
      · obtain ⟨d, g1, g2, g3, g4⟩ := hl.hop ht o (by omega)
        obtain ⟨fu', w1, w2⟩ := ih (d + 1) f2 (by omega) (by omega) (by omega) g4 (by omega)
        refine ⟨fu', by omega, ?_⟩
        rw [Mo_cl hk g1 (by omega) (by omega), Option.bind_some, show nI d + 1 = nI (d + 1) from nI_add' d 1]
        by_cases o1 : T.tkd i = 50
        · rw [if_pos o1]; exact w2
        · rw [if_neg o1, if_pos (o.resolve_left o1)]; exact w2
      · obtain ⟨fu', w1, w2⟩ := ih (i + 1) f2 (by omega) (by omega) (by omega) (hl.step ht (fun x => o (Or.inl x)) (fun x => o (Or.inr x))) (by omega)
        refine ⟨fu', by omega, ?_⟩
        rw [if_neg (fun x => o (Or.inl x)), if_neg (fun x => o (Or.inr x)), show nI i + 1 = nI (i + 1) from nI_add' i 1]
        exact w2
/-- a statement whose first piece no equals sign follows in brackets: it goes on with the look -/
theorem Mo_sm_in (hT : TkOK T m) (hk : KdIs m N5 a5 T.tkd) {a e to p zz : Nat} (hl : Lay T.tkd a e) (hae : a < e) (hno : ∀ i, Top T.tkd a e i → T.tkd i ≠ 56) (hk56 : T.tkd a = 52 → T.tkd e ≠ 56) (he : e < m) : F_Mo_buildSimple (nI p) (nI a) (nI to) q1 q2 q3 q4 q5 q6 q7 q8 q9 q0 N5 a5 z6 N6 a6 (nI zz) C.1 f.1 (nI zz) C.2.1 f.2.1 (nI zz) C.2.2.1 f.2.2.1 (nI zz) C.2.2.2.1 f.2.2.2.1 (nI zz) C.2.2.2.2.1 f.2.2.2.2.1 (nI zz) C.2.2.2.2.2.1 f.2.2.2.2.2.1 (nI zz) C.2.2.2.2.2.2.1 f.2.2.2.2.2.2.1 (nI zz) C.2.2.2.2.2.2.2 f.2.2.2.2.2.2.2 z33 N b0 = F_Mo_buildSimple_139 (nI p) (nI a) (nI to) q1 q2 q3 q4 q5 q6 q7 q8 q9 q0 N5 a5 z6 N6 a6 (nI zz) C.1 f.1 (nI zz) C.2.1 f.2.1 (nI zz) C.2.2.1 f.2.2.1 (nI zz) C.2.2.2.1 f.2.2.2.1 (nI zz) C.2.2.2.2.1 f.2.2.2.2.1 (nI zz) C.2.2.2.2.2.1 f.2.2.2.2.2.1 (nI zz) C.2.2.2.2.2.2.1 f.2.2.2.2.2.2.1 (nI zz) C.2.2.2.2.2.2.2 f.2.2.2.2.2.2.2 z33 N b0 FU (nI a) := by
  have hle := hT.le
  have e52 : (a5 (Int32.toNatClampNeg (nI a)) = 52) = (T.tkd a = 52) := Mo_kd hk (by omega) (p := 52) (by omega)
  unfold F_Mo_buildSimple
  rw [Mo_at hk (by omega), Option.bind_some]
  simp only [e52]
  by_cases c : T.tkd a = 52
  · obtain ⟨d, g1, g2, g3, g4⟩ := hl.hop (Lay.top hae) (Or.inr c) (by omega)
    have h56 : T.tkd (d + 1) ≠ 56 := by
      by_cases e1 : d + 1 = e
      · rw [e1]; exact hk56 c
      · exact hno (d + 1) ⟨by omega, by omega, g4⟩
    have e56 : (a5 (Int32.toNatClampNeg (nI (d + 1))) = 56) = (T.tkd (d + 1) = 56) := Mo_kd hk (by omega) (p := 56) (by omega)
    rw [if_pos c, Mo_cl hk g1 (by omega) (by omega), Option.bind_some, show nI d + 1 = nI (d + 1) from nI_add' d 1, Mo_at hk (by omega), Option.bind_some]
    simp only [e56]
    rw [if_neg h56]
  · rw [if_neg c]
/-- an expression as a statement -/
theorem Mo_sm3 (hT : TkOK T m) (hk : KdIs m N5 a5 T.tkd) (hp6 : PlIs m N6 a6 T) {G : Tr Lb} {p a b' r : Nat} {l : Tr Lb} {l0 : List Int32} (h : NdS C f G) (hp : Tr.OnP G p) (hz : Tr.sz G ≤ 16400) (hb : b' < m) (x : VV T 0 r a b' l) (h55 : T.tkd b' = 55) (hv : VecT N b0 l0) :
    ∃ (C' : NC) (f' : NFn) (N' : Nat) (b2 : Nat → Int32) (c1 s1 c2 s2 : Nat), F_Mo_buildSimple (nI p) (nI a) (nI b') q1 q2 q3 q4 q5 q6 q7 q8 q9 q0 N5 a5 z6 N6 a6 (nI (Tr.sz G)) C.1 f.1 (nI (Tr.sz G)) C.2.1 f.2.1 (nI (Tr.sz G)) C.2.2.1 f.2.2.1 (nI (Tr.sz G)) C.2.2.2.1 f.2.2.2.1 (nI (Tr.sz G)) C.2.2.2.2.1 f.2.2.2.2.1 (nI (Tr.sz G)) C.2.2.2.2.2.1 f.2.2.2.2.2.1 (nI (Tr.sz G)) C.2.2.2.2.2.2.1 f.2.2.2.2.2.2.1 (nI (Tr.sz G)) C.2.2.2.2.2.2.2 f.2.2.2.2.2.2.2 0 N b0 = some ((nI (Tr.sz G + 1), nI (Tr.sz G + 1), nI (Tr.sz G + 1), nI (Tr.sz G + 1), nI (Tr.sz G + 1), nI (Tr.sz G + 1), nI (Tr.sz G + 1), nI (Tr.sz G + 1), nI (5 * [((1, Tr.sz G, a, b', 1) : Tsk)].length), C'.1, f'.1, C'.2.1, f'.2.1, C'.2.2.1, f'.2.2.1, C'.2.2.2.1, f'.2.2.2.1, C'.2.2.2.2.1, f'.2.2.2.2.1, C'.2.2.2.2.2.1, f'.2.2.2.2.2.1, C'.2.2.2.2.2.2.1, f'.2.2.2.2.2.2.1, C'.2.2.2.2.2.2.2, f'.2.2.2.2.2.2.2, N', b2), c1 + (c2 + 0), s1 + (s2 + 0)) ∧ NdS C' f' (Tr.appAt (Tr.nd (T.lb 20 a) .leaf) G p) ∧ GrowA C C' c1 s1 ∧ VecT N' b2 (flT [(1, Tr.sz G, a, b', 1)]) ∧ Grow N N' c2 s2 := by
  have hle := hT.le
  have hlt := x.lt
  have hv0 : VecT N b0 (flT []) := ⟨hv.1.clear, hv.2⟩
  have hno : ∀ i, Top T.tkd a b' i → T.tkd i ≠ 56 := fun i t => by
    have := x.lay.2.1 i t
    unfold xk at this; omega
  obtain ⟨C', f', c1, s1, e1, g1, g2⟩ := Mo_leaf hT hp6 (q1 := q1) (q2 := q2) (q3 := q3) (q4 := q4) (q5 := q5) (q6 := q6) (q7 := q7) (q8 := q8) (q9 := q9) (z6 := z6) (k := 20) (i := a) h hp hz (by omega) (T.twd a)
  obtain ⟨N', b2, c2, s2, e2, v2, gr, z2⟩ := Mo_task (q1 := q1) (q2 := q2) (q3 := q3) (q4 := q4) (q5 := q5) (q6 := q6) (q7 := q7) (q8 := q8) (q9 := q9) hv0 (by show 0 ≤ 18000; omega) (1, Tr.sz G, a, b', 1) (z := 0) rfl
  refine ⟨C', f', N', b2, c1, s1, c2, s2, ?_, g1, g2, v2, gr⟩
  rw [Mo_sm_in hT hk x.lay.1 hlt hno (fun _ => by omega) hb]
  obtain ⟨fu', w1, w2⟩ := Mo_sm_pass hT hk (q1 := q1) (q2 := q2) (q3 := q3) (q4 := q4) (q5 := q5) (q6 := q6) (q7 := q7) (q8 := q8) (q9 := q9) (q0 := q0) (z6 := z6) (z33 := 0) (C := C) (f := f) (N := N) (b0 := b0) (a := a) (to := b') (p := p) (zz := Tr.sz G) x.lay.1 hno (Nat.le_refl _) (by omega) (b' - a) a FU (by omega) (Nat.le_refl _) (by omega) dp_self (by unfold FU; omega)
  obtain ⟨f2, rfl⟩ : ∃ f2, fu' = f2 + 1 := ⟨fu' - 1, by unfold FU at w1; omega⟩
  rw [w2, F_Mo_buildSimple_139, if_pos (show nI b' ≤ nI b' by rw [nI_le' (by omega) (by omega)]; omega)]
  unfold F_Mo_buildSimple_207
  rw [if_pos rfl]
  refine bw_ok e1 (bw_ok e2 ?_)
  dsimp only
  rw [z2, show nI (Tr.sz G) + 1 = nI (Tr.sz G + 1) from nI_add' _ 1]
  rfl
/-- an expression that is given to a place -/
theorem Mo_sm4 (hT : TkOK T m) (hk : KdIs m N5 a5 T.tkd) (hp6 : PlIs m N6 a6 T) {G : Tr Lb} {p a g b' r1 r2 : Nat} {t1 t2 : Tr Lb} {l0 : List Int32} (h : NdS C f G) (hp : Tr.OnP G p) (hz : Tr.sz G ≤ 16400) (hb : b' < m) (x : VV T 0 r1 a g t1) (ha : T.tkd a = 2) (h56 : T.tkd g = 56) (y : VV T 0 r2 (g + 1) b' t2) (hv : VecT N b0 l0) :
    ∃ (C' : NC) (f' : NFn) (N' : Nat) (b2 : Nat → Int32) (c1 s1 c2 s2 c3 s3 : Nat), F_Mo_buildSimple (nI p) (nI a) (nI b') q1 q2 q3 q4 q5 q6 q7 q8 q9 q0 N5 a5 z6 N6 a6 (nI (Tr.sz G)) C.1 f.1 (nI (Tr.sz G)) C.2.1 f.2.1 (nI (Tr.sz G)) C.2.2.1 f.2.2.1 (nI (Tr.sz G)) C.2.2.2.1 f.2.2.2.1 (nI (Tr.sz G)) C.2.2.2.2.1 f.2.2.2.2.1 (nI (Tr.sz G)) C.2.2.2.2.2.1 f.2.2.2.2.2.1 (nI (Tr.sz G)) C.2.2.2.2.2.2.1 f.2.2.2.2.2.2.1 (nI (Tr.sz G)) C.2.2.2.2.2.2.2 f.2.2.2.2.2.2.2 0 N b0 = some ((nI (Tr.sz G + 1), nI (Tr.sz G + 1), nI (Tr.sz G + 1), nI (Tr.sz G + 1), nI (Tr.sz G + 1), nI (Tr.sz G + 1), nI (Tr.sz G + 1), nI (Tr.sz G + 1), nI (5 * [((1, Tr.sz G, a, g, 1) : Tsk), (1, Tr.sz G, g + 1, b', 1)].length), C'.1, f'.1, C'.2.1, f'.2.1, C'.2.2.1, f'.2.2.1, C'.2.2.2.1, f'.2.2.2.1, C'.2.2.2.2.1, f'.2.2.2.2.1, C'.2.2.2.2.2.1, f'.2.2.2.2.2.1, C'.2.2.2.2.2.2.1, f'.2.2.2.2.2.2.1, C'.2.2.2.2.2.2.2, f'.2.2.2.2.2.2.2, N', b2), c1 + (c2 + (c3 + 0)), s1 + (s2 + (s3 + 0))) ∧ NdS C' f' (Tr.appAt (Tr.nd (21, T.tpl g, T.tpl a, T.twd g, nI g) .leaf) G p) ∧ GrowA C C' c1 s1 ∧ VecT N' b2 (flT [(1, Tr.sz G, a, g, 1), (1, Tr.sz G, g + 1, b', 1)]) ∧ Grow N N' (c2 + c3) (s2 + s3) := by
  have hle := hT.le
  have hlt := x.lt; have hlt2 := y.lt
  have hv0 : VecT N b0 (flT []) := ⟨hv.1.clear, hv.2⟩
  have hno : ∀ i, Top T.tkd a g i → T.tkd i ≠ 56 := fun i t => by
    have := x.lay.2.1 i t
    unfold xk at this; omega
  obtain ⟨p1, p2⟩ := Mo_place hT hp6 (q1 := q1) (q2 := q2) (q3 := q3) (q4 := q4) (q5 := q5) (q6 := q6) (q7 := q7) (q8 := q8) (q9 := q9) (z6 := z6) (i := g) (by omega)
  obtain ⟨p3, p4⟩ := Mo_place hT hp6 (q1 := q1) (q2 := q2) (q3 := q3) (q4 := q4) (q5 := q5) (q6 := q6) (q7 := q7) (q8 := q8) (q9 := q9) (z6 := z6) (i := a) (by omega)
  obtain ⟨C', f', c1, s1, e1, g1, g2⟩ := Mo_newS (q1 := q1) (q2 := q2) (q3 := q3) (q4 := q4) (q5 := q5) (q6 := q6) (q7 := q7) (q8 := q8) (q9 := q9) h hp hz (21, T.tpl g, T.tpl a, T.twd g, nI g)
  obtain ⟨N1, b1, c2, s2, e2, v2, gr, z2⟩ := Mo_task (q1 := q1) (q2 := q2) (q3 := q3) (q4 := q4) (q5 := q5) (q6 := q6) (q7 := q7) (q8 := q8) (q9 := q9) hv0 (by show 0 ≤ 18000; omega) (1, Tr.sz G, a, g, 1) (z := 0) rfl
  obtain ⟨N2, b2, c3, s3, e3, v3, gr3, z3⟩ := Mo_task (q1 := q1) (q2 := q2) (q3 := q3) (q4 := q4) (q5 := q5) (q6 := q6) (q7 := q7) (q8 := q8) (q9 := q9) (L := [(1, Tr.sz G, a, g, 1)]) v2 (by show 1 ≤ 18000; omega) (1, Tr.sz G, g + 1, b', 1) z2
  refine ⟨C', f', N2, b2, c1, s1, c2, s2, c3, s3, ?_, g1, g2, v3, gr.trans gr3⟩
  rw [Mo_sm_in hT hk x.lay.1 hlt hno (fun _ => by omega) (by omega)]
  obtain ⟨fu', w1, w2⟩ := Mo_sm_pass hT hk (q1 := q1) (q2 := q2) (q3 := q3) (q4 := q4) (q5 := q5) (q6 := q6) (q7 := q7) (q8 := q8) (q9 := q9) (q0 := q0) (z6 := z6) (z33 := 0) (C := C) (f := f) (N := N) (b0 := b0) (a := a) (to := b') (p := p) (zz := Tr.sz G) x.lay.1 hno (by omega) (by omega) (g - a) a FU (by omega) (Nat.le_refl _) (by omega) dp_self (by unfold FU; omega)
  obtain ⟨f2, rfl⟩ : ∃ f2, fu' = f2 + 1 := ⟨fu' - 1, by unfold FU at w1; omega⟩
  have e56 : (a5 (Int32.toNatClampNeg (nI g)) = 56) = (T.tkd g = 56) := Mo_kd hk (by omega) (p := 56) (by omega)
  rw [w2, F_Mo_buildSimple_139, if_neg (show ¬ nI b' ≤ nI g by rw [nI_le' (by omega) (by omega)]; omega), Mo_at hk (by omega), Option.bind_some]
  simp only [e56]
  rw [if_pos h56]
  unfold F_Mo_buildSimple_207
  rw [if_neg (show ¬ nI g = nI b' by rw [nI_eq' (by omega) (by omega)]; omega), p1, Option.bind_some, p3, Option.bind_some, p2, p4]
  refine bw_ok e1 (bw_ok e2 ?_)
  dsimp only
  rw [show nI g + 1 = nI (g + 1) from nI_add' g 1]
  refine bw_ok e3 ?_
  dsimp only
  rw [z3, show nI (Tr.sz G) + 1 = nI (Tr.sz G + 1) from nI_add' _ 1]
  rfl
end Md
end
