section
section Md
variable {T : Tks} {m N5 N6 : Nat} {a5 a6 : Nat → Int32}
variable {q1 q2 q3 q4 q5 q6 q7 q8 q9 q0 z6 z1 z2 z3 : Int32}
variable {C : NC} {f : NFn}
/-- the look for a semicolon passes over a row -/
theorem Mo_it_pass (hT : TkOK T m) (hk : KdIs m N5 a5 T.tkd) {s e to p : Nat} {z : Int32} {N : Nat} {b : Nat → Int32} (hl : Lay T.tkd s e) (hno : ∀ i, Top T.tkd s e i → T.tkd i ≠ 55) (he : e ≤ to) (hto : to ≤ m) : ∀ (n i fu : Nat), e - i ≤ n → s ≤ i → i ≤ e → dp T.tkd s i = 0 → e - i ≤ fu →
    ∃ fu', fu ≤ fu' + (e - i) ∧ F_Mo_buildItem_36 (nI (to + 1)) q1 q2 q3 q4 q5 q6 q7 q8 q9 q0 N5 a5 (nI p) fu (nI i) (nI s) z N b z1 z2 z3 C.1 f.1 C.2.1 f.2.1 C.2.2.1 f.2.2.1 C.2.2.2.1 f.2.2.2.1 C.2.2.2.2.1 f.2.2.2.2.1 C.2.2.2.2.2.1 f.2.2.2.2.2.1 C.2.2.2.2.2.2.1 f.2.2.2.2.2.2.1 C.2.2.2.2.2.2.2 f.2.2.2.2.2.2.2 = F_Mo_buildItem_36 (nI (to + 1)) q1 q2 q3 q4 q5 q6 q7 q8 q9 q0 N5 a5 (nI p) fu' (nI e) (nI s) z N b z1 z2 z3 C.1 f.1 C.2.1 f.2.1 C.2.2.1 f.2.2.1 C.2.2.2.1 f.2.2.2.1 C.2.2.2.2.1 f.2.2.2.2.1 C.2.2.2.2.2.1 f.2.2.2.2.2.1 C.2.2.2.2.2.2.1 f.2.2.2.2.2.2.1 C.2.2.2.2.2.2.2 f.2.2.2.2.2.2.2 := by
  intro n
  induction n with
  | zero =>
    intro i fu h1 h2 h3 h4 h5
    have : i = e := by omega
    subst this
    exact ⟨fu, by omega, rfl⟩
  | succ n ih =>
    intro i fu h1 h2 h3 h4 h5
    have hle := hT.le
    by_cases hie : i = e
    · subst hie
      exact ⟨fu, by omega, rfl⟩
    · obtain ⟨f2, rfl⟩ : ∃ f2, fu = f2 + 1 := ⟨fu - 1, by omega⟩
      have ht : Top T.tkd s e i := ⟨h2, by omega, h4⟩
      have e55 : (a5 (Int32.toNatClampNeg (nI i)) = 55) = (T.tkd i = 55) := Mo_kd hk (by omega) (p := 55) (by omega)
      have e50 : (a5 (Int32.toNatClampNeg (nI i)) = 50) = (T.tkd i = 50) := Mo_kd hk (by omega) (p := 50) (by omega)
      have e52 : (a5 (Int32.toNatClampNeg (nI i)) = 52) = (T.tkd i = 52) := Mo_kd hk (by omega) (p := 52) (by omega)
      rw [F_Mo_buildItem_36, nI_p1, if_neg (show ¬ nI to ≤ nI i by rw [nI_le' (by omega) (by omega)]; omega), Mo_at hk (by omega), Option.bind_some]
      simp only [e55]
      rw [if_neg (hno i ht)]
      unfold F_Mo_buildItem_76
      rw [Mo_at hk (by omega), Option.bind_some, Option.bind_some]
      simp only [e50, e52]
      by_cases o : T.tkd i = 50 ∨ T.tkd i = 52
      · obtain ⟨d, g1, g2, g3, g4⟩ := hl.hop ht o (by omega)
        obtain ⟨fu', w1, w2⟩ := ih (d + 1) f2 (by omega) (by omega) (by omega) g4 (by omega)
        refine ⟨fu', by omega, ?_⟩
        rw [Mo_cl hk g1 (by omega) (by omega), Option.bind_some, show nI d + 1 = nI (d + 1) from nI_add' d 1]
        by_cases o1 : T.tkd i = 50
        · rw [if_pos o1]; exact w2
        · rw [if_neg o1, if_pos (o.resolve_left o1)]; exact w2
      · obtain ⟨fu', w1, w2⟩ := ih (i + 1) f2 (by omega) (by omega) (by omega) (hl.step ht (fun x => o (Or.inl x)) (fun x => o (Or.inr x))) (by omega)
        refine ⟨fu', by omega, ?_⟩
        rw [if_neg (fun x => o (Or.inl x)), if_neg (fun x => o (Or.inr x)), show nI i + 1 = nI (i + 1) from nI_add' i 1]
        exact w2
def rowT (p : Nat) (L : List Piece) : List Tsk := L.map (fun x => (3, p, x.1, x.2.1, 0))
/-- a task for each row -/
theorem Mo_it36 (hT : TkOK T m) (hk : KdIs m N5 a5 T.tkd) {to p : Nat} (hto : to + 1 ≤ m) : ∀ (L : List Piece) (s : Nat) (A : List Tsk) (N : Nat) (b : Nat → Int32) (fu : Nat), EC (VRow T) T.tkd 55 s L to → to - s < fu → VecT N b (flT A) → A.length + L.length ≤ 18000 →
    ∃ N' b' c sl, F_Mo_buildItem_36 (nI (to + 1)) q1 q2 q3 q4 q5 q6 q7 q8 q9 q0 N5 a5 (nI p) fu (nI s) (nI s) (nI (5 * A.length)) N b z1 z2 z3 C.1 f.1 C.2.1 f.2.1 C.2.2.1 f.2.2.1 C.2.2.2.1 f.2.2.2.1 C.2.2.2.2.1 f.2.2.2.2.1 C.2.2.2.2.2.1 f.2.2.2.2.2.1 C.2.2.2.2.2.2.1 f.2.2.2.2.2.2.1 C.2.2.2.2.2.2.2 f.2.2.2.2.2.2.2 = some ((z1, z2, z3, nI (5 * (A ++ rowT p L).length), C.1, f.1, C.2.1, f.2.1, C.2.2.1, f.2.2.1, C.2.2.2.1, f.2.2.2.1, C.2.2.2.2.1, f.2.2.2.2.1, C.2.2.2.2.2.1, f.2.2.2.2.2.1, C.2.2.2.2.2.2.1, f.2.2.2.2.2.2.1, C.2.2.2.2.2.2.2, f.2.2.2.2.2.2.2, N', b'), c, sl) ∧ VecT N' b' (flT (A ++ rowT p L)) ∧ Grow N N' c sl
  | [], s, A, N, b, fu, h, _, _, _ => h.elim
  | x :: L, s, A, N, b, fu, h, hf, hv, hA => by
    obtain ⟨h1, h2, h3⟩ := h
    obtain ⟨l1, l2, l3⟩ := h2.lay
    have hle := hT.le
    subst h1
    have hA : A.length + (L.length + 1) ≤ 18000 := hA
    have hend : x.2.1 ≤ to := by
      rcases h3 with ⟨_, h5⟩ | ⟨_, h5⟩
      · omega
      · have := EC.le (fun s e t h => (VRow.lay h).2.1) h5; omega
    obtain ⟨fu', w1, w2⟩ := Mo_it_pass hT hk (q1 := q1) (q2 := q2) (q3 := q3) (q4 := q4) (q5 := q5) (q6 := q6) (q7 := q7) (q8 := q8) (q9 := q9) (q0 := q0) (z1 := z1) (z2 := z2) (z3 := z3) (C := C) (f := f) (p := p) (z := nI (5 * A.length)) (N := N) (b := b) l1 l3 hend (by omega) (x.2.1 - x.1) x.1 fu (by omega) (Nat.le_refl _) (by omega) dp_self (by omega)
    obtain ⟨N1, b1, c1, s1, e1, v1, g1, y1⟩ := Mo_task (q1 := q1) (q2 := q2) (q3 := q3) (q4 := q4) (q5 := q5) (q6 := q6) (q7 := q7) (q8 := q8) (q9 := q9) hv (by omega) (3, p, x.1, x.2.1, 0) rfl
    dsimp only at e1
    obtain ⟨f2, rfl⟩ : ∃ f2, fu' = f2 + 1 := ⟨fu' - 1, by omega⟩
    rw [w2, F_Mo_buildItem_36, nI_p1]
    rcases h3 with ⟨h4, h5⟩ | ⟨h4, h5⟩
    · subst h4
      rw [if_pos (show nI to ≤ nI x.2.1 by rw [nI_le' (by omega) (by omega)]; omega), if_neg (show ¬ nI to ≤ nI x.1 by rw [nI_le' (by omega) (by omega)]; omega), ← h5]
      refine ⟨N1, b1, c1 + 0, s1 + 0, ?_, v1, g1.trans Grow.rfl⟩
      refine bw_ok e1 ?_
      dsimp only
      rw [y1]
      rfl
    · have hlt := EC.le (fun s e t h => (VRow.lay h).2.1) h5
      have e55 : (a5 (Int32.toNatClampNeg (nI x.2.1)) = 55) = (T.tkd x.2.1 = 55) := Mo_kd hk (by omega) (p := 55) (by omega)
      have e50 : (a5 (Int32.toNatClampNeg (nI x.2.1)) = 50) = (T.tkd x.2.1 = 50) := Mo_kd hk (by omega) (p := 50) (by omega)
      have e52 : (a5 (Int32.toNatClampNeg (nI x.2.1)) = 52) = (T.tkd x.2.1 = 52) := Mo_kd hk (by omega) (p := 52) (by omega)
      rw [if_neg (show ¬ nI to ≤ nI x.2.1 by rw [nI_le' (by omega) (by omega)]; omega), Mo_at hk (by omega), Option.bind_some]
      simp only [e55]
      rw [if_pos h4]
      have hlA : (A ++ [(3, p, x.1, x.2.1, 0)]).length = A.length + 1 := by rw [List.length_append]; rfl
      obtain ⟨N2, b2, c2, s2, e2, v2, g2⟩ := Mo_it36 hT hk hto L (x.2.1 + 1) (A ++ [(3, p, x.1, x.2.1, 0)]) N1 b1 f2 h5 (by omega) v1 (by rw [hlA]; omega)
      have hAA : A ++ [(3, p, x.1, x.2.1, 0)] ++ rowT p L = A ++ rowT p (x :: L) := by rw [List.append_assoc]; rfl
      rw [hAA] at e2 v2
      refine ⟨N2, b2, c1 + c2, s1 + s2, ?_, v2, g1.trans g2⟩
      refine bw_ok e1 ?_
      dsimp only
      unfold F_Mo_buildItem_76
      rw [Mo_at hk (by omega), Option.bind_some, Option.bind_some]
      simp only [e50, e52]
      rw [if_neg (by omega), if_neg (by omega), y1, show nI x.2.1 + 1 = nI (x.2.1 + 1) from nI_add' _ 1]
      exact e2
/-- an item's node, its parts, and their tasks -/
def SubI (T : Tks) (z a b : Nat) (lab : Lb) (l : Tr Lb) (Ts : List Tsk) : Prop :=
  (b = a + 1 ∧ l = .leaf ∧ Ts = [] ∧ (T.tkd a = 2 ∨ T.tkd a = 3 ∨ T.tkd a = 4 ∨ T.tkd a = 13) ∧ ∃ k : Int32, (k = 30 ∨ k = 31 ∨ k = 32 ∨ k = 35) ∧ lab = T.lb k a)
  ∨ (T.tkd a = 2 ∧ T.tkd (a + 1) = 50 ∧ T.tkd (b - 1) = 51 ∧ a + 3 ≤ b ∧ lab = (33, T.tpl a, T.tpl (a + 1), T.twd a, nI a) ∧ ∃ L, l = joinT L ∧ Ts = exT z L ∧ ((L = [] ∧ b = a + 3) ∨ EC (VEl T (VV T) true) T.tkd 54 (a + 2) L (b - 1)))
  ∨ (T.tkd a = 52 ∧ T.tkd (b - 1) = 53 ∧ a + 2 ≤ b ∧ lab = T.lb 36 a ∧ ∃ L, l = joinT L ∧ Ts = rowT z L ∧ ((L = [] ∧ b = a + 2) ∨ EC (VRow T) T.tkd 55 (a + 1) L (b - 1)))
/-- an item -/
theorem Mo_item (hT : TkOK T m) (hk : KdIs m N5 a5 T.tkd) (hp6 : PlIs m N6 a6 T) {G : Tr Lb} {p a b : Nat} {t : Tr Lb} {N : Nat} {b0 : Nat → Int32} {l0 : List Int32} (h : NdS C f G) (hp : Tr.OnP G p) (hz : Tr.sz G ≤ 16400) (hb : b ≤ m) (x : VIt T a b t) (hv : VecT N b0 l0) :
    ∃ (C' : NC) (f' : NFn) (lab : Lb) (l : Tr Lb) (Ts : List Tsk) (N' : Nat) (b' : Nat → Int32) (c s c1 s1 c2 s2 : Nat), F_Mo_buildItem (nI p) (nI a) (nI b) q1 q2 q3 q4 q5 q6 q7 q8 q9 q0 N5 a5 z6 N6 a6 (nI (Tr.sz G)) C.1 f.1 (nI (Tr.sz G)) C.2.1 f.2.1 (nI (Tr.sz G)) C.2.2.1 f.2.2.1 (nI (Tr.sz G)) C.2.2.2.1 f.2.2.2.1 (nI (Tr.sz G)) C.2.2.2.2.1 f.2.2.2.2.1 (nI (Tr.sz G)) C.2.2.2.2.2.1 f.2.2.2.2.2.1 (nI (Tr.sz G)) C.2.2.2.2.2.2.1 f.2.2.2.2.2.2.1 (nI (Tr.sz G)) C.2.2.2.2.2.2.2 f.2.2.2.2.2.2.2 0 N b0 = some ((nI (Tr.sz G + 1), nI (Tr.sz G + 1), nI (Tr.sz G + 1), nI (5 * Ts.length), C'.1, f'.1, C'.2.1, f'.2.1, C'.2.2.1, f'.2.2.1, C'.2.2.2.1, f'.2.2.2.1, C'.2.2.2.2.1, f'.2.2.2.2.1, C'.2.2.2.2.2.1, f'.2.2.2.2.2.1, C'.2.2.2.2.2.2.1, f'.2.2.2.2.2.2.1, C'.2.2.2.2.2.2.2, f'.2.2.2.2.2.2.2, N', b'), c, s) ∧ c = c1 + c2 ∧ s = s1 + s2 ∧ t = Tr.nd lab l ∧ NdS C' f' (Tr.appAt (Tr.nd lab .leaf) G p) ∧ GrowA C C' c1 s1 ∧ VecT N' b' (flT Ts) ∧ Grow N N' c2 s2 ∧ SubI T (Tr.sz G) a b lab l Ts := by
  have hle := hT.le
  have hv0 : VecT N b0 (flT []) := ⟨hv.1.clear, hv.2⟩
  have hab : a < b := by
    rcases x with ⟨h1, _⟩ | ⟨_, _, b', h1, _, l, _, h2⟩ | ⟨_, b', h1, _, l, _, h2⟩
    · omega
    · rcases h2 with ⟨h2, _⟩ | h2
      · omega
      · have := h2.lt; omega
    · rcases h2 with ⟨h2, _⟩ | h2
      · omega
      · have := h2.lt; omega
  have e52 : (a5 (Int32.toNatClampNeg (nI a)) = 52) = (T.tkd a = 52) := Mo_kd hk (by omega) (p := 52) (by omega)
  have e3 : (a5 (Int32.toNatClampNeg (nI a)) = 3) = (T.tkd a = 3) := Mo_kd hk (by omega) (p := 3) (by omega)
  have e4 : (a5 (Int32.toNatClampNeg (nI a)) = 4) = (T.tkd a = 4) := Mo_kd hk (by omega) (p := 4) (by omega)
  have e13 : (a5 (Int32.toNatClampNeg (nI a)) = 13) = (T.tkd a = 13) := Mo_kd hk (by omega) (p := 13) (by omega)
  have ea1 : nI a + 1 = nI (a + 1) := nI_add' a 1
  unfold F_Mo_buildItem
  rw [Mo_at hk (by omega), Option.bind_some, ea1]
  simp only [e52, e3, e4, e13]
  rcases x with ⟨h1, h2⟩ | ⟨x2, x3, b', x4, x5, l, x6, x⟩ | ⟨x2, b', x3, x4, l, x5, x⟩
  · have hnot : T.tkd a ≠ 52 := by omega
    rw [if_neg hnot, if_pos (show nI b ≤ nI (a + 1) by rw [nI_le' (by omega) (by omega)]; omega)]
    have one : ∀ k : Int32, (k = 30 ∨ k = 31 ∨ k = 32 ∨ k = 35) → (T.tkd a = 2 ∨ T.tkd a = 3 ∨ T.tkd a = 4 ∨ T.tkd a = 13) → t = Tr.nd (T.lb k a) .leaf → ∃ (C' : NC) (f' : NFn) (lab : Lb) (l : Tr Lb) (Ts : List Tsk) (N' : Nat) (b' : Nat → Int32) (c s c1 s1 c2 s2 : Nat), (bw (F_Mo_leafNode (nI p) k (nI a) q1 q2 q3 q4 q5 q6 q7 q8 q9 z6 N6 a6 (nI (Tr.sz G)) C.1 f.1 (nI (Tr.sz G)) C.2.1 f.2.1 (nI (Tr.sz G)) C.2.2.1 f.2.2.1 (nI (Tr.sz G)) C.2.2.2.1 f.2.2.2.1 (nI (Tr.sz G)) C.2.2.2.2.1 f.2.2.2.2.1 (nI (Tr.sz G)) C.2.2.2.2.2.1 f.2.2.2.2.2.1 (nI (Tr.sz G)) C.2.2.2.2.2.2.1 f.2.2.2.2.2.2.1 (nI (Tr.sz G)) C.2.2.2.2.2.2.2 f.2.2.2.2.2.2.2) fun ⟨r35, r36, r37, r38, r39, r40, r41, r42, r43, r44, r45, r46, r47, r48, r49, r50, r51, r52, r53⟩ => some ((r35, r36, r37, (0 : Int32), r38, r39, r40, r41, r42, r43, r44, r45, r46, r47, r48, r49, r50, r51, r52, r53, N, b0), 0, 0)) = some ((nI (Tr.sz G + 1), nI (Tr.sz G + 1), nI (Tr.sz G + 1), nI (5 * Ts.length), C'.1, f'.1, C'.2.1, f'.2.1, C'.2.2.1, f'.2.2.1, C'.2.2.2.1, f'.2.2.2.1, C'.2.2.2.2.1, f'.2.2.2.2.1, C'.2.2.2.2.2.1, f'.2.2.2.2.2.1, C'.2.2.2.2.2.2.1, f'.2.2.2.2.2.2.1, C'.2.2.2.2.2.2.2, f'.2.2.2.2.2.2.2, N', b'), c, s) ∧ c = c1 + c2 ∧ s = s1 + s2 ∧ t = Tr.nd lab l ∧ NdS C' f' (Tr.appAt (Tr.nd lab .leaf) G p) ∧ GrowA C C' c1 s1 ∧ VecT N' b' (flT Ts) ∧ Grow N N' c2 s2 ∧ SubI T (Tr.sz G) a b lab l Ts := by
      intro k hk1 hk2 ht
      obtain ⟨C', f', c, s, e1, g1, g2⟩ := Mo_leaf hT hp6 (q1 := q1) (q2 := q2) (q3 := q3) (q4 := q4) (q5 := q5) (q6 := q6) (q7 := q7) (q8 := q8) (q9 := q9) (z6 := z6) (k := k) (i := a) h hp hz (by omega) (T.twd a)
      exact ⟨C', f', T.lb k a, .leaf, [], N, b0, _, _, c, s, 0, 0, bw_ok e1 rfl, rfl, rfl, ht, g1, g2, hv0, Grow.rfl, Or.inl ⟨h1, rfl, rfl, hk2, k, hk1, rfl⟩⟩
    rcases h2 with ⟨k, h2⟩ | ⟨k, h2⟩ | ⟨k, h2⟩ | ⟨k, h2⟩
    · rw [if_neg (by omega), if_neg (by omega), if_neg (by omega)]
      exact one 32 (Or.inr (Or.inr (Or.inl rfl))) (by omega) h2
    · rw [if_pos k]
      exact one 30 (Or.inl rfl) (by omega) h2
    · rw [if_neg (by omega), if_pos k]
      exact one 31 (Or.inr (Or.inl rfl)) (by omega) h2
    · rw [if_neg (by omega), if_neg (by omega), if_pos k]
      exact one 35 (Or.inr (Or.inr (Or.inr rfl))) (by omega) h2
  · have hbb : a + 2 ≤ b' := by
      rcases x with ⟨h2, _⟩ | h2
      · omega
      · have := h2.lt; omega
    rw [if_neg (by omega), if_neg (show ¬ nI b ≤ nI (a + 1) by rw [nI_le' (by omega) (by omega)]; omega)]
    obtain ⟨p1, p2⟩ := Mo_place hT hp6 (q1 := q1) (q2 := q2) (q3 := q3) (q4 := q4) (q5 := q5) (q6 := q6) (q7 := q7) (q8 := q8) (q9 := q9) (z6 := z6) (i := a) (by omega)
    obtain ⟨p3, p4⟩ := Mo_place hT hp6 (q1 := q1) (q2 := q2) (q3 := q3) (q4 := q4) (q5 := q5) (q6 := q6) (q7 := q7) (q8 := q8) (q9 := q9) (z6 := z6) (i := a + 1) (by omega)
    rw [p1, Option.bind_some, p3, Option.bind_some, p2, p4]
    obtain ⟨C', f', c, s, e1, g1, g2⟩ := Mo_newS (q1 := q1) (q2 := q2) (q3 := q3) (q4 := q4) (q5 := q5) (q6 := q6) (q7 := q7) (q8 := q8) (q9 := q9) h hp hz (33, T.tpl a, T.tpl (a + 1), T.twd a, nI a)
    obtain ⟨L, N', b2, c2, s2, e2, v2, gr2, j2, k2⟩ := Mo_exps hT hk (q1 := q1) (q2 := q2) (q3 := q3) (q4 := q4) (q5 := q5) (q6 := q6) (q7 := q7) (q8 := q8) (q9 := q9) (q0 := q0) (p := Tr.sz G) (a := a + 2) (b := b') (t := l) (md := 1) (by omega) (x.imp id (fun y => ⟨y, Or.inl rfl⟩)) hv
    have eb : nI b - 1 = nI b' := by rw [x4]; exact nI_p1 b'
    have ea2 : nI a + 2 = nI (a + 2) := nI_add' a 2
    refine ⟨C', f', (33, T.tpl a, T.tpl (a + 1), T.twd a, nI a), l, exT (Tr.sz G) L, N', b2, _, _, c, s, c2 + 0, s2 + 0, ?_, rfl, rfl, x6, g1, g2, v2, gr2.trans Grow.rfl, Or.inr (Or.inl ⟨x2, x3, by rw [show b - 1 = b' by omega]; exact x5, by omega, rfl, L, j2, rfl, ?_⟩)⟩
    · rw [eb, ea2]
      exact bw_ok e1 (bw_ok e2 rfl)
    · rcases k2 with ⟨h', h⟩ | h
      · exact Or.inl ⟨h, by omega⟩
      · rw [show b - 1 = b' by omega]; exact Or.inr h
  · rw [if_pos x2]
    obtain ⟨C', f', c, s, e1, g1, g2⟩ := Mo_leaf hT hp6 (q1 := q1) (q2 := q2) (q3 := q3) (q4 := q4) (q5 := q5) (q6 := q6) (q7 := q7) (q8 := q8) (q9 := q9) (z6 := z6) (k := 36) (i := a) h hp hz (by omega) (T.twd a)
    have hx : ∃ L N' b2 c2 s2, F_Mo_buildItem_36 (nI (b' + 1)) q1 q2 q3 q4 q5 q6 q7 q8 q9 q0 N5 a5 (nI (Tr.sz G)) FU (nI (a + 1)) (nI (a + 1)) (0 : Int32) N b0 (nI (Tr.sz G + 1)) (nI (Tr.sz G + 1)) (nI (Tr.sz G + 1)) C'.1 f'.1 C'.2.1 f'.2.1 C'.2.2.1 f'.2.2.1 C'.2.2.2.1 f'.2.2.2.1 C'.2.2.2.2.1 f'.2.2.2.2.1 C'.2.2.2.2.2.1 f'.2.2.2.2.2.1 C'.2.2.2.2.2.2.1 f'.2.2.2.2.2.2.1 C'.2.2.2.2.2.2.2 f'.2.2.2.2.2.2.2 = some ((nI (Tr.sz G + 1), nI (Tr.sz G + 1), nI (Tr.sz G + 1), nI (5 * (rowT (Tr.sz G) L).length), C'.1, f'.1, C'.2.1, f'.2.1, C'.2.2.1, f'.2.2.1, C'.2.2.2.1, f'.2.2.2.1, C'.2.2.2.2.1, f'.2.2.2.2.1, C'.2.2.2.2.2.1, f'.2.2.2.2.2.1, C'.2.2.2.2.2.2.1, f'.2.2.2.2.2.2.1, C'.2.2.2.2.2.2.2, f'.2.2.2.2.2.2.2, N', b2), c2, s2) ∧ VecT N' b2 (flT (rowT (Tr.sz G) L)) ∧ Grow N N' c2 s2 ∧ l = joinT L ∧ ((L = [] ∧ b' = a + 1) ∨ EC (VRow T) T.tkd 55 (a + 1) L b') := by
      rcases x with ⟨h1, h2⟩ | x
      · subst h1 h2
        refine ⟨[], N, b0, 0, 0, ?_, hv0, Grow.rfl, rfl, Or.inl ⟨rfl, rfl⟩⟩
        rw [show FU = 999999 + 1 from rfl, F_Mo_buildItem_36, nI_p1, if_pos (show nI (a + 1) ≤ nI (a + 1) by rw [nI_le' (by omega) (by omega)]; omega), if_pos (show nI (a + 1) ≤ nI (a + 1) by rw [nI_le' (by omega) (by omega)]; omega)]
        rfl
      · obtain ⟨fx, x⟩ := x
        obtain ⟨L, k1, k2⟩ := VV.rows x
        have hlen := EC.le (fun s e t h => (VRow.lay h).2.1) k1
        obtain ⟨N', b2, c2, s2, e, v, g⟩ := Mo_it36 hT hk (q1 := q1) (q2 := q2) (q3 := q3) (q4 := q4) (q5 := q5) (q6 := q6) (q7 := q7) (q8 := q8) (q9 := q9) (q0 := q0) (z1 := nI (Tr.sz G + 1)) (z2 := nI (Tr.sz G + 1)) (z3 := nI (Tr.sz G + 1)) (C := C') (f := f') (p := Tr.sz G) (to := b') (by omega) L (a + 1) [] N b0 FU k1 (by unfold FU; omega) hv0 (by show 0 + L.length ≤ 18000; omega)
        exact ⟨L, N', b2, c2, s2, e, v, g, k2, Or.inr k1⟩
    obtain ⟨L, N', b2, c2, s2, e2, v2, gr2, j2, k2⟩ := hx
    refine ⟨C', f', T.lb 36 a, l, rowT (Tr.sz G) L, N', b2, _, _, c, s, c2, s2, ?_, rfl, rfl, x5, g1, g2, v2, gr2, Or.inr (Or.inr ⟨x2, by rw [show b - 1 = b' by omega]; exact x4, ?_, rfl, L, j2, rfl, ?_⟩)⟩
    · rw [x3]
      exact bw_ok e1 e2
    · rcases k2 with ⟨_, h⟩ | h
      · omega
      · have := EC.le (fun s e t h => (VRow.lay h).2.1) h; omega
    · rcases k2 with ⟨h, h'⟩ | h
      · exact Or.inl ⟨h, by omega⟩
      · rw [show b - 1 = b' by omega]; exact Or.inr h
end Md
end
