section
section G
variable {T : Tks}
/-- statements: none, or a first one and the rest -/
theorem SV.cons {a b : Nat} {t : Tr Lb} (x : SV T 1 a b t) : (b = a ∧ t = .leaf) ∨ ∃ m t1 t2, SV T 0 a m t1 ∧ SV T 1 m b t2 ∧ t = Tr.app t1 t2 := by
  have key : SV T 1 a b t ∧ ((1 : Nat) = 1 → (b = a ∧ t = .leaf) ∨ ∃ m t1 t2, SV T 0 a m t1 ∧ SV T 1 m b t2 ∧ t = Tr.app t1 t2) := by
    refine x (fun md a b t => SV T md a b t ∧ (md = 1 → (b = a ∧ t = .leaf) ∨ ∃ m t1 t2, SV T 0 a m t1 ∧ SV T 1 m b t2 ∧ t = Tr.app t1 t2)) ?_
    intro md a b t y
    refine ⟨SV.mk (SS.mono (fun _ _ _ _ z => z.1) y), fun hmd => ?_⟩
    subst hmd
    rcases y with ⟨h1, h2⟩ | ⟨m, t1, t2, h1, h2, h3⟩
    · exact Or.inl ⟨h1, h2⟩
    · right
      rcases h1.2 rfl with ⟨k1, k2⟩ | ⟨m1, s1, s2, k1, k2, k3⟩
      · subst k1 k2
        exact ⟨b, t2, .leaf, h2.1, SV.nil, by rw [h3, Tr.app_nil]; rfl⟩
      · exact ⟨m1, s1, Tr.app s2 t2, k1, k2.snoc h2.1, by rw [h3, k3, Tr.app_assoc]⟩
  exact key.2 rfl
end G
section Md
variable {T : Tks} {m N5 N6 : Nat} {a5 a6 : Nat → Int32}
variable {n2 : Nat} {b2 : Nat → Int32}
variable {q1 q2 q3 q4 q5 q6 q7 q8 q0 z6 z34 z35 : Int32} {N34 N35 : Nat}
theorem SF.len {z a b : Nat} {t X : Tr Lb} {Ts : List Tsk} {mk mk' : Nat → Nat} (x : SF T z a b t X Ts mk mk') (hb : b < 2 ^ 17) : Ts.length + 1 ≤ b - a := by
  rcases x with ⟨h1, _, _, h2, _⟩ | ⟨b', l, L, k, h1, _, _, _, _, _, h2, h3, _⟩ | ⟨b', r, l, h1, _, _, h2, _, _, h3, _⟩ | ⟨g, b', r1, r2, t1, t2, h1, _, _, _, h2, h3, _, _, h4, _⟩ | ⟨n, l, c, L, _, h0, _, _, _, _, _, _, _, h1, _, _, h2, h3, _⟩ | ⟨d, L, el, l2, _, h1, _, h2, _, _, h3, _⟩ | ⟨c, r, l, e, S, _, _, h1, _, h2, _, h3, _, _, h4, _⟩ | ⟨c, r, l, e, S, _, _, _, _, h1, _, h2, _, h3, _, _, h4, _⟩ | ⟨c, e, S1, S2, _, h1, _, h2, _, h3, _, _, h4, _⟩ | ⟨nm', c, e, R, Q, S, h1, h2, _, h3, _, _, h4, _⟩
  · rw [h2]; show 0 + 1 ≤ _; omega
  · have := EC.le (fun s e t h => (VEl.lay h).2.1) h2
    rw [h3]; unfold exT; rw [List.length_map]; omega
  · have := h2.lt
    rw [h3]; show 1 + 1 ≤ _; omega
  · have := h2.lt; have := h3.lt
    rw [h4]; show 2 + 1 ≤ _; omega
  · rw [h3]; unfold exT; rw [List.length_map]
    rcases h2 with ⟨k1, k2⟩ | k
    · rw [k2]; show 0 + 1 ≤ _; omega
    · have := EC.le (fun s e t h => (VEl.lay h).2.1) k; omega
  · rw [h3, List.length_append, ifT_len]
    rcases h2 with ⟨k1, _, k2, _⟩ | ⟨e, S, k1, _, k2, _, k3, _⟩
    · have := (IfC.le h1 (by omega)).1
      rw [k1]; show _ + 0 + 1 ≤ _; omega
    · have := (k2.sq (by omega)).1
      have := (IfC.le h1 (by omega)).1
      rw [k1]; show _ + 1 + 1 ≤ _; omega
  · have := h1.lt; have := (h2.sq (by omega)).1
    rw [h4]; show 2 + 1 ≤ _; omega
  · have := h1.lt; have := (h2.sq (by omega)).1
    rw [h4]; show 2 + 1 ≤ _; omega
  · have := (h2.sq (by omega)).1; have := (h1.sq (by omega)).1
    rw [h4]; show 2 + 1 ≤ _; omega
  · have := h1.le; have := (h2.sq (by omega)).1
    rw [h4]; show 1 + 1 ≤ _; omega
theorem SF.mkb {G : Tr Lb} {z a b : Nat} {t X : Tr Lb} {Ts : List Tsk} {mk mk' ex : Nat → Nat} (x : SF T z a b t X Ts mk mk') (h : MkB G mk ex) : MkB G mk' ex := by
  have key : mk' = mk ∨ ∃ nm', mk' = fnM T a nm' mk := by
    rcases x with ⟨_, _, _, _, e, _⟩ | ⟨_, _, _, _, _, _, _, _, _, _, _, _, e⟩ | ⟨_, _, _, _, _, _, _, _, _, _, e⟩ | ⟨_, _, _, _, _, _, _, _, _, _, _, _, _, _, _, e⟩ | ⟨_, _, _, _, _, _, _, _, _, _, _, _, _, _, _, _, _, _, e⟩ | ⟨_, _, _, _, _, _, _, _, _, _, _, e⟩ | ⟨_, _, _, _, _, _, _, _, _, _, _, _, _, _, _, e⟩ | ⟨_, _, _, _, _, _, _, _, _, _, _, _, _, _, _, _, _, e⟩ | ⟨_, _, _, _, _, _, _, _, _, _, _, _, _, e⟩ | ⟨nm', _, _, _, _, _, _, _, _, _, _, _, _, e⟩
    all_goals first | exact Or.inl e | exact Or.inr ⟨_, e⟩
  rcases key with e | ⟨nm', e⟩
  · rw [e]; exact h
  · refine ⟨fun i => ?_, h.2⟩
    rw [e]
    unfold fnM
    have := h.1 i
    by_cases c : T.tkd (a + 1) = 52 ∧ nm' = a + 5
    · rw [if_pos c]
      show (if i = a + 1 ∨ i = a + 3 then 1 else mk i) ≤ 2
      split <;> omega
    · rw [if_neg c]; exact this
/-- one turn: statements, of which one at the least is left -/
theorem turn_s (hT : TkOK T m) (hk : KdIs m N5 a5 T.tkd) (hp6 : PlIs m N6 a6 T) {G : Tr Lb} {S : List Tsk} {mk ex : Nat → Nat} {s : BS} {p a m1 b u : Nat} {t : Tr Lb} (hB : BOK m N34 N35 G ((0, p, a, b, u) :: S) mk ex s) (hp : Tr.OnP G p) (hz : Tr.sz G + Tr.sz t ≤ 16390) (x : SV T 0 a m1 t) (hmb : m1 ≤ b) (hb : b ≤ m) (hS : S.length + (b - a) ≤ 17000) :
    ∃ (X : Tr Lb) (Ts : List Tsk) (s' : BS) (mk' : Nat → Nat) (c sl : Nat), SF T (Tr.sz G) a m1 t X Ts mk mk' ∧ BOK m N34 N35 (Tr.appAt X G p) (Ts ++ (0, p, m1, b, 0) :: S) mk' ex s' ∧ BG s s' c sl ∧
      ∀ fu R c' sl', BLp q1 q2 q3 q4 q5 q6 q7 q8 q0 z6 N6 a6 N5 a5 n2 b2 z34 N34 z35 N35 fu (Tr.sz G + Tr.sz X) (Ts.length + 1 + S.length) s' = some (R, c', sl') → BLp q1 q2 q3 q4 q5 q6 q7 q8 q0 z6 N6 a6 N5 a5 n2 b2 z34 N34 z35 N35 (fu + 1) (Tr.sz G) (S.length + 1) s = some (R, c + c', sl + sl') := by
  obtain ⟨C, f, b34, b35, fnd, N33, b33, N32, b32⟩ := s
  obtain ⟨hmb, h1, h2, h3, ⟨l0, h4⟩, h5⟩ := hB
  dsimp only at h1 h2 h3 h4 h5
  have hle := hT.le
  have ham : a + 1 < m1 := ((x.sq (by omega)).2.2.1 rfl).1
  obtain ⟨X, Ts, mk', ⟨C', f', N', b', b34', cc, ss, c1, s1, c2, s2, e1, w1, w2, w4, w5, w6, w7, w8⟩, hSF⟩ := Mo_stm hT hk hp6 (q1 := q1) (q2 := q2) (q3 := q3) (q4 := q4) (q5 := q5) (q6 := q6) (q7 := q7) (q8 := q8) (q9 := fnd) (q0 := q0) (z6 := z6) (z34 := z34) h1 hp h4 h2 x (by omega) hz
  have hTs := hSF.len (by omega)
  have hse := Mo_se hT hk (q1 := q1) (q2 := q2) (q3 := q3) (q4 := q4) (q5 := q5) (q6 := q6) (q7 := q7) (q8 := q8) (q9 := fnd) (q0 := q0) x (by omega)
  obtain ⟨N1, b1, c4, s4, e4, v4, g4, z4⟩ := Mo_task (q1 := q1) (q2 := q2) (q3 := q3) (q4 := q4) (q5 := q5) (q6 := q6) (q7 := q7) (q8 := q8) (q9 := fnd) w6 (by omega) (0, p, m1, b, 0) (z := nI (5 * Ts.length)) (Eq.refl _)
  rw [List.reverse_cons] at h5
  have hst := flT_at (L := S.reverse) (M := []) h5.1
  rw [List.length_reverse] at hst
  obtain ⟨t0, t1, t2, t3, t4⟩ := hst
  dsimp only at t0 t1 t2 t3 t4
  have hsr : VecT N32 b32 (flT S.reverse) := by
    rw [flT_app] at h5
    exact h5.pre
  have hN := h5.1.le
  have hN' := h5.2
  rw [flT_len, List.length_append, List.length_reverse] at hN
  have hN : 5 * (S.length + 1) ≤ N32 := hN
  have hlT : (Ts ++ [((0, p, m1, b, 0) : Tsk)]).length = Ts.length + 1 := by rw [List.length_append]; rfl
  obtain ⟨N2, bs2, c3, s3, e2, v2, g2⟩ := Mo_pushT (q1 := q1) (q2 := q2) (q3 := q3) (q4 := q4) (q5 := q5) (q6 := q6) (q7 := q7) (q8 := q8) (q9 := fnd) (L := Ts ++ [(0, p, m1, b, 0)]) (S := S.reverse) v4.1 (Eq.refl _) hsr (by rw [List.length_reverse, hlT]; omega)
  have hrev : S.reverse ++ (Ts ++ [((0, p, m1, b, 0) : Tsk)]).reverse = (Ts ++ (0, p, m1, b, 0) :: S).reverse := by
    rw [← List.reverse_append, List.append_assoc]; rfl
  rw [hrev] at e2 v2
  have hlen : (Ts ++ ((0, p, m1, b, 0) : Tsk) :: S).reverse.length = Ts.length + 1 + S.length := by
    rw [List.length_reverse, List.length_append, List.length_cons]; omega
  rw [List.length_reverse, hlen] at e2
  refine ⟨X, Ts, (C', f', b34', b35, fnd, N1, b1, N2, bs2), mk', (cc + (c4 + 0)) + c3, (ss + (s4 + 0)) + s3, hSF, ⟨(hSF.mkb hmb).up (by rw [Tr.sz_appAt G p hp]; exact Nat.le_add_right _ _), w4, w8, h3, ⟨_, v4⟩, v2⟩, ⟨c1, s1, c2 + c4, s2 + s4, c3, s3, w5, w7.trans g4, g2, by omega, by omega⟩, ?_⟩
  intro fu R c' sl' hR
  unfold BLp at hR ⊢
  dsimp only at hR ⊢
  have z5 : nI (5 * (S.length + 1)) - 5 = nI (5 * S.length) := by
    rw [show (5 : Int32) = nI 5 from Eq.refl _, nI_sub' (by omega)]; congr 1
  have at' : ∀ j, j < 5 → F_Nm_at (nI (5 * S.length + j)) (nI (5 * (S.length + 1))) N32 b32 = some () := fun j hj => Nm_at (by omega) (by omega)
  have k0 : F_Nm_at (nI (5 * S.length)) (nI (5 * (S.length + 1))) N32 b32 = some () := at' 0 (by omega)
  have k1 : nI (5 * S.length) + 1 = nI (5 * S.length + 1) := nI_add' _ 1
  have k2 : nI (5 * S.length) + 2 = nI (5 * S.length + 2) := nI_add' _ 2
  have k3 : nI (5 * S.length) + 3 = nI (5 * S.length + 3) := nI_add' _ 3
  have k4 : nI (5 * S.length) + 4 = nI (5 * S.length + 4) := nI_add' _ 4
  rw [F_Mo_build_141, if_neg (show ¬ nI (5 * (S.length + 1)) ≤ (0 : Int32) by rw [show (0 : Int32) = nI 0 from Eq.refl _, nI_le' (by omega) (by omega)]; omega), z5, k0, Option.bind_some, k1, at' 1 (by omega), Option.bind_some, k2, at' 2 (by omega), Option.bind_some, k3, at' 3 (by omega), Option.bind_some, k4, at' 4 (by omega), Option.bind_some, nI_clamp' (show 5 * S.length < 2 ^ 31 by omega), nI_clamp' (show 5 * S.length + 1 < 2 ^ 31 by omega), nI_clamp' (show 5 * S.length + 2 < 2 ^ 31 by omega), nI_clamp' (show 5 * S.length + 3 < 2 ^ 31 by omega), t0, t1, t2, t3, if_pos (show nI 0 = (0 : Int32) from Eq.refl _)]
  have hsts : F_Mo_buildStatements (nI p) (nI a) (nI b) q1 q2 q3 q4 q5 q6 q7 q8 fnd q0 N5 a5 z6 N6 a6 (nI (Tr.sz G)) C.1 f.1 (nI (Tr.sz G)) C.2.1 f.2.1 (nI (Tr.sz G)) C.2.2.1 f.2.2.1 (nI (Tr.sz G)) C.2.2.2.1 f.2.2.2.1 (nI (Tr.sz G)) C.2.2.2.2.1 f.2.2.2.2.1 (nI (Tr.sz G)) C.2.2.2.2.2.1 f.2.2.2.2.2.1 (nI (Tr.sz G)) C.2.2.2.2.2.2.1 f.2.2.2.2.2.2.1 (nI (Tr.sz G)) C.2.2.2.2.2.2.2 f.2.2.2.2.2.2.2 0 N33 b33 z34 N34 b34 = some ((nI (Tr.sz G + Tr.sz X), nI (Tr.sz G + Tr.sz X), nI (Tr.sz G + Tr.sz X), nI (Tr.sz G + Tr.sz X), nI (Tr.sz G + Tr.sz X), nI (Tr.sz G + Tr.sz X), nI (Tr.sz G + Tr.sz X), nI (Tr.sz G + Tr.sz X), nI (5 * (Ts ++ [((0, p, m1, b, 0) : Tsk)]).length), b34', C'.1, f'.1, C'.2.1, f'.2.1, C'.2.2.1, f'.2.2.1, C'.2.2.2.1, f'.2.2.2.1, C'.2.2.2.2.1, f'.2.2.2.2.1, C'.2.2.2.2.2.1, f'.2.2.2.2.2.1, C'.2.2.2.2.2.2.1, f'.2.2.2.2.2.2.1, C'.2.2.2.2.2.2.2, f'.2.2.2.2.2.2.2, N1, b1), cc + (c4 + 0), ss + (s4 + 0)) := by
    unfold F_Mo_buildStatements
    rw [if_neg (show ¬ nI a = nI b by rw [nI_eq' (by omega) (by omega)]; omega), hse, Option.bind_some]
    refine bw_ok e1 (bw_ok e4 ?_)
    dsimp only
    rw [z4]
  rw [show cc + (c4 + 0) + c3 + c' = cc + (c4 + 0) + (c3 + c') by omega, show ss + (s4 + 0) + s3 + sl' = ss + (s4 + 0) + (s3 + sl') by omega]
  refine bw_ok hsts (bw_ok e2 ?_)
  dsimp only
  exact hR
end Md
end

section
section Md
variable {T : Tks} {m N5 N6 : Nat} {a5 a6 : Nat → Int32}
variable {n2 : Nat} {b2 : Nat → Int32}
variable {q1 q2 q3 q4 q5 q6 q7 q8 q0 z6 z34 z35 : Int32} {N34 N35 : Nat}
/-- one turn: a block -/
theorem turn_b (hT : TkOK T m) (hp6 : PlIs m N6 a6 T) {G : Tr Lb} {S : List Tsk} {mk ex : Nat → Nat} {s : BS} {p a b u : Nat} (hB : BOK m N34 N35 G ((2, p, a, b, u) :: S) mk ex s) (hp : Tr.OnP G p) (hz : Tr.sz G ≤ 16400) (hu : u < m) (hS : S.length ≤ 17000) :
    ∃ (s' : BS) (c sl : Nat), BOK m N34 N35 (Tr.appAt (Tr.nd (T.blk u) .leaf) G p) ((0, Tr.sz G, a, b, 0) :: S) mk ex s' ∧ BG s s' c sl ∧
      ∀ fu R c' sl', BLp q1 q2 q3 q4 q5 q6 q7 q8 q0 z6 N6 a6 N5 a5 n2 b2 z34 N34 z35 N35 fu (Tr.sz G + 1) (S.length + 1) s' = some (R, c', sl') → BLp q1 q2 q3 q4 q5 q6 q7 q8 q0 z6 N6 a6 N5 a5 n2 b2 z34 N34 z35 N35 (fu + 1) (Tr.sz G) (S.length + 1) s = some (R, c + c', sl + sl') := by
  obtain ⟨C, f, b34, b35, fnd, N33, b33, N32, b32⟩ := s
  obtain ⟨hmb, h1, h2, h3, ⟨l0, h4⟩, h5⟩ := hB
  dsimp only at h1 h2 h3 h4 h5
  have hle := hT.le
  obtain ⟨C', f', N', b', c1, s1, c2, s2, e1, w4, w5, w6, w7, zz⟩ := Mo_block hT hp6 (q1 := q1) (q2 := q2) (q3 := q3) (q4 := q4) (q5 := q5) (q6 := q6) (q7 := q7) (q8 := q8) (q9 := fnd) (z6 := z6) (a := a) (b := b) h1 hp hz hu h4
  rw [List.reverse_cons] at h5
  have hst := flT_at (L := S.reverse) (M := []) h5.1
  rw [List.length_reverse] at hst
  obtain ⟨t0, t1, t2, t3, t4⟩ := hst
  dsimp only at t0 t1 t2 t3 t4
  have hsr : VecT N32 b32 (flT S.reverse) := by
    rw [flT_app] at h5
    exact h5.pre
  have hN := h5.1.le
  have hN' := h5.2
  rw [flT_len, List.length_append, List.length_reverse] at hN
  have hN : 5 * (S.length + 1) ≤ N32 := hN
  obtain ⟨N2, bs2, c3, s3, e2, v2, g2⟩ := Mo_pushT (q1 := q1) (q2 := q2) (q3 := q3) (q4 := q4) (q5 := q5) (q6 := q6) (q7 := q7) (q8 := q8) (q9 := fnd) (L := [(0, Tr.sz G, a, b, 0)]) (S := S.reverse) w6.1 (Eq.refl _) hsr (by rw [List.length_reverse]; show S.length + 1 ≤ 18000; omega)
  have hrev : S.reverse ++ [((0, Tr.sz G, a, b, 0) : Tsk)].reverse = ((0, Tr.sz G, a, b, 0) :: S).reverse := (List.reverse_cons ..).symm
  rw [hrev] at e2 v2
  rw [List.length_reverse, List.length_reverse, List.length_cons] at e2
  refine ⟨(C', f', b34, b35, fnd, N', b', N2, bs2), (c1 + (c2 + 0)) + c3, (s1 + (s2 + 0)) + s3, ⟨hmb.up (by rw [Tr.sz_appAt G p hp]; exact Nat.le_add_right _ _), w4, h2, h3, ⟨_, w6⟩, v2⟩, ⟨c1, s1, c2, s2, c3, s3, w5, w7, g2, by omega, by omega⟩, ?_⟩
  intro fu R c' sl' hR
  unfold BLp at hR ⊢
  dsimp only at hR ⊢
  have z5 : nI (5 * (S.length + 1)) - 5 = nI (5 * S.length) := by
    rw [show (5 : Int32) = nI 5 from Eq.refl _, nI_sub' (by omega)]; congr 1
  have at' : ∀ j, j < 5 → F_Nm_at (nI (5 * S.length + j)) (nI (5 * (S.length + 1))) N32 b32 = some () := fun j hj => Nm_at (by omega) (by omega)
  have k0 : F_Nm_at (nI (5 * S.length)) (nI (5 * (S.length + 1))) N32 b32 = some () := at' 0 (by omega)
  have k1 : nI (5 * S.length) + 1 = nI (5 * S.length + 1) := nI_add' _ 1
  have k2 : nI (5 * S.length) + 2 = nI (5 * S.length + 2) := nI_add' _ 2
  have k3 : nI (5 * S.length) + 3 = nI (5 * S.length + 3) := nI_add' _ 3
  have k4 : nI (5 * S.length) + 4 = nI (5 * S.length + 4) := nI_add' _ 4
  rw [F_Mo_build_141, if_neg (show ¬ nI (5 * (S.length + 1)) ≤ (0 : Int32) by rw [show (0 : Int32) = nI 0 from Eq.refl _, nI_le' (by omega) (by omega)]; omega), z5, k0, Option.bind_some, k1, at' 1 (by omega), Option.bind_some, k2, at' 2 (by omega), Option.bind_some, k3, at' 3 (by omega), Option.bind_some, k4, at' 4 (by omega), Option.bind_some, nI_clamp' (show 5 * S.length < 2 ^ 31 by omega), nI_clamp' (show 5 * S.length + 1 < 2 ^ 31 by omega), nI_clamp' (show 5 * S.length + 2 < 2 ^ 31 by omega), nI_clamp' (show 5 * S.length + 3 < 2 ^ 31 by omega), nI_clamp' (show 5 * S.length + 4 < 2 ^ 31 by omega), t0, t1, t2, t3, t4, if_neg (show ¬ nI 2 = (0 : Int32) by decide), if_neg (show ¬ nI 2 = (1 : Int32) by decide), if_neg (show ¬ nI 2 = (3 : Int32) by decide)]
  rw [show c1 + (c2 + 0) + c3 + c' = c1 + (c2 + 0) + (c3 + c') by omega, show s1 + (s2 + 0) + s3 + sl' = s1 + (s2 + 0) + (s3 + sl') by omega]
  refine bw_ok e1 ?_
  dsimp only
  rw [zz]
  refine bw_ok e2 ?_
  dsimp only
  rw [show nI (Tr.sz G) + 1 = nI (Tr.sz G + 1) from nI_add' _ 1]
  exact hR
end Md
end

section
section Md
variable {m N5 N6 : Nat} {a5 a6 : Nat → Int32}
variable {n2 : Nat} {b2 : Nat → Int32}
variable {q1 q2 q3 q4 q5 q6 q7 q8 q0 z6 z34 z35 : Int32} {N34 N35 : Nat}
/-- one turn: no statement is left -/
theorem turn_e {G : Tr Lb} {S : List Tsk} {mk ex : Nat → Nat} {s : BS} {p a u : Nat} (hB : BOK m N34 N35 G ((0, p, a, a, u) :: S) mk ex s) (hS : S.length ≤ 17000) :
    ∃ (s' : BS) (c sl : Nat), BOK m N34 N35 G S mk ex s' ∧ BG s s' c sl ∧
      ∀ fu R c' sl', BLp q1 q2 q3 q4 q5 q6 q7 q8 q0 z6 N6 a6 N5 a5 n2 b2 z34 N34 z35 N35 fu (Tr.sz G) S.length s' = some (R, c', sl') → BLp q1 q2 q3 q4 q5 q6 q7 q8 q0 z6 N6 a6 N5 a5 n2 b2 z34 N34 z35 N35 (fu + 1) (Tr.sz G) (S.length + 1) s = some (R, c + c', sl + sl') := by
  obtain ⟨C, f, b34, b35, fnd, N33, b33, N32, b32⟩ := s
  obtain ⟨hmb, h1, h2, h3, ⟨l0, h4⟩, h5⟩ := hB
  dsimp only at h1 h2 h3 h4 h5
  have hv0 : VecT N33 b33 (flT []) := ⟨h4.1.clear, h4.2⟩
  rw [List.reverse_cons] at h5
  have hst := flT_at (L := S.reverse) (M := []) h5.1
  rw [List.length_reverse] at hst
  obtain ⟨t0, t1, t2, t3, t4⟩ := hst
  dsimp only at t0 t1 t2 t3 t4
  have hsr : VecT N32 b32 (flT S.reverse) := by
    rw [flT_app] at h5
    exact h5.pre
  have hN := h5.1.le
  have hN' := h5.2
  rw [flT_len, List.length_append, List.length_reverse] at hN
  have hN : 5 * (S.length + 1) ≤ N32 := hN
  obtain ⟨N2, bs2, c3, s3, e2, v2, g2⟩ := Mo_pushT (q1 := q1) (q2 := q2) (q3 := q3) (q4 := q4) (q5 := q5) (q6 := q6) (q7 := q7) (q8 := q8) (q9 := fnd) (L := []) (S := S.reverse) hv0.1 (Eq.refl _) hsr (by rw [List.length_reverse]; show S.length + 0 ≤ 18000; omega)
  have hrev : S.reverse ++ ([] : List Tsk).reverse = S.reverse := List.append_nil _
  rw [hrev] at e2 v2
  rw [List.length_reverse] at e2
  refine ⟨(C, f, b34, b35, fnd, N33, b33, N2, bs2), 0 + c3, 0 + s3, ⟨hmb, h1, h2, h3, ⟨_, hv0⟩, v2⟩, ⟨0, 0, 0, 0, c3, s3, GrowA.rfl, Grow.rfl, g2, by omega, by omega⟩, ?_⟩
  intro fu R c' sl' hR
  unfold BLp at hR ⊢
  dsimp only at hR ⊢
  have z5 : nI (5 * (S.length + 1)) - 5 = nI (5 * S.length) := by
    rw [show (5 : Int32) = nI 5 from Eq.refl _, nI_sub' (by omega)]; congr 1
  have at' : ∀ j, j < 5 → F_Nm_at (nI (5 * S.length + j)) (nI (5 * (S.length + 1))) N32 b32 = some () := fun j hj => Nm_at (by omega) (by omega)
  have k0 : F_Nm_at (nI (5 * S.length)) (nI (5 * (S.length + 1))) N32 b32 = some () := at' 0 (by omega)
  have k1 : nI (5 * S.length) + 1 = nI (5 * S.length + 1) := nI_add' _ 1
  have k2 : nI (5 * S.length) + 2 = nI (5 * S.length + 2) := nI_add' _ 2
  have k3 : nI (5 * S.length) + 3 = nI (5 * S.length + 3) := nI_add' _ 3
  have k4 : nI (5 * S.length) + 4 = nI (5 * S.length + 4) := nI_add' _ 4
  rw [F_Mo_build_141, if_neg (show ¬ nI (5 * (S.length + 1)) ≤ (0 : Int32) by rw [show (0 : Int32) = nI 0 from Eq.refl _, nI_le' (by omega) (by omega)]; omega), z5, k0, Option.bind_some, k1, at' 1 (by omega), Option.bind_some, k2, at' 2 (by omega), Option.bind_some, k3, at' 3 (by omega), Option.bind_some, k4, at' 4 (by omega), Option.bind_some, nI_clamp' (show 5 * S.length < 2 ^ 31 by omega), nI_clamp' (show 5 * S.length + 1 < 2 ^ 31 by omega), nI_clamp' (show 5 * S.length + 2 < 2 ^ 31 by omega), nI_clamp' (show 5 * S.length + 3 < 2 ^ 31 by omega), t0, t1, t2, t3, if_pos (show nI 0 = (0 : Int32) from Eq.refl _)]
  have hsts : F_Mo_buildStatements (nI p) (nI a) (nI a) q1 q2 q3 q4 q5 q6 q7 q8 fnd q0 N5 a5 z6 N6 a6 (nI (Tr.sz G)) C.1 f.1 (nI (Tr.sz G)) C.2.1 f.2.1 (nI (Tr.sz G)) C.2.2.1 f.2.2.1 (nI (Tr.sz G)) C.2.2.2.1 f.2.2.2.1 (nI (Tr.sz G)) C.2.2.2.2.1 f.2.2.2.2.1 (nI (Tr.sz G)) C.2.2.2.2.2.1 f.2.2.2.2.2.1 (nI (Tr.sz G)) C.2.2.2.2.2.2.1 f.2.2.2.2.2.2.1 (nI (Tr.sz G)) C.2.2.2.2.2.2.2 f.2.2.2.2.2.2.2 0 N33 b33 z34 N34 b34 = some ((nI (Tr.sz G), nI (Tr.sz G), nI (Tr.sz G), nI (Tr.sz G), nI (Tr.sz G), nI (Tr.sz G), nI (Tr.sz G), nI (Tr.sz G), nI (5 * ([] : List Tsk).length), b34, C.1, f.1, C.2.1, f.2.1, C.2.2.1, f.2.2.1, C.2.2.2.1, f.2.2.2.1, C.2.2.2.2.1, f.2.2.2.2.1, C.2.2.2.2.2.1, f.2.2.2.2.2.1, C.2.2.2.2.2.2.1, f.2.2.2.2.2.2.1, C.2.2.2.2.2.2.2, f.2.2.2.2.2.2.2, N33, b33), 0, 0) := by
    unfold F_Mo_buildStatements
    rw [if_pos rfl]
    rfl
  rw [show 0 + c3 + c' = 0 + (c3 + c') by omega, show 0 + s3 + sl' = 0 + (s3 + sl') by omega]
  refine bw_ok hsts (bw_ok e2 ?_)
  dsimp only
  exact hR
end Md
end

section
/-- marks that have just been filled -/
theorem MkIs.zero {m N : Nat} {b : Nat → Int32} (h : Vec N b (List.replicate m 0)) (hN : N ≤ 2 ^ 20) : MkIs m N b (fun _ => 0) := by
  have h1 := h.le
  rw [List.length_replicate] at h1
  refine ⟨h1, hN, fun i hi => ?_⟩
  have := h.at' i (by rw [List.length_replicate]; exact hi)
  rw [this, List.getElem_replicate]
  rfl
end

section
/-! lines -/
/-- the text of String i -/
def sW (i : Nat) : List Int32 := (List.range (gB i).length).map (fun k => sch i (nI k))
def indW : Nat → List Int32
  | 0 => []
  | d + 1 => sW 81 ++ indW d
/-- one line, from token p at indent d to token q at indent e, says w -/
def Ln (T : Tks) (tx : Nat → List Int32) (mk ex : Nat → Nat) (p d q e : Nat) (w : List Int32) : Prop :=
  (T.tkd p = 22 ∧ q = p + 1 ∧ e = d + 1 ∧ w = indW d ++ tx p ++ sW 82)
  ∨ ((T.tkd p = 12 ∨ T.tkd p = 23) ∧ q = p + 1 ∧ 0 < d ∧ e = d ∧ w = indW (d - 1) ++ tx p ++ sW 82)
  ∨ (T.tkd p = 13 ∧ q = p + 1 ∧ d = e + 1 ∧ w = indW e ++ tx p ++ sW 82)
  ∨ ((T.tkd p = 10 ∨ T.tkd p = 14 ∨ T.tkd p = 15) ∧ (∃ c, clos T.tkd FU (p + 1) 0 = some c ∧ p + 1 ≤ c ∧ q = c + 1) ∧ e = d + 1 ∧ w = indW d ++ tx p ++ sW 83 ++ Say T tx (p + 1) mk ex (p + 1) q ++ sW 82)
  ∨ (T.tkd p = 11 ∧ (∃ c, clos T.tkd FU (p + 1) 0 = some c ∧ p + 1 ≤ c ∧ q = c + 1) ∧ 0 < d ∧ e = d ∧ w = indW (d - 1) ++ tx p ++ sW 83 ++ Say T tx (p + 1) mk ex (p + 1) q ++ sW 82)
  ∨ ((∃ nm' c R Q, FHd T p nm' c R Q ∧ q = c + 1) ∧ e = d + 1 ∧ w = indW d ++ tx p ++ sW 83 ++ Say T tx (p + 1) mk ex (p + 1) q ++ sW 82)
  ∨ ((T.tkd p = 20 ∨ T.tkd p = 21) ∧ (∃ c, T.tkd c = 55 ∧ p < c ∧ Lay T.tkd p c ∧ (∀ i, Top T.tkd p c i → T.tkd i ≠ 55) ∧ q = c + 1) ∧ e = d ∧ w = indW d ++ tx p ++ sW 83 ++ Say T tx (p + 1) mk ex (p + 1) (q - 1) ++ sW 84)
  ∨ (¬ stB (T.tkd p) ∧ ¬ opb (T.tkd p) ∧ T.tkd p ≠ 20 ∧ T.tkd p ≠ 21 ∧ (∃ c, T.tkd c = 55 ∧ p < c ∧ Lay T.tkd p c ∧ (∀ i, Top T.tkd p c i → T.tkd i ≠ 55) ∧ q = c + 1) ∧ e = d ∧ w = indW d ++ Say T tx p mk ex p (q - 1) ++ sW 84)
/-- n lines -/
def WrP (T : Tks) (tx : Nat → List Int32) (mk ex : Nat → Nat) : Nat → Nat → Nat → Nat → Nat → List Int32 → Prop
  | 0, p, d, q, e, w => p = q ∧ d = e ∧ w = []
  | n + 1, p, d, q, e, w => ∃ p' d' w1 w2, Ln T tx mk ex p d p' d' w1 ∧ p < p' ∧ WrP T tx mk ex n p' d' q e w2 ∧ w = w1 ++ w2
section S
variable {T : Tks} {tx : Nat → List Int32} {mk ex mk' ex' : Nat → Nat}
theorem WrP.app : ∀ {n k p d q e q' e' : Nat} {w w' : List Int32}, WrP T tx mk ex n p d q e w → WrP T tx mk ex k q e q' e' w' → WrP T tx mk ex (n + k) p d q' e' (w ++ w')
  | 0, k, p, d, q, e, q', e', w, w', ⟨h1, h2, h3⟩, g => by subst h1 h2 h3; rw [Nat.zero_add, List.nil_append]; exact g
  | n + 1, k, p, d, q, e, q', e', w, w', ⟨p', d', w1, w2, h1, h2, h3, h4⟩, g => by
    rw [show n + 1 + k = (n + k) + 1 by omega]
    exact ⟨p', d', w1, w2 ++ w', h1, h2, WrP.app h3 g, by rw [h4, List.append_assoc]⟩
theorem WrP.le : ∀ {n p d q e : Nat} {w : List Int32}, WrP T tx mk ex n p d q e w → p + n ≤ q
  | 0, p, d, q, e, w, ⟨h1, _, _⟩ => by omega
  | n + 1, p, d, q, e, w, ⟨p', d', w1, w2, h1, h2, h3, h4⟩ => by have := WrP.le h3; omega
theorem Ln.cg {p d q e : Nat} {w : List Int32} (h : Ln T tx mk ex p d q e w) (hc : ∀ i, p ≤ i → i < q → mk' i = mk i ∧ ex' i = ex i) : Ln T tx mk' ex' p d q e w := by
  have e1 : Say T tx (p + 1) mk' ex' (p + 1) q = Say T tx (p + 1) mk ex (p + 1) q := Say.cg (fun i a b => hc i (by omega) b)
  have e2 : Say T tx (p + 1) mk' ex' (p + 1) (q - 1) = Say T tx (p + 1) mk ex (p + 1) (q - 1) := Say.cg (fun i a b => hc i (by omega) (by omega))
  have e3 : Say T tx p mk' ex' p (q - 1) = Say T tx p mk ex p (q - 1) := Say.cg (fun i a b => hc i a (by omega))
  unfold Ln at h ⊢
  rw [e1, e2, e3]
  exact h
theorem WrP.cg : ∀ {n p d q e : Nat} {w : List Int32}, WrP T tx mk ex n p d q e w → (∀ i, p ≤ i → i < q → mk' i = mk i ∧ ex' i = ex i) → WrP T tx mk' ex' n p d q e w
  | 0, p, d, q, e, w, h, _ => h
  | n + 1, p, d, q, e, w, ⟨p', d', w1, w2, h1, h2, h3, h4⟩, hc => by
    have hle := h3.le
    exact ⟨p', d', w1, w2, h1.cg (fun i a b => hc i a (by omega)), h2, WrP.cg h3 (fun i a b => hc i (by omega) b), h4⟩
end S
end
