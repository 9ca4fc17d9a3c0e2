section
section Md
variable {T : Tks} {m N5 N6 : Nat} {a5 a6 : Nat → Int32}
variable {n2 : Nat} {b2 : Nat → Int32}
variable {q1 q2 q3 q4 q5 q6 q7 q8 q0 z6 z34 z35 : Int32} {N34 N35 : Nat}
/-- one turn: a row -/
theorem turn_r (hT : TkOK T m) (hk : KdIs m N5 a5 T.tkd) (hp6 : PlIs m N6 a6 T) {G : Tr Lb} {S : List Tsk} {mk ex : Nat → Nat} {s : BS} {p a b u : Nat} {l : Tr Lb} (hB : BOK m N34 N35 G ((3, p, a, b, u) :: S) mk ex s) (hp : Tr.OnP G p) (hz : Tr.sz G ≤ 16400) (hb : b ≤ m) (x : VV T 2 0 a b l) (hS : S.length + (b - a) ≤ 17000) :
    ∃ (L : List Piece) (s' : BS) (c sl : Nat), l = joinT L ∧ EC (VEl T (VV T) true) T.tkd 54 a L b ∧ BOK m N34 N35 (Tr.appAt (Tr.nd (T.lb 37 a) .leaf) G p) (exT (Tr.sz G) L ++ S) mk ex s' ∧ BG s s' c sl ∧
      ∀ fu R c' sl', BLp q1 q2 q3 q4 q5 q6 q7 q8 q0 z6 N6 a6 N5 a5 n2 b2 z34 N34 z35 N35 fu (Tr.sz G + 1) ((exT (Tr.sz G) L).length + S.length) s' = some (R, c', sl') → BLp q1 q2 q3 q4 q5 q6 q7 q8 q0 z6 N6 a6 N5 a5 n2 b2 z34 N34 z35 N35 (fu + 1) (Tr.sz G) (S.length + 1) s = some (R, c + c', sl + sl') := by
  obtain ⟨C, f, b34, b35, fnd, N33, b33, N32, b32⟩ := s
  obtain ⟨hmb, h1, h2, h3, ⟨l0, h4⟩, h5⟩ := hB
  dsimp only at h1 h2 h3 h4 h5
  have hle := hT.le
  have hab := x.lt
  obtain ⟨C', f', L, N', b', c1, s1, c2, s2, e1, w4, w5, w6, w7, w8, w9⟩ := Mo_row hT hk hp6 (q1 := q1) (q2 := q2) (q3 := q3) (q4 := q4) (q5 := q5) (q6 := q6) (q7 := q7) (q8 := q8) (q9 := fnd) (q0 := q0) (z6 := z6) h1 hp hz hb x h4
  have hTs : (exT (Tr.sz G) L).length ≤ b - a := by
    have := EC.le (fun s e t h => (VEl.lay h).2.1) w9
    unfold exT; rw [List.length_map]; omega
  rw [List.reverse_cons] at h5
  have hst := flT_at (L := S.reverse) (M := []) h5.1
  rw [List.length_reverse] at hst
  obtain ⟨t0, t1, t2, t3, t4⟩ := hst
  dsimp only at t0 t1 t2 t3 t4
  have hsr : VecT N32 b32 (flT S.reverse) := by
    rw [flT_app] at h5
    exact h5.pre
  have hN := h5.1.le
  have hN' := h5.2
  rw [flT_len, List.length_append, List.length_reverse] at hN
  have hN : 5 * (S.length + 1) ≤ N32 := hN
  obtain ⟨N2, bs2, c3, s3, e2, v2, g2⟩ := Mo_pushT (q1 := q1) (q2 := q2) (q3 := q3) (q4 := q4) (q5 := q5) (q6 := q6) (q7 := q7) (q8 := q8) (q9 := fnd) (L := exT (Tr.sz G) L) (S := S.reverse) w6.1 (Eq.refl _) hsr (by rw [List.length_reverse]; omega)
  have hrev : S.reverse ++ (exT (Tr.sz G) L).reverse = (exT (Tr.sz G) L ++ S).reverse := List.reverse_append.symm
  rw [hrev] at e2 v2
  rw [List.length_reverse, List.length_reverse, List.length_append] at e2
  refine ⟨L, (C', f', b34, b35, fnd, N', b', N2, bs2), (c1 + (c2 + 0)) + c3, (s1 + (s2 + 0)) + s3, w8, w9, ⟨hmb.up (by rw [Tr.sz_appAt G p hp]; exact Nat.le_add_right _ _), w4, h2, h3, ⟨_, w6⟩, v2⟩, ⟨c1, s1, c2, s2, c3, s3, w5, w7, g2, by omega, by omega⟩, ?_⟩
  intro fu R c' sl' hR
  unfold BLp at hR ⊢
  dsimp only at hR ⊢
  have z5 : nI (5 * (S.length + 1)) - 5 = nI (5 * S.length) := by
    rw [show (5 : Int32) = nI 5 from Eq.refl _, nI_sub' (by omega)]; congr 1
  have at' : ∀ j, j < 5 → F_Nm_at (nI (5 * S.length + j)) (nI (5 * (S.length + 1))) N32 b32 = some () := fun j hj => Nm_at (by omega) (by omega)
  have k0 : F_Nm_at (nI (5 * S.length)) (nI (5 * (S.length + 1))) N32 b32 = some () := at' 0 (by omega)
  have k1 : nI (5 * S.length) + 1 = nI (5 * S.length + 1) := nI_add' _ 1
  have k2 : nI (5 * S.length) + 2 = nI (5 * S.length + 2) := nI_add' _ 2
  have k3 : nI (5 * S.length) + 3 = nI (5 * S.length + 3) := nI_add' _ 3
  have k4 : nI (5 * S.length) + 4 = nI (5 * S.length + 4) := nI_add' _ 4
  rw [F_Mo_build_141, if_neg (show ¬ nI (5 * (S.length + 1)) ≤ (0 : Int32) by rw [show (0 : Int32) = nI 0 from Eq.refl _, nI_le' (by omega) (by omega)]; omega), z5, k0, Option.bind_some, k1, at' 1 (by omega), Option.bind_some, k2, at' 2 (by omega), Option.bind_some, k3, at' 3 (by omega), Option.bind_some, k4, at' 4 (by omega), Option.bind_some, nI_clamp' (show 5 * S.length < 2 ^ 31 by omega), nI_clamp' (show 5 * S.length + 1 < 2 ^ 31 by omega), nI_clamp' (show 5 * S.length + 2 < 2 ^ 31 by omega), nI_clamp' (show 5 * S.length + 3 < 2 ^ 31 by omega), nI_clamp' (show 5 * S.length + 4 < 2 ^ 31 by omega), t0, t1, t2, t3, t4, if_neg (show ¬ nI 3 = (0 : Int32) by decide), if_neg (show ¬ nI 3 = (1 : Int32) by decide), if_pos (show nI 3 = (3 : Int32) from Eq.refl _)]
  rw [show c1 + (c2 + 0) + c3 + c' = c1 + (c2 + 0) + (c3 + c') by omega, show s1 + (s2 + 0) + s3 + sl' = s1 + (s2 + 0) + (s3 + sl') by omega]
  refine bw_ok e1 (bw_ok e2 ?_)
  dsimp only
  rw [show nI (Tr.sz G) + 1 = nI (Tr.sz G + 1) from nI_add' _ 1]
  exact hR
end Md
end
