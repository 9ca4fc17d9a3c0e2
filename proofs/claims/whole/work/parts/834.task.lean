section
/-! tasks -/
abbrev Tsk : Type := Nat × Nat × Nat × Nat × Nat
def Tsk.ws (t : Tsk) : List Int32 := [nI t.1, nI t.2.1, nI t.2.2.1, nI t.2.2.2.1, nI t.2.2.2.2]
def flT : List Tsk → List Int32
  | [] => []
  | t :: L => t.ws ++ flT L
theorem flT_len : ∀ L : List Tsk, (flT L).length = 5 * L.length
  | [] => rfl
  | t :: L => by
    rw [flT, List.length_append, flT_len L, List.length_cons]
    show 5 + _ = _
    omega
theorem flT_app : ∀ L M : List Tsk, flT (L ++ M) = flT L ++ flT M
  | [], M => rfl
  | t :: L, M => by
    rw [List.cons_append, flT, flT_app L M, flT, List.append_assoc]
/-- a list of the building, not longer than it needs -/
def VecT (N : Nat) (b : Nat → Int32) (l : List Int32) : Prop := Vec N b l ∧ N ≤ 200000
theorem VecT.add {N : Nat} {b : Nat → Int32} {l : List Int32} (h : VecT N b l) (hl : l.length ≤ 100000) (v : Int32) : ∃ N' a' c s, F_Nm_add v (nI l.length) N b = some ((N', a'), c, s) ∧ VecT N' a' (l ++ [v]) ∧ Grow N N' c s := by
  obtain ⟨N', a', c, s, e, g1, g2, g3⟩ := Nm_add h.1 (by omega) v
  refine ⟨N', a', c, s, e, ⟨g1, ?_⟩, g2⟩
  have := h.2
  rcases g3 with g | ⟨g, g'⟩ <;> omega
section Tk
variable {q1 q2 q3 q4 q5 q6 q7 q8 q9 : Int32}
theorem Mo_task {N : Nat} {b : Nat → Int32} {L : List Tsk} (h : VecT N b (flT L)) (hl : L.length ≤ 18000) (t : Tsk) {z : Int32} (hz : z = nI (5 * L.length)) : ∃ N' b' c s, F_Mo_task (nI t.1) (nI t.2.1) (nI t.2.2.1) (nI t.2.2.2.1) (nI t.2.2.2.2) q1 q2 q3 q4 q5 q6 q7 q8 q9 z N b = some ((N', b'), c, s) ∧ VecT N' b' (flT (L ++ [t])) ∧ Grow N N' c s ∧ z + 1 + 1 + 1 + 1 + 1 = nI (5 * (L ++ [t]).length) := by
  have hlen := flT_len L
  subst hz
  obtain ⟨N1, b1, c1, s1, e1, v1, g1⟩ := h.add (by omega) (nI t.1)
  obtain ⟨N2, b2, c2, s2, e2, v2, g2⟩ := v1.add (by simp only [List.length_append, List.length_cons, List.length_nil]; omega) (nI t.2.1)
  obtain ⟨N3, b3, c3, s3, e3, v3, g3⟩ := v2.add (by simp only [List.length_append, List.length_cons, List.length_nil]; omega) (nI t.2.2.1)
  obtain ⟨N4, b4, c4, s4, e4, v4, g4⟩ := v3.add (by simp only [List.length_append, List.length_cons, List.length_nil]; omega) (nI t.2.2.2.1)
  obtain ⟨N5, b5, c5, s5, e5, v5, g5⟩ := v4.add (by simp only [List.length_append, List.length_cons, List.length_nil]; omega) (nI t.2.2.2.2)
  simp only [List.length_append, List.length_cons, List.length_nil, hlen] at e1 e2 e3 e4 e5
  refine ⟨N5, b5, _, _, ?_, ?_, g1.trans (g2.trans (g3.trans (g4.trans (g5.trans Grow.rfl)))), ?_⟩
  · unfold F_Mo_task
    have z1 : nI (5 * L.length) + 1 = nI (5 * L.length + (0 + 1)) := nI_add' _ 1
    have z2 : nI (5 * L.length + (0 + 1)) + 1 = nI (5 * L.length + (0 + 1) + (0 + 1)) := nI_add' _ 1
    have z3 : nI (5 * L.length + (0 + 1) + (0 + 1)) + 1 = nI (5 * L.length + (0 + 1) + (0 + 1) + (0 + 1)) := nI_add' _ 1
    have z4 : nI (5 * L.length + (0 + 1) + (0 + 1) + (0 + 1)) + 1 = nI (5 * L.length + (0 + 1) + (0 + 1) + (0 + 1) + (0 + 1)) := nI_add' _ 1
    rw [z1, z2, z3, z4]
    exact bw_ok e1 (bw_ok e2 (bw_ok e3 (bw_ok e4 (bw_ok e5 rfl))))
  · have : flT (L ++ [t]) = flT L ++ [nI t.1] ++ [nI t.2.1] ++ [nI t.2.2.1] ++ [nI t.2.2.2.1] ++ [nI t.2.2.2.2] := by
      rw [flT_app]
      show flT L ++ (t.ws ++ []) = _
      simp only [List.append_assoc, List.append_nil]
      rfl
    rw [this]
    exact v5
  · rw [List.length_append, show nI (5 * L.length) + 1 = nI (5 * L.length + 1) from nI_add' _ 1, show nI (5 * L.length + 1) + 1 = nI (5 * L.length + 2) from nI_add' _ 1, show nI (5 * L.length + 2) + 1 = nI (5 * L.length + 3) from nI_add' _ 1, show nI (5 * L.length + 3) + 1 = nI (5 * L.length + 4) from nI_add' _ 1, show nI (5 * L.length + 4) + 1 = nI (5 * L.length + 5) from nI_add' _ 1]
    congr 1
/-- the words of one task -/
theorem flT_at {N : Nat} {b : Nat → Int32} {L M : List Tsk} {t : Tsk} (h : Vec N b (flT (L ++ t :: M))) : b (5 * L.length) = nI t.1 ∧ b (5 * L.length + 1) = nI t.2.1 ∧ b (5 * L.length + 2) = nI t.2.2.1 ∧ b (5 * L.length + 3) = nI t.2.2.2.1 ∧ b (5 * L.length + 4) = nI t.2.2.2.2 := by
  have hl := flT_len L
  have e : flT (L ++ t :: M) = flT L ++ (t.ws ++ flT M) := by rw [flT_app, flT]
  rw [e] at h
  have key : ∀ j (hj : j < 5), b (5 * L.length + j) = [nI t.1, nI t.2.1, nI t.2.2.1, nI t.2.2.2.1, nI t.2.2.2.2][j]'(by simpa using hj) := by
    intro j hj
    have h2 := h.at' (5 * L.length + j) (by rw [List.length_append, List.length_append, hl]; show _ < _ + (5 + _); omega)
    rw [h2, List.getElem_append_right (by rw [hl]; omega), List.getElem_append_left (by rw [hl]; show _ < 5; omega)]
    congr 1
    rw [hl]; omega
  exact ⟨key 0 (by omega), key 1 (by omega), key 2 (by omega), key 3 (by omega), key 4 (by omega)⟩
/-- the tasks go over, the first one on top -/
theorem Mo_push10 {N3 : Nat} {b3 : Nat → Int32} {z3 : Int32} (A : List Tsk) (h3 : Vec N3 b3 (flT A)) (hA : A.length ≤ 18000) : ∀ (L M : List Tsk) (S : List Tsk) (N : Nat) (b : Nat → Int32) (fu : Nat), A = L ++ M → L.length < fu → VecT N b (flT S) → S.length + L.length ≤ 18000 →
    ∃ N' b' c s, F_Mo_pushTasks_10 z3 N3 b3 fu (nI (5 * L.length) - 5) (nI (5 * S.length)) N b = some ((nI (5 * (S ++ L.reverse).length), N', b'), c, s) ∧ VecT N' b' (flT (S ++ L.reverse)) ∧ Grow N N' c s := by
  intro L
  induction hL : L.length generalizing L with
  | zero =>
    intro M S N b fu hE hf hv hs
    have : L = [] := List.length_eq_zero_iff.mp hL
    subst this
    obtain ⟨f2, rfl⟩ : ∃ f2, fu = f2 + 1 := ⟨fu - 1, by omega⟩
    refine ⟨N, b, 0, 0, ?_, by rw [List.reverse_nil, List.append_nil]; exact hv, Grow.rfl⟩
    rw [F_Mo_pushTasks_10, if_pos (show nI (5 * 0) - 5 < 0 by decide), List.reverse_nil, List.append_nil]
  | succ k ih =>
    intro M S N b fu hE hf hv hs
    obtain ⟨L', t, rfl⟩ : ∃ L' t, L = L' ++ [t] := by
      rcases List.eq_nil_or_concat L with h | ⟨L', t, h⟩
      · rw [h] at hL; cases hL
      · exact ⟨L', t, h.trans (List.concat_eq_append)⟩
    have hL' : L'.length = k := by rw [List.length_append] at hL; simp only [List.length_cons, List.length_nil] at hL; omega
    obtain ⟨f2, rfl⟩ : ∃ f2, fu = f2 + 1 := ⟨fu - 1, by omega⟩
    have hE2 : A = L' ++ t :: M := by rw [hE, List.append_assoc]; rfl
    rw [hE2] at h3
    obtain ⟨w0, w1, w2, w3, w4⟩ := flT_at h3
    have h3le := h3.le
    have h3ro := h3.room
    rw [flT_len, List.length_append, List.length_cons] at h3le
    have hSl := flT_len S
    rw [F_Mo_pushTasks_10, show nI (5 * (k + 1)) - 5 = nI (5 * k) from by rw [show (5 : Int32) = nI 5 from rfl, nI_sub' (by omega)]; congr 1, if_neg (show ¬ nI (5 * k) < 0 by rw [nI_nn (by omega)]; exact id)]
    rw [hL'] at w0 w1 w2 w3 w4
    obtain ⟨N1, b1, c1, s1, e1, v1, g1⟩ := hv.add (by omega) (nI t.1)
    obtain ⟨N2, b2, c2, s2, e2, v2, g2⟩ := v1.add (by simp only [List.length_append, List.length_cons, List.length_nil]; omega) (nI t.2.1)
    obtain ⟨N3', b3', c3, s3, e3, v3, g3⟩ := v2.add (by simp only [List.length_append, List.length_cons, List.length_nil]; omega) (nI t.2.2.1)
    obtain ⟨N4, b4, c4, s4, e4, v4, g4⟩ := v3.add (by simp only [List.length_append, List.length_cons, List.length_nil]; omega) (nI t.2.2.2.1)
    obtain ⟨N5, b5, c5, s5, e5, v5, g5⟩ := v4.add (by simp only [List.length_append, List.length_cons, List.length_nil]; omega) (nI t.2.2.2.2)
    simp only [List.length_append, List.length_cons, List.length_nil, hSl] at e1 e2 e3 e4 e5
    have hfl : flT (S ++ [t]) = flT S ++ [nI t.1] ++ [nI t.2.1] ++ [nI t.2.2.1] ++ [nI t.2.2.2.1] ++ [nI t.2.2.2.2] := by
      rw [flT_app]
      show flT S ++ (t.ws ++ []) = _
      simp only [List.append_assoc, List.append_nil]
      rfl
    rw [← hfl] at v5
    obtain ⟨N6, b6, c6, s6, e6, v6, g6⟩ := ih L' hL' (t :: M) (S ++ [t]) N5 b5 f2 hE2 (by omega) v5 (by rw [List.length_append]; simp only [List.length_cons, List.length_nil]; omega)
    refine ⟨N6, b6, c1 + (c2 + (c3 + (c4 + (c5 + c6)))), s1 + (s2 + (s3 + (s4 + (s5 + s6)))), ?_, ?_, g1.trans (g2.trans (g3.trans (g4.trans (g5.trans g6))))⟩
    · have hat : ∀ j, j < 5 → F_Nm_at (nI (5 * k + j)) z3 N3 b3 = some () := fun j hj => Nm_at (by omega) (by omega)
      have fin : S ++ (L' ++ [t]).reverse = (S ++ [t]) ++ L'.reverse := by
        rw [List.reverse_append, List.append_assoc]; rfl
      rw [fin]
      rw [show FU = 999994 + 1 + 1 + 1 + 1 + 1 + 1 from rfl]
      rw [F_Mo_pushTasks_16, if_neg (show ¬ (5 : Int32) ≤ 0 by decide), show nI (5 * k) + 0 = nI (5 * k + 0) from nI_add' _ 0, hat 0 (by omega), Option.bind_some, nI_clamp' (by omega), show b3 (5 * k + 0) = nI t.1 from w0]
      refine bw_ok e1 ?_
      dsimp only
      rw [F_Mo_pushTasks_16, if_neg (show ¬ (5 : Int32) ≤ 0 + 1 by decide), show nI (5 * k) + (0 + 1) = nI (5 * k + 1) from nI_add' _ 1, hat 1 (by omega), Option.bind_some, nI_clamp' (by omega), w1, show nI (5 * S.length) + 1 = nI (5 * S.length + (0 + 1)) from nI_add' _ 1]
      refine bw_ok e2 ?_
      dsimp only
      rw [F_Mo_pushTasks_16, if_neg (show ¬ (5 : Int32) ≤ 0 + 1 + 1 by decide), show nI (5 * k) + (0 + 1 + 1) = nI (5 * k + 2) from nI_add' _ 2, hat 2 (by omega), Option.bind_some, nI_clamp' (by omega), w2, show nI (5 * S.length + (0 + 1)) + 1 = nI (5 * S.length + (0 + 1) + (0 + 1)) from nI_add' _ 1]
      refine bw_ok e3 ?_
      dsimp only
      rw [F_Mo_pushTasks_16, if_neg (show ¬ (5 : Int32) ≤ 0 + 1 + 1 + 1 by decide), show nI (5 * k) + (0 + 1 + 1 + 1) = nI (5 * k + 3) from nI_add' _ 3, hat 3 (by omega), Option.bind_some, nI_clamp' (by omega), w3, show nI (5 * S.length + (0 + 1) + (0 + 1)) + 1 = nI (5 * S.length + (0 + 1) + (0 + 1) + (0 + 1)) from nI_add' _ 1]
      refine bw_ok e4 ?_
      dsimp only
      rw [F_Mo_pushTasks_16, if_neg (show ¬ (5 : Int32) ≤ 0 + 1 + 1 + 1 + 1 by decide), show nI (5 * k) + (0 + 1 + 1 + 1 + 1) = nI (5 * k + 4) from nI_add' _ 4, hat 4 (by omega), Option.bind_some, nI_clamp' (by omega), w4, show nI (5 * S.length + (0 + 1) + (0 + 1) + (0 + 1)) + 1 = nI (5 * S.length + (0 + 1) + (0 + 1) + (0 + 1) + (0 + 1)) from nI_add' _ 1]
      refine bw_ok e5 ?_
      dsimp only
      rw [F_Mo_pushTasks_16, if_pos (show (5 : Int32) ≤ 0 + 1 + 1 + 1 + 1 + 1 by decide)]
      rw [show nI (5 * S.length + (0 + 1) + (0 + 1) + (0 + 1) + (0 + 1)) + 1 = nI (5 * (S ++ [t]).length) from by rw [show nI (5 * S.length + (0 + 1) + (0 + 1) + (0 + 1) + (0 + 1)) + 1 = nI (5 * S.length + (0 + 1) + (0 + 1) + (0 + 1) + (0 + 1) + 1) from nI_add' _ 1]; congr 1; rw [List.length_append]; simp only [List.length_cons, List.length_nil]; omega]
      exact e6
    · have fin : S ++ (L' ++ [t]).reverse = (S ++ [t]) ++ L'.reverse := by
        rw [List.reverse_append, List.append_assoc]; rfl
      rw [fin]
      exact v6
theorem Mo_pushT {N3 N : Nat} {b3 b : Nat → Int32} {L S : List Tsk} {z3 : Int32} (h3 : Vec N3 b3 (flT L)) (hz : z3 = nI (5 * L.length)) (hv : VecT N b (flT S)) (hs : S.length + L.length ≤ 18000) :
    ∃ N' b' c s, F_Mo_pushTasks q1 q2 q3 q4 q5 q6 q7 q8 q9 z3 N3 b3 (nI (5 * S.length)) N b = some ((nI (5 * (S ++ L.reverse).length), N', b'), c, s) ∧ VecT N' b' (flT (S ++ L.reverse)) ∧ Grow N N' c s := by
  unfold F_Mo_pushTasks
  subst hz
  exact Mo_push10 L h3 (by omega) L [] S N b FU (List.append_nil L).symm (by unfold FU; omega) hv hs
end Tk
end
