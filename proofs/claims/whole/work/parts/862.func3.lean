section
section Md
variable {T : Tks} {m N5 N6 : Nat} {a5 a6 : Nat → Int32}
variable {q1 q2 q3 q4 q5 q6 q7 q8 q9 q0 z6 z34 : Int32}
variable {C : NC} {f : NFn} {N : Nat} {b0 : Nat → Int32}
/-- where a function's name stands -/
theorem Mo_name (hT : TkOK T m) (hk : KdIs m N5 a5 T.tkd) {a nm' c : Nat} {R Q : Tr Lb} (h : FHd T a nm' c R Q) (hc : c < m) (hcn : nm' + 2 ≤ c) : F_Mo_nameOf (nI a) q1 q2 q3 q4 q5 q6 q7 q8 q9 q0 N5 a5 = some (nI nm') := by
  have hle := hT.le
  obtain ⟨f1, f2, f3, f4, n, f5, f6, f7⟩ := h
  have han : a + 1 ≤ nm' := by
    rcases f2 with ⟨_, n, _, _, _, _, k⟩ | ⟨_, _, _, k⟩ | ⟨_, k⟩ <;> omega
  have e1 : (a5 (Int32.toNatClampNeg (nI (a + 1))) = 52) = (T.tkd (a + 1) = 52) := Mo_kd hk (by omega) (p := 52) (by omega)
  have e2 : (a5 (Int32.toNatClampNeg (nI (a + 2))) = 56) = (T.tkd (a + 2) = 56) := Mo_kd hk (by omega) (p := 56) (by omega)
  unfold F_Mo_nameOf
  rw [show nI a + 1 = nI (a + 1) from nI_add' a 1, show nI a + 2 = nI (a + 2) from nI_add' a 2, show nI a + 3 = nI (a + 3) from nI_add' a 3, Mo_at hk (by omega), Option.bind_some]
  simp only [e1]
  rcases f2 with ⟨k1, n2', k2, k3, k4, k5, k6⟩ | ⟨k1, k2, k3, k4⟩ | ⟨k1, k2⟩
  · obtain ⟨n', rfl⟩ : ∃ n', n2' = n' + 1 := ⟨n2' - 1, by omega⟩
    have hly := k3.lay
    rw [show a + 2 + 2 * n' + 1 = a + 2 * (n' + 1) + 1 by omega] at hly
    have hcl : clos T.tkd FU (a + 1) 0 = some (a + 2 * (n' + 1) + 1) := Lay.cl (Or.inr k1) hly (Or.inr k4) (by omega)
    rw [if_pos k1, Mo_cl hk hcl (by omega) (by omega), Option.bind_some, show nI (a + 2 * (n' + 1) + 1) + 2 = nI (a + 2 * (n' + 1) + 3) from nI_add' _ 2, k6]
  · rw [if_neg (by omega), Mo_at hk (by omega), Option.bind_some]
    simp only [e2]
    rw [if_pos k2, k4]
  · subst k2
    have f4' : T.tkd (a + 2) = 50 := f4
    rw [if_neg (by omega), Mo_at hk (by omega), Option.bind_some]
    simp only [e2]
    rw [if_neg (by omega)]
/-- the parameters and the block of a function -/
theorem Mo_f116 (hT : TkOK T m) (hk : KdIs m N5 a5 T.tkd) (hp6 : PlIs m N6 a6 T) {H : Tr Lb} {z nm' c b n : Nat} {Q : Tr Lb} {l0 : List Int32} {mkb : Nat → Int32} (h : NdS C f H) (hz : Tr.OnP H z) (hsz : Tr.sz H + n + 1 ≤ 16400) (h50 : T.tkd (nm' + 1) = 50) (hQ : NmL T false (nm' + 2) n Q) (hcn : c = (if n = 0 then nm' + 2 else nm' + 2 * n + 1)) (h51 : T.tkd c = 51) (hc : c < m) (hv : VecT N b0 l0) :
    ∃ (C' : NC) (f' : NFn) (N' : Nat) (b' : Nat → Int32) (cc ss c1 s1 c2 s2 : Nat), F_Mo_buildFunction_116 (nI (b + 1)) q1 q2 q3 q4 q5 q6 q7 q8 q9 q0 N5 a5 z6 N6 a6 (nI z) 0 N b0 (nI nm') mkb (nI (Tr.sz H)) (nI (Tr.sz H)) (nI (Tr.sz H)) (nI (Tr.sz H)) (nI (Tr.sz H)) (nI (Tr.sz H)) (nI (Tr.sz H)) (nI (Tr.sz H)) C.1 f.1 C.2.1 f.2.1 C.2.2.1 f.2.2.1 C.2.2.2.1 f.2.2.2.1 C.2.2.2.2.1 f.2.2.2.2.1 C.2.2.2.2.2.1 f.2.2.2.2.2.1 C.2.2.2.2.2.2.1 f.2.2.2.2.2.2.1 C.2.2.2.2.2.2.2 f.2.2.2.2.2.2.2 = some ((nI (Tr.sz H + 1 + n), nI (Tr.sz H + 1 + n), nI (Tr.sz H + 1 + n), nI (Tr.sz H + 1 + n), nI (Tr.sz H + 1 + n), nI (Tr.sz H + 1 + n), nI (Tr.sz H + 1 + n), nI (Tr.sz H + 1 + n), mkb, C'.1, f'.1, C'.2.1, f'.2.1, C'.2.2.1, f'.2.2.1, C'.2.2.2.1, f'.2.2.2.1, C'.2.2.2.2.1, f'.2.2.2.2.1, C'.2.2.2.2.2.1, f'.2.2.2.2.2.1, C'.2.2.2.2.2.2.1, f'.2.2.2.2.2.2.1, C'.2.2.2.2.2.2.2, f'.2.2.2.2.2.2.2, N', b'), cc, ss) ∧ cc = c1 + c2 ∧ ss = s1 + s2 ∧ NdS C' f' (Tr.appAt (Tr.nd (T.nms (nm' + 1)) Q) H z) ∧ GrowA C C' c1 s1 ∧ VecT N' b' (flT [(2, z, c + 1, b, c)]) ∧ Grow N N' c2 s2 := by
  have hle := hT.le
  have hv0 : VecT N b0 (flT []) := ⟨hv.1.clear, hv.2⟩
  have hcc : nm' + 2 ≤ c := by
    by_cases e : n = 0
    · rw [if_pos e] at hcn; omega
    · rw [if_neg e] at hcn; omega
  have hly : Lay T.tkd (nm' + 1 + 1) c := by
    match n, hQ, hcn with
    | 0, _, hcn => rw [if_pos rfl] at hcn; subst hcn; exact Lay.nil
    | n + 1, hQ, hcn =>
      rw [if_neg (by omega)] at hcn
      have := hQ.lay
      rw [show nm' + 2 + 2 * n + 1 = c by omega] at this
      exact this
  have hcl : clos T.tkd FU (nm' + 1) 0 = some c := Lay.cl (Or.inl h50) hly (Or.inl h51) (by omega)
  obtain ⟨p1, p2⟩ := Mo_place hT hp6 (q1 := q1) (q2 := q2) (q3 := q3) (q4 := q4) (q5 := q5) (q6 := q6) (q7 := q7) (q8 := q8) (q9 := q9) (z6 := z6) (i := nm' + 1) (by omega)
  obtain ⟨C1, f1, c1, s1, e1, g1, r1⟩ := Mo_newS (q1 := q1) (q2 := q2) (q3 := q3) (q4 := q4) (q5 := q5) (q6 := q6) (q7 := q7) (q8 := q8) (q9 := q9) h hz (by omega) (T.nms (nm' + 1))
  have hG1 : Tr.sz (Tr.appAt (Tr.nd (T.nms (nm' + 1)) .leaf) H z) = Tr.sz H + 1 := Tr.sz_appAt H z hz
  have o1 : Tr.OnP (Tr.appAt (Tr.nd (T.nms (nm' + 1)) .leaf) H z) (Tr.sz H) := Tr.OnP_new H z hz
  have hto : (n = 0 ∧ c ≤ nm' + 2) ∨ (0 < n ∧ c + 1 = nm' + 2 + 2 * n) := by
    by_cases e : n = 0
    · rw [if_pos e] at hcn; exact Or.inl ⟨e, by omega⟩
    · rw [if_neg e] at hcn; exact Or.inr ⟨by omega, by omega⟩
  obtain ⟨C2, f2, c2, s2, e2, g2, r2⟩ := Mo_nn hT hk hp6 (q1 := q1) (q2 := q2) (q3 := q3) (q4 := q4) (q5 := q5) (q6 := q6) (q7 := q7) (q8 := q8) (q9 := q9) (q0 := q0) (z6 := z6) g1 o1 (by omega) hQ (by rw [hG1]; omega) hto (by omega)
  rw [hG1] at e2
  rw [Tr.appAt_new H z hz] at g2
  obtain ⟨N', b', c3, s3, e3, v3, r3, z3⟩ := Mo_task (q1 := q1) (q2 := q2) (q3 := q3) (q4 := q4) (q5 := q5) (q6 := q6) (q7 := q7) (q8 := q8) (q9 := q9) hv0 (by show 0 ≤ 18000; omega) (2, z, c + 1, b, c) (z := 0) rfl
  refine ⟨C2, f2, N', b', _, _, c1 + c2, s1 + s2, c3 + 0, s3 + 0, ?_, (by rw [show c1 + c2 + (c3 + 0) = c1 + (c2 + (c3 + 0)) by omega]), (by rw [show s1 + s2 + (s3 + 0) = s1 + (s2 + (s3 + 0)) by omega]), g2, r1.trans r2, v3, r3.trans Grow.rfl⟩
  unfold F_Mo_buildFunction_116
  rw [show nI nm' + 1 = nI (nm' + 1) from nI_add' _ 1, Mo_cl hk hcl hc (by omega), Option.bind_some, p1, Option.bind_some, p2]
  refine bw_ok e1 ?_
  dsimp only
  rw [show nI (Tr.sz H) + 1 = nI (Tr.sz H + 1) from nI_add' _ 1, show nI nm' + 2 = nI (nm' + 2) from nI_add' _ 2]
  refine bw_ok e2 ?_
  dsimp only
  rw [show nI c + 1 = nI (c + 1) from nI_add' _ 1, nI_p1]
  exact bw_ok e3 rfl
end Md
end
