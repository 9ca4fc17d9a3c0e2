section
/-- the marks behind a function's head: the brackets of a single result are left out -/
def fnM (T : Tks) (a nm' : Nat) (mk : Nat → Nat) : Nat → Nat := if T.tkd (a + 1) = 52 ∧ nm' = a + 5 then (fun i => if i = a + 1 ∨ i = a + 3 then 1 else mk i) else mk
section Md
variable {T : Tks} {m N5 N6 : Nat} {a5 a6 : Nat → Int32}
variable {q1 q2 q3 q4 q5 q6 q7 q8 q9 q0 z6 z34 : Int32}
variable {C : NC} {f : NFn} {N N34 : Nat} {b0 b34 : Nat → Int32}
/-- a function -/
theorem Mo_fun (hT : TkOK T m) (hk : KdIs m N5 a5 T.tkd) (hp6 : PlIs m N6 a6 T) {G : Tr Lb} {p a nm' c b : Nat} {R Q : Tr Lb} {l0 : List Int32} {mk : Nat → Nat} (h : NdS C f G) (hp : Tr.OnP G p) (hF : FHd T a nm' c R Q) (hsz : Tr.sz G + Tr.sz R + Tr.sz Q + 3 ≤ 16400) (hc : c < m) (hv : VecT N b0 l0) (h34 : MkIs m N34 b34 mk) :
    ∃ (C' : NC) (f' : NFn) (N' : Nat) (b' b34' : Nat → Int32) (cc ss c1 s1 c2 s2 : Nat), F_Mo_buildFunction (nI p) (nI a) (nI (b + 1)) q1 q2 q3 q4 q5 q6 q7 q8 q9 q0 N5 a5 z6 N6 a6 (nI (Tr.sz G)) C.1 f.1 (nI (Tr.sz G)) C.2.1 f.2.1 (nI (Tr.sz G)) C.2.2.1 f.2.2.1 (nI (Tr.sz G)) C.2.2.2.1 f.2.2.2.1 (nI (Tr.sz G)) C.2.2.2.2.1 f.2.2.2.2.1 (nI (Tr.sz G)) C.2.2.2.2.2.1 f.2.2.2.2.2.1 (nI (Tr.sz G)) C.2.2.2.2.2.2.1 f.2.2.2.2.2.2.1 (nI (Tr.sz G)) C.2.2.2.2.2.2.2 f.2.2.2.2.2.2.2 z34 N34 b34 0 N b0 = some ((nI (Tr.sz G + Tr.sz R + Tr.sz Q + 3), nI (Tr.sz G + Tr.sz R + Tr.sz Q + 3), nI (Tr.sz G + Tr.sz R + Tr.sz Q + 3), nI (Tr.sz G + Tr.sz R + Tr.sz Q + 3), nI (Tr.sz G + Tr.sz R + Tr.sz Q + 3), nI (Tr.sz G + Tr.sz R + Tr.sz Q + 3), nI (Tr.sz G + Tr.sz R + Tr.sz Q + 3), nI (Tr.sz G + Tr.sz R + Tr.sz Q + 3), b34', C'.1, f'.1, C'.2.1, f'.2.1, C'.2.2.1, f'.2.2.1, C'.2.2.2.1, f'.2.2.2.1, C'.2.2.2.2.1, f'.2.2.2.2.1, C'.2.2.2.2.2.1, f'.2.2.2.2.2.1, C'.2.2.2.2.2.2.1, f'.2.2.2.2.2.2.1, C'.2.2.2.2.2.2.2, f'.2.2.2.2.2.2.2, N', b'), cc, ss) ∧ cc = c1 + c2 ∧ ss = s1 + s2 ∧ NdS C' f' (Tr.appAt (Tr.nd (1, T.tpl a, -1, T.twd nm', nI nm') (Tr.app (Tr.nd (T.nms nm') R) (Tr.nd (T.nms (nm' + 1)) Q))) G p) ∧ GrowA C C' c1 s1 ∧ VecT N' b' (flT [(2, Tr.sz G, c + 1, b, c)]) ∧ Grow N N' c2 s2 ∧ MkIs m N34 b34' (fnM T a nm' mk) := by
  have hle := hT.le
  have hF0 := hF
  obtain ⟨f1, f2, f3, f4, n, f5, f6, f7⟩ := hF
  have hcn : nm' + 2 ≤ c := by
    by_cases e : n = 0
    · rw [if_pos e] at f6; omega
    · rw [if_neg e] at f6; omega
  have han : a + 1 ≤ nm' := by
    rcases f2 with ⟨_, n, _, _, _, _, k⟩ | ⟨_, _, _, k⟩ | ⟨_, k⟩ <;> omega
  have hQn : Tr.sz Q = n := f5.sz
  have hname := Mo_name hT hk (q1 := q1) (q2 := q2) (q3 := q3) (q4 := q4) (q5 := q5) (q6 := q6) (q7 := q7) (q8 := q8) (q9 := q9) (q0 := q0) hF0 hc hcn
  obtain ⟨p1, p2⟩ := Mo_place hT hp6 (q1 := q1) (q2 := q2) (q3 := q3) (q4 := q4) (q5 := q5) (q6 := q6) (q7 := q7) (q8 := q8) (q9 := q9) (z6 := z6) (i := a) (by omega)
  obtain ⟨p3, p4⟩ := Mo_place hT hp6 (q1 := q1) (q2 := q2) (q3 := q3) (q4 := q4) (q5 := q5) (q6 := q6) (q7 := q7) (q8 := q8) (q9 := q9) (z6 := z6) (i := nm') (by omega)
  obtain ⟨C1, f1', c1, s1, e1, g1, r1⟩ := Mo_newS (q1 := q1) (q2 := q2) (q3 := q3) (q4 := q4) (q5 := q5) (q6 := q6) (q7 := q7) (q8 := q8) (q9 := q9) h hp (by omega) (1, T.tpl a, -1, T.twd nm', nI nm')
  have hG1 : Tr.sz (Tr.appAt (Tr.nd (1, T.tpl a, -1, T.twd nm', nI nm') .leaf) G p) = Tr.sz G + 1 := Tr.sz_appAt G p hp
  have o1 : Tr.OnP (Tr.appAt (Tr.nd (1, T.tpl a, -1, T.twd nm', nI nm') .leaf) G p) (Tr.sz G) := Tr.OnP_new G p hp
  obtain ⟨C2, f2', c2, s2, e2, g2, r2⟩ := Mo_newS (q1 := q1) (q2 := q2) (q3 := q3) (q4 := q4) (q5 := q5) (q6 := q6) (q7 := q7) (q8 := q8) (q9 := q9) g1 o1 (by rw [hG1]; omega) (T.nms nm')
  rw [hG1] at e2
  generalize hH : Tr.appAt (Tr.nd (1, T.tpl a, -1, T.twd nm', nI nm') .leaf) G p = H at hG1 o1 g1 g2
  have hG2 : Tr.sz (Tr.appAt (Tr.nd (T.nms nm') .leaf) H (Tr.sz G)) = Tr.sz G + 2 := by rw [Tr.sz_appAt H _ o1, hG1]; rfl
  have o2 : Tr.OnP (Tr.appAt (Tr.nd (T.nms nm') .leaf) H (Tr.sz G)) (Tr.sz G + 1) := by
    have := Tr.OnP_new (a0 := T.nms nm') (L := .leaf) H _ o1
    rw [hG1] at this
    exact this
  have hap : Tr.appAt R (Tr.appAt (Tr.nd (T.nms nm') .leaf) H (Tr.sz G)) (Tr.sz G + 1) = Tr.appAt (Tr.nd (T.nms nm') R) H (Tr.sz G) := by
    have := Tr.appAt_new (F := R) (a0 := T.nms nm') (L := .leaf) H _ o1
    rw [hG1] at this
    exact this
  have hG3 : Tr.sz (Tr.appAt (Tr.nd (T.nms nm') R) H (Tr.sz G)) = Tr.sz G + 2 + Tr.sz R := by
    rw [Tr.sz_appAt H _ o1, hG1]
    show _ + (Tr.sz R + 0 + 1) = _
    omega
  have o3 : Tr.OnP (Tr.appAt (Tr.nd (T.nms nm') R) H (Tr.sz G)) (Tr.sz G) := Tr.OnP_le H _ _ o1 o1 (Nat.le_refl _)
  -- the results
  obtain ⟨s0, to, nR, k1, k2, k3, k4, k5⟩ : ∃ s0 to nR, NmL T false s0 nR R ∧ ((nR = 0 ∧ to ≤ s0) ∨ (0 < nR ∧ to + 1 = s0 + 2 * nR)) ∧ to ≤ nm' ∧ s0 ≤ nm' ∧ ((T.tkd (a + 1) = 52 ∧ s0 = a + 2 ∧ to = nm' - 2 ∧ a + 5 ≤ nm') ∨ (T.tkd (a + 1) ≠ 52 ∧ s0 = a + 1 ∧ to = nm' - 1)) := by
    rcases f2 with ⟨k1, n2', k2, k3, k4, k5, k6⟩ | ⟨k1, k2, k3, k4⟩ | ⟨k1, k2⟩
    · exact ⟨a + 2, nm' - 2, n2', k3, Or.inr ⟨k2, by omega⟩, by omega, by omega, Or.inl ⟨k1, rfl, rfl, by omega⟩⟩
    · refine ⟨a + 1, nm' - 1, 1, ⟨.leaf, rfl, fun h => absurd h (Nat.lt_irrefl 0), Or.inl ⟨k1, k3⟩⟩, Or.inr ⟨by omega, by omega⟩, by omega, by omega, Or.inr ⟨by omega, rfl, rfl⟩⟩
    · refine ⟨a + 1, nm' - 1, 0, k1, Or.inl ⟨rfl, by omega⟩, by omega, by omega, Or.inr ⟨?_, rfl, rfl⟩⟩
      rw [← k2, f3]; omega
  have hRn : Tr.sz R = nR := k1.sz
  obtain ⟨C3, f3', c3, s3, e3, g3, r3⟩ := Mo_nn hT hk hp6 (q1 := q1) (q2 := q2) (q3 := q3) (q4 := q4) (q5 := q5) (q6 := q6) (q7 := q7) (q8 := q8) (q9 := q9) (q0 := q0) (z6 := z6) (to := to) g2 o2 (by omega) k1 (by rw [hG2]; omega) k2 (by omega)
  rw [hG2, ← hRn] at e3
  rw [hap] at g3
  have fin : ∀ (mkb : Nat → Int32), ∃ (C' : NC) (f' : NFn) (N' : Nat) (b' : Nat → Int32) (c4 s4 c5 s5 : Nat), F_Mo_buildFunction_116 (nI (b + 1)) q1 q2 q3 q4 q5 q6 q7 q8 q9 q0 N5 a5 z6 N6 a6 (nI (Tr.sz G)) 0 N b0 (nI nm') mkb (nI (Tr.sz G + 2 + Tr.sz R)) (nI (Tr.sz G + 2 + Tr.sz R)) (nI (Tr.sz G + 2 + Tr.sz R)) (nI (Tr.sz G + 2 + Tr.sz R)) (nI (Tr.sz G + 2 + Tr.sz R)) (nI (Tr.sz G + 2 + Tr.sz R)) (nI (Tr.sz G + 2 + Tr.sz R)) (nI (Tr.sz G + 2 + Tr.sz R)) C3.1 f3'.1 C3.2.1 f3'.2.1 C3.2.2.1 f3'.2.2.1 C3.2.2.2.1 f3'.2.2.2.1 C3.2.2.2.2.1 f3'.2.2.2.2.1 C3.2.2.2.2.2.1 f3'.2.2.2.2.2.1 C3.2.2.2.2.2.2.1 f3'.2.2.2.2.2.2.1 C3.2.2.2.2.2.2.2 f3'.2.2.2.2.2.2.2 = some ((nI (Tr.sz G + Tr.sz R + Tr.sz Q + 3), nI (Tr.sz G + Tr.sz R + Tr.sz Q + 3), nI (Tr.sz G + Tr.sz R + Tr.sz Q + 3), nI (Tr.sz G + Tr.sz R + Tr.sz Q + 3), nI (Tr.sz G + Tr.sz R + Tr.sz Q + 3), nI (Tr.sz G + Tr.sz R + Tr.sz Q + 3), nI (Tr.sz G + Tr.sz R + Tr.sz Q + 3), nI (Tr.sz G + Tr.sz R + Tr.sz Q + 3), mkb, C'.1, f'.1, C'.2.1, f'.2.1, C'.2.2.1, f'.2.2.1, C'.2.2.2.1, f'.2.2.2.1, C'.2.2.2.2.1, f'.2.2.2.2.1, C'.2.2.2.2.2.1, f'.2.2.2.2.2.1, C'.2.2.2.2.2.2.1, f'.2.2.2.2.2.2.1, C'.2.2.2.2.2.2.2, f'.2.2.2.2.2.2.2, N', b'), c4 + c5, s4 + s5) ∧ NdS C' f' (Tr.appAt (Tr.nd (1, T.tpl a, -1, T.twd nm', nI nm') (Tr.app (Tr.nd (T.nms nm') R) (Tr.nd (T.nms (nm' + 1)) Q))) G p) ∧ GrowA C3 C' c4 s4 ∧ VecT N' b' (flT [(2, Tr.sz G, c + 1, b, c)]) ∧ Grow N N' c5 s5 := by
    intro mkb
    obtain ⟨C', f', N', b', cc, ss, c4, s4, c5, s5, w1, w2, w3, w4, w5, w6, w7⟩ := Mo_f116 hT hk hp6 (q1 := q1) (q2 := q2) (q3 := q3) (q4 := q4) (q5 := q5) (q6 := q6) (q7 := q7) (q8 := q8) (q9 := q9) (q0 := q0) (z6 := z6) (b := b) (mkb := mkb) g3 o3 (by rw [hG3]; omega) f4 f5 f6 f7 hc hv
    subst w2 w3
    rw [hG3, show Tr.sz G + 2 + Tr.sz R + 1 + n = Tr.sz G + Tr.sz R + Tr.sz Q + 3 by omega] at w1
    rw [Tr.appAt_app H _ o1, ← hH, Tr.appAt_new G p hp] at w4
    exact ⟨C', f', N', b', c4, s4, c5, s5, w1, w4, w5, w6, w7⟩
  have y1 : nI a + 1 = nI (a + 1) := nI_add' _ 1
  have y2 : nI a + 2 = nI (a + 2) := nI_add' _ 2
  have y3 : nI a + 3 = nI (a + 3) := nI_add' _ 3
  have y5 : nI a + 5 = nI (a + 5) := nI_add' _ 5
  have y8 : nI (Tr.sz G) + 1 = nI (Tr.sz G + 1) := nI_add' _ 1
  have y9 : nI (Tr.sz G + 1) + 1 = nI (Tr.sz G + 2) := nI_add' _ 1
  have e52 : (a5 (Int32.toNatClampNeg (nI (a + 1))) = 52) = (T.tkd (a + 1) = 52) := Mo_kd hk (by omega) (p := 52) (by omega)
  have hN4 := h34.1; have hN4' := h34.2.1
  rcases k5 with ⟨k5, k6, k7, k8⟩ | ⟨k5, k6, k7⟩
  · subst k6 k7
    have y6 : nI nm' - 2 = nI (nm' - 2) := nI_sub' (b := 2) (by omega)
    by_cases c5' : nm' = a + 5
    · obtain ⟨C', f', N', b', c4, s4, c5, s5, w1, w2, w3, w4, w5⟩ := fin (upd (upd b34 (a + 1) 1) (a + 3) 1)
      refine ⟨C', f', N', b', upd (upd b34 (a + 1) 1) (a + 3) 1, _, _, c1 + (c2 + (c3 + c4)), s1 + (s2 + (s3 + s4)), c5, s5, ?_, (by rw [show c1 + (c2 + (c3 + c4)) + c5 = c1 + (c2 + (c3 + (c4 + c5))) by omega]), (by rw [show s1 + (s2 + (s3 + s4)) + s5 = s1 + (s2 + (s3 + (s4 + s5))) by omega]), w2, r1.trans (r2.trans (r3.trans w3)), w4, w5, ?_⟩
      · unfold F_Mo_buildFunction
        rw [hname, Option.bind_some, p1, Option.bind_some, p2]
        refine bw_ok e1 ?_
        dsimp only
        rw [p3, Option.bind_some, p4, y8]
        refine bw_ok e2 ?_
        dsimp only
        rw [y1, Mo_at hk (by omega), Option.bind_some]
        simp only [e52]
        rw [if_pos k5, y2, y6, y9]
        refine bw_ok e3 ?_
        dsimp only
        rw [if_pos (show nI nm' = nI a + 5 by rw [y5, c5']), y3, inb_ok (show a + 1 < N34 by omega) (by omega), inb_ok (show a + 3 < N34 by omega) (by omega), nI_clamp' (show a + 1 < 2 ^ 31 by omega), nI_clamp' (show a + 3 < 2 ^ 31 by omega)]
        exact w1
      · unfold fnM
        rw [if_pos ⟨k5, c5'⟩]
        have hm : MkIs m N34 (upd b34 (a + 1) (nI 1)) (fun i => if i = a + 1 then 1 else mk i) := h34.upd (if_pos rfl) (fun i hi => if_neg hi)
        refine hm.upd (v := 1) (if_pos (Or.inr rfl)) (fun i hi => ?_)
        by_cases e : i = a + 1
        · rw [if_pos (Or.inl e), if_pos e]
        · rw [if_neg (fun x => x.elim e hi), if_neg e]
    · obtain ⟨C', f', N', b', c4, s4, c5, s5, w1, w2, w3, w4, w5⟩ := fin b34
      refine ⟨C', f', N', b', b34, _, _, c1 + (c2 + (c3 + c4)), s1 + (s2 + (s3 + s4)), c5, s5, ?_, (by rw [show c1 + (c2 + (c3 + c4)) + c5 = c1 + (c2 + (c3 + (c4 + c5))) by omega]), (by rw [show s1 + (s2 + (s3 + s4)) + s5 = s1 + (s2 + (s3 + (s4 + s5))) by omega]), w2, r1.trans (r2.trans (r3.trans w3)), w4, w5, ?_⟩
      · unfold F_Mo_buildFunction
        rw [hname, Option.bind_some, p1, Option.bind_some, p2]
        refine bw_ok e1 ?_
        dsimp only
        rw [p3, Option.bind_some, p4, y8]
        refine bw_ok e2 ?_
        dsimp only
        rw [y1, Mo_at hk (by omega), Option.bind_some]
        simp only [e52]
        rw [if_pos k5, y2, y6, y9]
        refine bw_ok e3 ?_
        dsimp only
        rw [if_neg (show ¬ nI nm' = nI a + 5 by rw [y5, nI_eq' (by omega) (by omega)]; exact c5')]
        exact w1
      · unfold fnM
        rw [if_neg (fun x => c5' x.2)]
        exact h34
  · subst k6 k7
    have y6 : nI nm' - 1 = nI (nm' - 1) := nI_sub' (b := 1) (by omega)
    obtain ⟨C', f', N', b', c4, s4, c5, s5, w1, w2, w3, w4, w5⟩ := fin b34
    refine ⟨C', f', N', b', b34, _, _, c1 + (c2 + (c3 + c4)), s1 + (s2 + (s3 + s4)), c5, s5, ?_, (by rw [show c1 + (c2 + (c3 + c4)) + c5 = c1 + (c2 + (c3 + (c4 + c5))) by omega]), (by rw [show s1 + (s2 + (s3 + s4)) + s5 = s1 + (s2 + (s3 + (s4 + s5))) by omega]), w2, r1.trans (r2.trans (r3.trans w3)), w4, w5, ?_⟩
    · unfold F_Mo_buildFunction
      rw [hname, Option.bind_some, p1, Option.bind_some, p2]
      refine bw_ok e1 ?_
      dsimp only
      rw [p3, Option.bind_some, p4, y8]
      refine bw_ok e2 ?_
      dsimp only
      rw [y1, Mo_at hk (by omega), Option.bind_some]
      simp only [e52]
      rw [if_neg k5, y6, y9]
      exact bw_ok e3 w1
    · unfold fnM
      rw [if_neg (fun x => k5 x.1)]
      exact h34
end Md
end
