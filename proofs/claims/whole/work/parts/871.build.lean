section
/-- the root's label -/
def rootL : Lb := (0, 0, -1, 0, -1)
section Md
variable {T : Tks} {m N5 N6 : Nat} {a5 a6 : Nat → Int32} {tx : Nat → List Int32}
variable {n2 : Nat} {b2 : Nat → Int32}
variable {q1 q2 q3 q4 q5 q6 q7 q8 q9 z6 : Int32}
/-- **the reference's building** -/
theorem Mo_bd (hT : TkOK T m) (hk : KdIs m N5 a5 T.tkd) (hp6 : PlIs m N6 a6 T) (hTx : TxK T tx) (hW : TxW T tx) (hr : RkIs n2 b2) {F : Tr Lb} (x : SV T 1 0 (m - 1) F) (hsz : Tr.sz F ≤ 16385) {C : NC} {f : NFn} (hc : CapA 0 C) {N34 N35 N33 N32 : Nat} {b34 b35 b33 b32 : Nat → Int32} {l34 l35 l33 l32 : List Int32} (h34 : Vec N34 b34 l34) (h35 : Vec N35 b35 l35) (hN34 : N34 ≤ 2 ^ 20) (hN35 : N35 ≤ 2 ^ 20) (h33 : VecT N33 b33 l33) (h32 : VecT N32 b32 l32) (w24 w25 w26 w27 w28 w29 w30 w31 w32 w33 w34 w35 : Int32) :
    ∃ (s' : BS) (N34' N35' : Nat) (mk ex : Nat → Nat) (c sl c1 s1 c2 s2 c3 s3 : Nat), F_Mo_build q1 q2 q3 q4 q5 q6 q7 q8 q9 w24 w25 w26 w27 w28 w29 w30 w31 w32 w33 (nI m) w34 N34 b34 w35 N35 b35 C.1 f.1 C.2.1 f.2.1 C.2.2.1 f.2.2.1 C.2.2.2.1 f.2.2.2.1 C.2.2.2.2.1 f.2.2.2.2.1 C.2.2.2.2.2.1 f.2.2.2.2.2.1 C.2.2.2.2.2.2.1 f.2.2.2.2.2.2.1 C.2.2.2.2.2.2.2 f.2.2.2.2.2.2.2 N33 b33 N32 b32 z6 N6 a6 N5 a5 n2 b2 = some ((s'.2.2.2.2.1, nI (Tr.sz F + 1), nI (Tr.sz F + 1), nI (Tr.sz F + 1), nI (Tr.sz F + 1), nI (Tr.sz F + 1), nI (Tr.sz F + 1), nI (Tr.sz F + 1), nI (Tr.sz F + 1), nI (5 * 0), nI m, nI m, s'.1.1, s'.2.1.1, s'.1.2.1, s'.2.1.2.1, s'.1.2.2.1, s'.2.1.2.2.1, s'.1.2.2.2.1, s'.2.1.2.2.2.1, s'.1.2.2.2.2.1, s'.2.1.2.2.2.2.1, s'.1.2.2.2.2.2.1, s'.2.1.2.2.2.2.2.1, s'.1.2.2.2.2.2.2.1, s'.2.1.2.2.2.2.2.2.1, s'.1.2.2.2.2.2.2.2, s'.2.1.2.2.2.2.2.2.2, s'.2.2.2.2.2.2.2.1, s'.2.2.2.2.2.2.2.2, s'.2.2.2.2.2.1, s'.2.2.2.2.2.2.1, N34', s'.2.2.1, N35', s'.2.2.2.1), c, sl) ∧ BOK m N34' N35' (Tr.nd rootL F) [] mk ex s' ∧ QS T tx 0 (m - 1) F mk ex ∧ Grow N34 N34' c1 s1 ∧ Grow N35 N35' c2 s2 ∧ BG (C, f, b34, b35, q9, N33, b33, N32, b32) s' c3 s3 ∧ c = c1 + c2 + c3 ∧ sl = s1 + s2 + s3 ∧ (N34' = N34 ∨ N34' ≤ 2 * m) ∧ (N35' = N35 ∨ N35' ≤ 2 * m) := by
  have hle := hT.le
  have hpos := hT.pos
  obtain ⟨M34, d34, c1, s1, e1, v1, g1, o1⟩ := Nm_fill (n := m) (v := 0) (z := w34) (by omega) h34
  obtain ⟨M35, d35, c2, s2, e2, v2, g2, o2⟩ := Nm_fill (n := m) (v := 0) (z := w35) (by omega) h35
  have hM34 : M34 ≤ 2 ^ 20 := by omega
  have hM35 : M35 ≤ 2 ^ 20 := by omega
  obtain ⟨C1, f1, c3, s3, e3, v3, y3, g3⟩ := Mo_new0 (q1 := q1) (q2 := q2) (q3 := q3) (q4 := q4) (q5 := q5) (q6 := q6) (q7 := q7) (q8 := q8) (q9 := q9) (f := f) hc rootL
  have h330 : VecT N33 b33 (flT []) := ⟨h33.1.clear, h33.2⟩
  have h320 : VecT N32 b32 (flT []) := ⟨h32.1.clear, h32.2⟩
  obtain ⟨N1, b1, c4, s4, e4, v4, g4, z4⟩ := Mo_task (q1 := q1) (q2 := q2) (q3 := q3) (q4 := q4) (q5 := q5) (q6 := q6) (q7 := q7) (q8 := q8) (q9 := q9) h330 (by show 0 ≤ 18000; omega) (0, 0, 0, m - 1, 0) (z := 0) (Eq.refl _)
  obtain ⟨N2, bs2, c5, s5, e5, v5, g5⟩ := Mo_pushT (q1 := q1) (q2 := q2) (q3 := q3) (q4 := q4) (q5 := q5) (q6 := q6) (q7 := q7) (q8 := q8) (q9 := q9) (L := [(0, 0, 0, m - 1, 0)]) (S := []) v4.1 (Eq.refl _) h320 (by show 0 + 1 ≤ 18000; omega)
  have hB : BOK m M34 M35 (Tr.nd rootL .leaf) [(0, 0, 0, m - 1, 0)] (fun _ => 0) (fun _ => 0) (C1, f1, d34, d35, q9, N1, b1, N2, bs2) := ⟨⟨fun _ => Nat.zero_le _, fun _ => Nat.zero_le _⟩, ⟨v3, y3⟩, MkIs.zero v1 hM34, MkIs.zero v2 hM35, ⟨_, v4⟩, v5⟩
  have hon : Tr.OnP (Tr.nd rootL (.leaf : Tr Lb)) 0 := Tr.OnP_snoc (a0 := rootL) (L := .leaf) .leaf
  have happ : Tr.appAt F (Tr.nd rootL .leaf) 0 = Tr.nd rootL F := Tr.appAt_snoc (F := F) (a0 := rootL) (L := .leaf) .leaf
  obtain ⟨tn, s', mk', ex', c6, s6, w1, w2, w3, w4, w5, w6⟩ := (Run_st hT hk hp6 hTx hW hr (q1 := q1) (q2 := q2) (q3 := q3) (q4 := q4) (q5 := q5) (q6 := q6) (q7 := q7) (q8 := q8) (q0 := nI m) (z6 := z6) (z34 := nI m) (N34 := M34) (z35 := nI m) (N35 := M35) (m - 1) 0 (m - 1) F (by omega) (by omega) x 0 0).2 [] (Tr.nd rootL .leaf) (fun _ => 0) (fun _ => 0) (C1, f1, d34, d35, q9, N1, b1, N2, bs2) hB hon (by show 0 + 0 + 1 + Tr.sz F ≤ 16390; omega) (by show 0 + _ ≤ 17000; omega) (fun _ _ => ⟨rfl, rfl⟩)
  rw [happ] at w2
  have hz1 : Tr.sz (Tr.nd rootL (.leaf : Tr Lb)) = 1 := rfl
  have hend := w6 (FU - tn - 1 + 1) ((s'.2.2.2.2.1, nI (Tr.sz F + 1), nI (Tr.sz F + 1), nI (Tr.sz F + 1), nI (Tr.sz F + 1), nI (Tr.sz F + 1), nI (Tr.sz F + 1), nI (Tr.sz F + 1), nI (Tr.sz F + 1), nI (5 * 0), nI m, nI m, s'.1.1, s'.2.1.1, s'.1.2.1, s'.2.1.2.1, s'.1.2.2.1, s'.2.1.2.2.1, s'.1.2.2.2.1, s'.2.1.2.2.2.1, s'.1.2.2.2.2.1, s'.2.1.2.2.2.2.1, s'.1.2.2.2.2.2.1, s'.2.1.2.2.2.2.2.1, s'.1.2.2.2.2.2.2.1, s'.2.1.2.2.2.2.2.2.1, s'.1.2.2.2.2.2.2.2, s'.2.1.2.2.2.2.2.2.2, s'.2.2.2.2.2.2.2.1, s'.2.2.2.2.2.2.2.2, s'.2.2.2.2.2.1, s'.2.2.2.2.2.2.1, M34, s'.2.2.1, M35, s'.2.2.2.1)) 0 0 (by
    unfold BLp
    rw [F_Mo_build_141, hz1, show 1 + Tr.sz F = Tr.sz F + 1 by omega]
    exact if_pos (show nI (5 * ([] : List Tsk).length) ≤ (0 : Int32) by decide))
  rw [hz1, show FU - tn - 1 + 1 + tn = FU by unfold FU; omega] at hend
  obtain ⟨gA, sA, gB, sB, gC, sC, k1, k2, k3, k4, k5⟩ := w3
  refine ⟨s', M34, M35, mk', ex', c1 + (c2 + (c3 + (c4 + (c5 + (c6 + 0))))), s1 + (s2 + (s3 + (s4 + (s5 + (s6 + 0))))), c1, s1, c2, s2, c3 + c4 + c5 + c6, s3 + s4 + s5 + s6, ?_, w2, w5, g1, g2, ⟨c3 + gA, s3 + sA, c4 + gB, s4 + sB, c5 + gC, s5 + sC, g3.trans k1, g4.trans k2, g5.trans k3, by omega, by omega⟩, by omega, by omega, o1, o2⟩
  unfold F_Mo_build
  refine bw_ok e1 (bw_ok e2 (bw_ok e3 ?_))
  dsimp only
  rw [show nI m - 1 = nI (m - 1) by rw [show (1 : Int32) = nI 1 from Eq.refl _, nI_sub' (by omega)]]
  refine bw_ok e4 ?_
  dsimp only
  rw [z4]
  refine bw_ok e5 ?_
  dsimp only
  unfold BLp at hend
  exact hend
end Md
end
