section
section Law
variable {L : Nat} {xs : Nat → Int32} {n_ou : Nat} {B : Nat → Int32} {n_m2 : Nat} {b_m2 : Nat → Int32}
variable {s : LW} {tp fo sp so : List Nat}
variable {i : Nat}
theorem ndCap.b {N : Nat} (h : ndCap N) : N ≤ 2 ^ 20 := by have := h.le; omega
theorem st_node (hL : i + 6 ≤ L) (hL2 : L ≤ 4000) (h : INV s tp fo sp so) (hop : xs i &&& 15 = 5) : LStp L xs n_ou B n_m2 b_m2 i s := by
  refine ⟨s.do_node, tp, fo, sp, so, 0, 0, h.thr, by show 0 + phiC s ≤ phiC s + 1; omega, by show 0 + phiS s ≤ phiS s + 6; omega, fun fu R c' sl' hh => ?_⟩
  rw [Nat.zero_add, Nat.zero_add]
  rcases h.tr with ⟨h1, h2⟩ | ⟨X, j, mk, ex, h1, h2, h3, h4, h5, h6, h7, h8, h9, h10, h11, h12, h13, h14, h15, _⟩
  · refine law_node (r235 := -1) (r239 := -1) hL hL2 hop ?_ ?_ rfl hh
    · unfold F_Eq_node F_Nd_get
      rw [h1]
      by_cases c1 : xs (i + 2) < 0
      · rw [if_pos c1]
      · rw [if_neg c1]
        by_cases c2 : (3 : Int32) < xs (i + 2)
        · rw [if_pos c2]
        · rw [if_neg c2]
          by_cases c3 : xs (i + 1) < 0
          · rw [if_pos c3]; rfl
          · rw [if_neg c3, if_pos (Int32.not_lt.mp c3)]; rfl
    · unfold F_Mo_node nm F_Mo_isNode
      dsimp only
      rw [if_pos h2, if_pos rfl]
  · have hm : (cutE so.length (txf so)).length ≤ 16385 := (tkOK h.r1.text).le
    obtain ⟨v, e1, e2⟩ := node_eq (n0 := Tr.sz X + 1) (q2 := s.f3_13) (q3 := s.f3_14) (q4 := s.f3_16) (q5 := s.f3_17) (q6 := s.f3_18) (q7 := s.f3_19) (q8 := s.f3_23) (q9 := s.f3_36) (z25 := s.f39_1) (z26 := s.f40_1) (z28 := s.f42_1) (C := s.nC) (f := s.nF) h3 h.tc.b (by omega) h4 h15 rfl h14 h1 (xs (i + 1)) (xs (i + 2)) s.f0_7
    refine law_node hL hL2 hop (by rw [h2]; exact e1) (by rw [h13]; exact e2) rfl hh
theorem st_part (hL : i + 6 ≤ L) (hL2 : L ≤ 4000) (h : INV s tp fo sp so) (hop : xs i &&& 15 = 6) : LStp L xs n_ou B n_m2 b_m2 i s := by
  refine ⟨s.do_part, tp, fo, sp, so, 0, 0, h.thr, by show 0 + phiC s ≤ phiC s + 1; omega, by show 0 + phiS s ≤ phiS s + 6; omega, fun fu R c' sl' hh => ?_⟩
  rw [Nat.zero_add, Nat.zero_add]
  rcases h.tr with ⟨h1, h2⟩ | ⟨X, j, mk, ex, h1, h2, h3, h4, h5, h6, h7, h8, h9, h10, h11, h12, h13, h14, h15, _⟩
  · refine law_part (r245 := -1) (r249 := -1) hL hL2 hop ?_ ?_ rfl hh
    · unfold F_Eq_part F_Nd_get
      rw [h1]
      by_cases c1 : xs (i + 2) < 0
      · rw [if_pos c1]
      · rw [if_neg c1]
        have hn : ¬ xs (i + 2) < -1 := fun y => c1 (Int32.lt_trans y (by decide))
        by_cases c3 : xs (i + 1) < 0
        · rw [if_pos c3, Option.bind_some, if_neg hn]
        · rw [if_neg c3, if_pos (Int32.not_lt.mp c3), Option.bind_some, if_neg hn]
    · unfold F_Mo_part nm F_Mo_isNode
      dsimp only
      rw [if_pos h2, if_pos rfl]
  · have hm : (cutE so.length (txf so)).length ≤ 16385 := (tkOK h.r1.text).le
    obtain ⟨v, e1, e2⟩ := part_eq (n0 := Tr.sz X + 1) (q2 := s.f3_13) (q3 := s.f3_14) (q4 := s.f3_16) (q5 := s.f3_17) (q6 := s.f3_18) (q7 := s.f3_19) (q8 := s.f3_23) (q9 := s.f3_36) (z28 := s.f42_1) (z29 := s.f43_1) (z31 := s.f45_1) (C := s.nC) (f := s.nF) h3 h.tc.b (by omega) h4 h15 rfl h14 h1 (xs (i + 1)) (xs (i + 2)) s.f0_7
    refine law_part hL hL2 hop (by rw [h2]; exact e1) (by rw [h13]; exact e2) rfl hh
theorem st_char (hL : i + 6 ≤ L) (hL2 : L ≤ 4000) (h : INV s tp fo sp so) (hop : xs i &&& 15 = 7) : LStp L xs n_ou B n_m2 b_m2 i s := by
  refine ⟨s.do_char, tp, fo, sp, so, 0, 0, h.thr, by show 0 + phiC s ≤ phiC s + 1; omega, by show 0 + phiS s ≤ phiS s + 6; omega, fun fu R c' sl' hh => ?_⟩
  rw [Nat.zero_add, Nat.zero_add]
  rcases h.tr with ⟨h1, h2⟩ | ⟨X, j, mk, ex, h1, h2, h3, h4, h5, h6, h7, h8, h9, h10, h11, h12, h13, h14, h15, _⟩
  · refine law_char (r255 := -1) (r259 := -1) hL hL2 hop ?_ ?_ rfl hh
    · unfold F_Eq_character F_Nd_get
      rw [h1]
      by_cases c1 : xs (i + 2) < 0
      · rw [if_pos c1]
      · rw [if_neg c1]
        have hn : ¬ xs (i + 2) < -1 := fun y => c1 (Int32.lt_trans y (by decide))
        by_cases c3 : xs (i + 1) < 0
        · rw [if_pos c3, Option.bind_some, if_neg hn]
        · rw [if_neg c3, if_pos (Int32.not_lt.mp c3), Option.bind_some, if_neg hn]
    · unfold F_Mo_character nm F_Mo_isNode
      dsimp only
      rw [if_pos h2, if_pos rfl]
  · have ht := h.r1.text
    have hm : (cutE so.length (txf so)).length ≤ 16385 := (tkOK ht).le
    have hl8 := h8.le
    rw [List.length_map] at hl8
    have hx : TxA so.length (txf so) s.n67 s.b67 s.n69 s.b69 s.n63 s.b63 := scan_tx h10 h11 hl8 (tp_at h8)
    obtain ⟨v, e1, e2⟩ := char_eq (n0 := Tr.sz X + 1) (q2 := s.f3_13) (q3 := s.f3_14) (q4 := s.f3_16) (q5 := s.f3_17) (q6 := s.f3_18) (q7 := s.f3_19) (q8 := s.f3_23) (q9 := s.f3_36) (z27 := s.f41_1) (z12 := s.f68_1) (z11 := s.f66_1) (z9 := s.f62_1) (C := s.nC) (f := s.nF) ht h.r1.is hx h3 h.tc.b (by omega) h4 h15 (SV.tks ht (tkC ht) h5) rfl h14 h1 (xs (i + 1)) (xs (i + 2)) s.f0_7
    refine law_char hL hL2 hop (by rw [h2, h.r2]; exact e1) (by rw [h13]; exact e2) rfl hh
theorem st_written (hL : i + 6 ≤ L) (hL2 : L ≤ 4000) (h : INV s tp fo sp so) (hop : xs i &&& 15 = 9) : LStp L xs n_ou B n_m2 b_m2 i s := by
  refine ⟨s.do_written, tp, fo, sp, so, 0, 0, h.thr, by show 0 + phiC s ≤ phiC s + 1; omega, by show 0 + phiS s ≤ phiS s + 6; omega, fun fu R c' sl' hh => ?_⟩
  rw [Nat.zero_add, Nat.zero_add]
  have hroom := h.o1.room
  have hle := h.o1.le
  have hl := h.o3.le
  rw [List.length_map] at hl
  by_cases c1 : xs (i + 1) < 0
  · refine law_written (r301 := -1) (r304 := -1) hL hL2 hop ?_ ?_ rfl hh
    · unfold F_Eq_written F_Rw_at
      rw [if_pos c1]; rfl
    · unfold F_Mo_written
      rw [if_pos c1]
  · obtain ⟨k, hk, hk31⟩ := pos_n c1
    by_cases c2 : fo.length ≤ k
    · refine law_written (r301 := -1) (r304 := -1) hL hL2 hop ?_ ?_ rfl hh
      · unfold F_Eq_written
        rw [h.o2, hk, Rw_at h.o1.is hk31, Option.bind_some]
        rw [show chr fo.length (fun i => fo.getD i 0) k = -1 from if_neg (by omega)]
      · unfold F_Mo_written
        rw [if_neg c1, h.o4, hk, if_pos (show nI fo.length ≤ nI k by rw [nI_le' (by omega) (by omega)]; exact c2)]
    · refine law_written (r301 := nI (fo.getD k 0)) (r304 := nI (fo.getD k 0)) hL hL2 hop ?_ ?_ rfl hh
      · unfold F_Eq_written
        rw [h.o2, hk, Rw_at h.o1.is hk31, Option.bind_some]
        rw [show chr fo.length (fun i => fo.getD i 0) k = nI (fo.getD k 0) from if_pos (by omega)]
      · unfold F_Mo_written
        rw [if_neg c1, h.o4, hk, if_neg (show ¬ nI fo.length ≤ nI k by rw [nI_le' (by omega) (by omega)]; exact c2), Nm_at (by omega) (by omega), Option.bind_some, nI_clamp' (by omega), tp_at h.o3 k (by omega)]
theorem st_feed (hL : i + 6 ≤ L) (hL2 : L ≤ 4000) (h : INV s tp fo sp so) (hop : xs i &&& 15 = 0) : LStp L xs n_ou B n_m2 b_m2 i s := by
  have hroom := h.t1.room
  have hle := h.t1.le
  obtain ⟨N1, b1, c1, s1, e1, v1, g1⟩ := Eq_feed h.t1 (p1 := xs (i + 1)) (p2 := xs (i + 2)) (p3 := xs (i + 3)) (p4 := xs (i + 4)) (p5 := xs (i + 5)) (ft := s.f0_7)
  obtain ⟨N2, b2, c2, s2, e2, v2, g2, o2⟩ := Mo_feed h.t3 (by omega) (p1 := xs (i + 1)) (p2 := xs (i + 2)) (p3 := xs (i + 3)) (p4 := xs (i + 4)) (p5 := xs (i + 5)) (q1 := s.f3_8) (q2 := s.f3_13) (q3 := s.f3_14) (q4 := s.f3_16) (q5 := s.f3_17) (q6 := s.f3_18) (q7 := s.f3_19) (q8 := s.f3_23) (q9 := s.f3_36)
  obtain ⟨tq, htq⟩ : ∃ tq, tq = (if tp.length ≤ 65516 then tp ++ fed (xs (i + 1)) (xs (i + 2)) (xs (i + 3)) (xs (i + 4)) (xs (i + 5)) else tp) := ⟨_, rfl⟩
  rw [← htq] at e1 v1 e2 v2
  refine ⟨s.do_feed (nI tq.length) N1 b1 (nI tq.length) N2 b2, tq, fo, sp, so, c1 + c2, s1 + s2, ?_, ?_, ?_, fun fu R c' sl' hh => ?_⟩
  · have hb : N2 ≤ 131072 := by have := h.t5; omega
    exact ⟨v1, rfl, v2, rfl, hb, h.o1, h.o2, h.o3, h.o4, h.o5, h.p1, h.p2, h.r1, h.r2, h.fl, h.rd, h.fr, h.tc, h.m38, h.m4, h.m9, h.m5, h.m6, h.m7, h.m10, h.m11, h.m12, h.m20, h.m21, h.m22, h.m32, h.m33, h.m34, h.m35, h.nc, h.tr⟩
  · have := g1.cells; have := g2.cells
    have e : phiC (s.do_feed (nI tq.length) N1 b1 (nI tq.length) N2 b2) = Nat.log2 N1 + Nat.log2 N2 + Nat.log2 s.n71 + Nat.log2 s.n78 + Nat.log2 s.n74 + Nat.log2 s.n8 + Nat.log2 s.n76 + Nat.log2 s.n21 + Nat.log2 s.n63 + Nat.log2 s.n28 + Nat.log2 s.n29 + Nat.log2 s.n30 + Nat.log2 s.n65 + Nat.log2 s.n67 + Nat.log2 s.n69 + Nat.log2 s.n34 + Nat.log2 s.n36 + Nat.log2 s.n37 + Nat.log2 s.n61 + Nat.log2 s.n60 + Nat.log2 s.n49 + Nat.log2 s.n51 + NC.lg s.nC + phC s.rw + ndC s.n19 := rfl
    rw [e]
    unfold phiC
    omega
  · have := g1.slots; have := g2.slots
    have e : phiS (s.do_feed (nI tq.length) N1 b1 (nI tq.length) N2 b2) = 2 * (N1 + N2 + s.n71 + s.n78 + s.n74 + s.n8 + s.n76 + s.n21 + s.n63 + s.n28 + s.n29 + s.n30 + s.n65 + s.n67 + s.n69 + s.n34 + s.n36 + s.n37 + s.n61 + s.n60 + s.n49 + s.n51) + 2 * NC.sm s.nC + phS s.rw + ndS s.n19 := rfl
    rw [e]
    unfold phiS
    omega
  · rw [show c1 + c2 + c' = c1 + (c2 + c') by omega, show s1 + s2 + sl' = s1 + (s2 + sl') by omega]
    exact law_feed hL hL2 hop (by rw [h.t2]; exact e1) (by rw [h.t4]; exact e2) rfl hh
theorem st_rewind (hL : i + 6 ≤ L) (hL2 : L ≤ 4000) (h : INV s tp fo sp so) (hop : xs i &&& 15 = 10) : LStp L xs n_ou B n_m2 b_m2 i s := by
  have hroom := h.o1.room
  have hle := h.o1.le
  obtain ⟨N1, b1, c1, s1, e1, v1, g1⟩ := Eq_rewind h.o1 h.t1 (z := s.f1_1) (ft := s.f0_7)
  obtain ⟨N2, b2, c2, s2, e2, v2, g2, o2⟩ := Mo_rewind h.o3 (by omega) h.t3 (z := s.f4_1) (q1 := s.f3_8) (q2 := s.f3_13) (q3 := s.f3_14) (q4 := s.f3_16) (q5 := s.f3_17) (q6 := s.f3_18) (q7 := s.f3_19) (q8 := s.f3_23) (q9 := s.f3_36)
  refine ⟨s.do_rewind (nI fo.length) N1 b1 (nI fo.length) N2 b2, fo, fo, sp, so, c1 + c2, s1 + s2, ?_, ?_, ?_, fun fu R c' sl' hh => ?_⟩
  · have hb : N2 ≤ 131072 := by have := h.t5; omega
    exact ⟨v1, rfl, v2, rfl, hb, h.o1, h.o2, h.o3, h.o4, h.o5, h.p1, h.p2, h.r1, h.r2, h.fl, h.rd, h.fr, h.tc, h.m38, h.m4, h.m9, h.m5, h.m6, h.m7, h.m10, h.m11, h.m12, h.m20, h.m21, h.m22, h.m32, h.m33, h.m34, h.m35, h.nc, h.tr⟩
  · have := g1.cells; have := g2.cells
    have e : phiC (s.do_rewind (nI fo.length) N1 b1 (nI fo.length) N2 b2) = Nat.log2 N1 + Nat.log2 N2 + Nat.log2 s.n71 + Nat.log2 s.n78 + Nat.log2 s.n74 + Nat.log2 s.n8 + Nat.log2 s.n76 + Nat.log2 s.n21 + Nat.log2 s.n63 + Nat.log2 s.n28 + Nat.log2 s.n29 + Nat.log2 s.n30 + Nat.log2 s.n65 + Nat.log2 s.n67 + Nat.log2 s.n69 + Nat.log2 s.n34 + Nat.log2 s.n36 + Nat.log2 s.n37 + Nat.log2 s.n61 + Nat.log2 s.n60 + Nat.log2 s.n49 + Nat.log2 s.n51 + NC.lg s.nC + phC s.rw + ndC s.n19 := rfl
    rw [e]
    unfold phiC
    omega
  · have := g1.slots; have := g2.slots
    have e : phiS (s.do_rewind (nI fo.length) N1 b1 (nI fo.length) N2 b2) = 2 * (N1 + N2 + s.n71 + s.n78 + s.n74 + s.n8 + s.n76 + s.n21 + s.n63 + s.n28 + s.n29 + s.n30 + s.n65 + s.n67 + s.n69 + s.n34 + s.n36 + s.n37 + s.n61 + s.n60 + s.n49 + s.n51) + 2 * NC.sm s.nC + phS s.rw + ndS s.n19 := rfl
    rw [e]
    unfold phiS
    omega
  · rw [show c1 + c2 + c' = c1 + (c2 + c') by omega, show s1 + s2 + sl' = s1 + (s2 + sl') by omega]
    exact law_rewind hL hL2 hop (by rw [h.o2]; exact e1) (by rw [h.o4]; exact e2) rfl hh
end Law
end
