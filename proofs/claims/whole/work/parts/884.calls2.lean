section
theorem Vec.take' {N : Nat} {a : Nat → Int32} {l : List Int32} (h : Vec N a l) (k : Nat) : Vec N a (l.take k) :=
  ⟨by rw [List.length_take]; have := h.le; omega, h.pos, h.room, fun i hi => by
    rw [List.length_take] at hi
    rw [List.getElem_take]; exact h.at' i (by omega)⟩
theorem lg_same (x : Int64) : lg_cmp x x = 0 := by
  unfold lg_cmp
  rw [if_neg (show ¬ x > x from Int64.lt_irrefl), if_pos rfl]
section Law
variable {L : Nat} {xs : Nat → Int32} {n_ou : Nat} {B : Nat → Int32} {n_m2 : Nat} {b_m2 : Nat → Int32}
variable {s : LW} {tp fo sp so : List Nat}
variable {i : Nat}
theorem st_endc (hL : i + 6 ≤ L) (hL2 : L ≤ 4000) (h : INV s tp fo sp so) (hou : 0 < n_ou) (hop : xs i &&& 15 = 1) : LStp L xs n_ou B n_m2 b_m2 i s := by
  have hroom := h.t1.room
  have hle := h.t1.le
  by_cases hbad : xs (i + 1) < 0 ∨ (20 : Int32) < xs (i + 1) ∨ tp.length < 20
  · have h20 : tp.length < 20 → nI tp.length < (20 : Int32) := fun e => by rw [show (20 : Int32) = nI 20 from Eq.refl _, nI_lt' (by omega) (by omega)]; exact e
    refine ⟨s.do_end s.f1_1 1 s.f4_1 s.b6, tp, fo, sp, so, 1, 6, ?_, ?_, ?_, fun fu R c' sl' hh => ?_⟩
    · exact ⟨h.t1, h.t2, h.t3, h.t4, h.t5, h.o1, h.o2, h.o3, h.o4, h.o5, h.p1, h.p2, h.r1, h.r2, h.fl, h.rd, h.fr, h.tc, h.m38, h.m4, h.m9, h.m5, h.m6, h.m7, h.m10, h.m11, h.m12, h.m20, h.m21, h.m22, h.m32, h.m33, h.m34, h.m35, h.nc, h.tr⟩
    · show 1 + phiC s ≤ phiC s + 1; omega
    · show 6 + phiS s ≤ phiS s + 6; omega
    · refine law_end1 (r46 := 0) hL hL2 hop ?_ ?_ hh
      · unfold F_La_end
        by_cases c1 : xs (i + 1) < 0
        · rw [if_pos c1]; rfl
        · rw [if_neg c1]
          by_cases c2 : (20 : Int32) < xs (i + 1)
          · rw [if_pos c2]; rfl
          · rw [if_neg c2, if_pos (show s.f1_1 < 20 by
              rw [h.t2]
              exact h20 ((hbad.resolve_left c1).resolve_left c2))]; rfl
      · unfold F_Mo_end F_Mo_end_28
        by_cases c1 : xs (i + 1) < 0
        · rw [if_pos c1, if_neg (by decide)]
        · rw [if_neg c1]
          by_cases c2 : (20 : Int32) < xs (i + 1)
          · rw [if_pos c2, if_neg (by decide)]
          · rw [if_neg c2, if_pos (show s.f4_1 < 20 by
              rw [h.t4]
              exact h20 ((hbad.resolve_left c1).resolve_left c2)), if_neg (by decide)]
  · have c1 : ¬ xs (i + 1) < 0 := fun e => hbad (Or.inl e)
    have c2 : ¬ (20 : Int32) < xs (i + 1) := fun e => hbad (Or.inr (Or.inl e))
    have c3 : 20 ≤ tp.length := by
      rcases Nat.lt_or_ge tp.length 20 with e | e
      · exact absurd (Or.inr (Or.inr e)) hbad
      · exact e
    obtain ⟨k, hk, hk31⟩ := pos_n c1
    have hk20 : k ≤ 20 := by
      rw [hk, show (20 : Int32) = nI 20 from Eq.refl _, nI_lt' (by omega) (by omega)] at c2
      omega
    have hn20 : ¬ nI tp.length < (20 : Int32) := by rw [show (20 : Int32) = nI 20 from Eq.refl _, nI_lt' (by omega) (by omega)]; omega
    have hlt : (tp.take (tp.length - 20 + k)).length = tp.length - 20 + k := by rw [List.length_take]; omega
    have hx : nI tp.length - 20 + nI k = nI (tp.length - 20 + k) := by
      rw [show (20 : Int32) = nI 20 from Eq.refl _, nI_sub' (by omega)]
      exact nI_add' _ _
    have hcut : F_Rw_cut (nI tp.length - 20 + nI k) (nI tp.length) = nI (tp.length - 20 + k) := by
      unfold F_Rw_cut
      rw [hx, if_neg (show ¬ nI (tp.length - 20 + k) < 0 by rw [show (0 : Int32) = nI 0 from Eq.refl _, nI_lt' (by omega) (by omega)]; omega)]
      by_cases c : tp.length ≤ tp.length - 20 + k
      · rw [if_pos (show nI tp.length ≤ nI (tp.length - 20 + k) by rw [nI_le' (by omega) (by omega)]; exact c)]
        congr 1; omega
      · rw [if_neg (show ¬ nI tp.length ≤ nI (tp.length - 20 + k) by rw [nI_le' (by omega) (by omega)]; exact c)]
    have hmo : nI tp.length - (20 - nI k) = nI (tp.length - 20 + k) := by
      rw [show (20 : Int32) = nI 20 from Eq.refl _, nI_sub' (show k ≤ 20 by omega), nI_sub' (by omega)]
      congr 1; omega
    refine ⟨s.do_end (nI (tp.length - 20 + k)) 0 (nI (tp.length - 20 + k)) (va_up s.b6 0 (nI (tp.length - 20 + k)).toInt64), tp.take (tp.length - 20 + k), fo, sp, so, 0, 0, ?_, ?_, ?_, fun fu R c' sl' hh => ?_⟩
    · have v := h.t3.take' (tp.length - 20 + k)
      rw [← List.map_take] at v
      exact ⟨h.t1.take _, by rw [hlt], v, by rw [hlt], h.t5, h.o1, h.o2, h.o3, h.o4, h.o5, h.p1, h.p2, h.r1, h.r2, h.fl, h.rd, h.fr, h.tc, h.m38, h.m4, h.m9, h.m5, h.m6, h.m7, h.m10, h.m11, h.m12, h.m20, h.m21, h.m22, h.m32, h.m33, h.m34, h.m35, h.nc, h.tr⟩
    · show 0 + phiC s ≤ phiC s + 1; omega
    · show 0 + phiS s ≤ phiS s + 6; omega
    · refine law_end0 (r46 := nI (tp.length - 20 + k)) hL hL2 hop ?_ ?_ hou ?_ hh
      · unfold F_La_end nm
        rw [if_neg c1, if_neg c2, h.t2, if_neg hn20, hk, hcut]
        exact inb_ok (i := 0) hou (by omega)
      · unfold F_Mo_end F_Mo_end_28
        rw [if_neg c1, if_neg c2, h.t4, if_neg hn20, if_pos (by decide), hk, hmo]
      · show lg_cmp (va_up s.b6 0 (nI (tp.length - 20 + k)).toInt64 0) _ = 0
        rw [show va_up s.b6 0 (nI (tp.length - 20 + k)).toInt64 0 = (nI (tp.length - 20 + k)).toInt64 from if_pos rfl]
        exact lg_same _
theorem st_write (hL : i + 6 ≤ L) (hL2 : L ≤ 4000) (h : INV s tp fo sp so) (hr : RkIs n_m2 b_m2) (hop : xs i &&& 15 = 8) : LStp L xs n_ou B n_m2 b_m2 i s := by
  have hro := h.o1.room
  have hlo := h.o1.le
  rcases h.tr with ⟨h1, h2⟩ | ⟨X, j, mk, ex, h1, h2, h3, h4, h5, h6, h7, h8, h9, h10, h11, h12, h13, h14, h15, h16, h17, h18, h19⟩
  · refine ⟨s.do_write s.f70_1 s.n71 s.b71 s.f72_3 s.f72_4 s.f73_1 s.n74 s.b74 s.f75_1 s.n76 s.b76 s.f77_1 s.n78 s.b78, tp, fo, sp, so, 0, 0, ?_, ?_, ?_, fun fu R c' sl' hh => ?_⟩
    · exact ⟨h.t1, h.t2, h.t3, h.t4, h.t5, h.o1, h.o2, h.o3, h.o4, h.o5, h.p1, h.p2, h.r1, h.r2, h.fl, h.rd, h.fr, h.tc, h.m38, h.m4, h.m9, h.m5, h.m6, h.m7, h.m10, h.m11, h.m12, h.m20, h.m21, h.m22, h.m32, h.m33, h.m34, h.m35, h.nc, h.tr⟩
    · show 0 + phiC s ≤ phiC s + 1; omega
    · show 0 + phiS s ≤ phiS s + 6; omega
    · have := law_write (r263 := -1) (r284 := -1) (c0 := 0) (s0 := 0) (c1 := 0) (s1 := 0) hL hL2 hop (by unfold F_Eq_writeB; rw [if_pos h1]) (by unfold F_Mo_write; rw [if_pos h2]) rfl hh
      rw [Nat.zero_add, Nat.zero_add] at this
      rw [Nat.zero_add, Nat.zero_add]
      rw [Nat.zero_add, Nat.zero_add] at this
      exact this
  · have ht : TextIs so.length (txf so) := h.r1.text
    have hc := tkC ht
    have hm : (cutE so.length (txf so)).length ≤ 16385 := (tkOK ht).le
    have hl8 := h8.le
    rw [List.length_map] at hl8
    have hx : TxA so.length (txf so) s.n67 s.b67 s.n69 s.b69 s.n63 s.b63 := scan_tx h10 h11 hl8 (tp_at h8)
    have hn := ht.le
    have hT : TkOK (tkT so.length (txf so)) (j + 1) := by rw [h6]; exact tkOK ht
    have hk : KdIs (j + 1) s.n65 s.b65 (tkT so.length (txf so)).tkd := by rw [h6]; exact scan_kd ht h9
    have hszn : Tr.sz (Tr.nd rootL X) = Tr.sz X + 1 := rfl
    obtain ⟨ok, d', z', N', b', c1, s1, e1, g1, hw⟩ := Wr_fits ht h.r1.is h3 h.tc.b (by omega) h4 (SV.ok ht hc h5) h.p1 s.f72_3 s.f72_4
    obtain ⟨nl, hq⟩ := h19 0
    obtain ⟨l', N38', N37', b38', a37', c2, s2, c3, s3, c4, s4, e2, v2, g2, v3, g3, o3, ec, es⟩ := Mo_wr (T := tkT so.length (txf so)) (tx := txX so.length (txf so)) (w := wS (tkT so.length (txf so)) (txX so.length (txf so)) 0 X) hk hT h16 h17 h18.1 (fun i => by have := h18.2 i; omega) hr (q1 := s.f3_8) (q2 := s.f3_13) (q3 := s.f3_14) (q4 := s.f3_16) (q5 := s.f3_17) (q6 := s.f3_18) (q7 := s.f3_19) (q8 := s.f3_23) (q9 := s.f3_36) (z6 := s.f66_1) (z7 := s.f68_1) (z4 := s.f62_1) (z34 := s.f48_1) (z35 := s.f50_1) (z38 := s.f75_1) (z37 := s.f77_1) (z4' := s.f20_1) (z5' := s.f22_1) (z6' := s.f23_1) (z7' := s.f24_1) (fun i hi N b l hl hv => Mo_sayTk ht hx (by rw [← h6]; exact hi) hl hv) (fun i hi => by
      have := cut_in (n := so.length) (x := txf so) ht (i := i) (by rw [← h6]; exact hi)
      rw [txX_len]
      omega) (by rw [h1]; decide) ⟨nl, by rw [Nat.add_sub_cancel]; exact hq⟩ (l0 := []) (b := s.b76) ⟨h.m38.vec (by omega) _, by have := h.m38.2; omega⟩ h.o3 (by rw [List.length_map]; exact h.o4)
    obtain ⟨W, hWe⟩ : ∃ W, W = wS (tkT so.length (txf so)) (txX so.length (txf so)) 0 X := ⟨_, rfl⟩
    rw [← hWe] at hw e2 v3
    have hcap38 : Cap 524288 N38' := ⟨v2.1.pos, v2.2⟩
    rcases hw with ⟨k1, k2, k3, Ln, k4, k5⟩ | ⟨k1, k2, Ln, k3, k4⟩
    · have hWl : W.length = Ln.length := by rw [k4, List.length_map]
      rw [if_pos k1] at e2 v3
      rw [if_pos k1] at e2
      refine ⟨s.do_write z' N' b' d' ok s.f70_1 s.n71 s.b71 (nI l'.length) N38' b38' (nI W.length) N37' a37', tp, Ln, fo, so, c1 + c2, s1 + s2, ?_, ?_, ?_, fun fu R c' sl' hh => ?_⟩
      · rw [k4] at v3
        exact ⟨h.t1, h.t2, h.t3, h.t4, h.t5, k5, k3.trans (congrArg nI hWl), v3, congrArg nI hWl, by have := h.o5; show N37' ≤ 131072; omega, h.o1, h.o2, h.r1, h.r2, h.fl, h.rd, h.fr, h.tc, hcap38, h.m4, h.m9, h.m5, h.m6, h.m7, h.m10, h.m11, h.m12, h.m20, h.m21, h.m22, h.m32, h.m33, h.m34, h.m35, h.nc, h.tr⟩
      · have := g1.cells; have := g2.cells; have := g3.cells
        have e : phiC (s.do_write z' N' b' d' ok s.f70_1 s.n71 s.b71 (nI l'.length) N38' b38' (nI W.length) N37' a37') = Nat.log2 s.n2 + Nat.log2 s.n5 + Nat.log2 N' + Nat.log2 N37' + Nat.log2 s.n71 + Nat.log2 s.n8 + Nat.log2 N38' + Nat.log2 s.n21 + Nat.log2 s.n63 + Nat.log2 s.n28 + Nat.log2 s.n29 + Nat.log2 s.n30 + Nat.log2 s.n65 + Nat.log2 s.n67 + Nat.log2 s.n69 + Nat.log2 s.n34 + Nat.log2 s.n36 + Nat.log2 s.n37 + Nat.log2 s.n61 + Nat.log2 s.n60 + Nat.log2 s.n49 + Nat.log2 s.n51 + NC.lg s.nC + phC s.rw + ndC s.n19 := rfl
        rw [e]
        unfold phiC
        omega
      · have := g1.slots; have := g2.slots; have := g3.slots
        have e : phiS (s.do_write z' N' b' d' ok s.f70_1 s.n71 s.b71 (nI l'.length) N38' b38' (nI W.length) N37' a37') = 2 * (s.n2 + s.n5 + N' + N37' + s.n71 + s.n8 + N38' + s.n21 + s.n63 + s.n28 + s.n29 + s.n30 + s.n65 + s.n67 + s.n69 + s.n34 + s.n36 + s.n37 + s.n61 + s.n60 + s.n49 + s.n51) + 2 * NC.sm s.nC + phS s.rw + ndS s.n19 := rfl
        rw [e]
        unfold phiS
        omega
      · rw [show c1 + c2 + c' = (c1 + 0) + (c2 + c') by omega, show s1 + s2 + sl' = (s1 + 0) + (s2 + sl') by omega]
        refine law_write (r263 := z') (r284 := nI W.length) hL hL2 hop ?_ (by rw [h12]; exact e2) k3 hh
        unfold F_Eq_writeB
        rw [if_neg (show ¬ s.f18_1 = 0 by rw [h2, show (0 : Int32) = nI 0 from Eq.refl _, nI_eq' (by omega) (by omega)]; omega), h2, h.p2, h.r2]
        refine bw_ok e1 ?_
        dsimp only
        rw [if_neg (show ¬ ok = 0 by rw [k2]; decide)]
    · have hnl : ¬ W.length ≤ 65536 := by omega
      rw [if_neg hnl] at e2 v3
      rw [if_neg hnl, List.length_map] at e2
      refine ⟨s.do_write s.f70_1 s.n71 s.b71 d' ok z' N' b' (nI l'.length) N38' b38' (nI fo.length) N37' a37', tp, fo, Ln, so, c1 + c2, s1 + s2, ?_, ?_, ?_, fun fu R c' sl' hh => ?_⟩
      · have hN37 : N37' ≤ 131072 := by have := h.o5; omega
        exact ⟨h.t1, h.t2, h.t3, h.t4, h.t5, h.o1, h.o2, v3, rfl, hN37, k4, k3, h.r1, h.r2, h.fl, h.rd, h.fr, h.tc, hcap38, h.m4, h.m9, h.m5, h.m6, h.m7, h.m10, h.m11, h.m12, h.m20, h.m21, h.m22, h.m32, h.m33, h.m34, h.m35, h.nc, h.tr⟩
      · have := g1.cells; have := g2.cells; have := g3.cells
        have e : phiC (s.do_write s.f70_1 s.n71 s.b71 d' ok z' N' b' (nI l'.length) N38' b38' (nI fo.length) N37' a37') = Nat.log2 s.n2 + Nat.log2 s.n5 + Nat.log2 s.n71 + Nat.log2 N37' + Nat.log2 N' + Nat.log2 s.n8 + Nat.log2 N38' + Nat.log2 s.n21 + Nat.log2 s.n63 + Nat.log2 s.n28 + Nat.log2 s.n29 + Nat.log2 s.n30 + Nat.log2 s.n65 + Nat.log2 s.n67 + Nat.log2 s.n69 + Nat.log2 s.n34 + Nat.log2 s.n36 + Nat.log2 s.n37 + Nat.log2 s.n61 + Nat.log2 s.n60 + Nat.log2 s.n49 + Nat.log2 s.n51 + NC.lg s.nC + phC s.rw + ndC s.n19 := rfl
        rw [e]
        unfold phiC
        omega
      · have := g1.slots; have := g2.slots; have := g3.slots
        have e : phiS (s.do_write s.f70_1 s.n71 s.b71 d' ok z' N' b' (nI l'.length) N38' b38' (nI fo.length) N37' a37') = 2 * (s.n2 + s.n5 + s.n71 + N37' + N' + s.n8 + N38' + s.n21 + s.n63 + s.n28 + s.n29 + s.n30 + s.n65 + s.n67 + s.n69 + s.n34 + s.n36 + s.n37 + s.n61 + s.n60 + s.n49 + s.n51) + 2 * NC.sm s.nC + phS s.rw + ndS s.n19 := rfl
        rw [e]
        unfold phiS
        omega
      · rw [show c1 + c2 + c' = (c1 + 0) + (c2 + c') by omega, show s1 + s2 + sl' = (s1 + 0) + (s2 + sl') by omega]
        refine law_write (r263 := -1) (r284 := -1) hL hL2 hop ?_ (by rw [h12]; exact e2) rfl hh
        unfold F_Eq_writeB
        rw [if_neg (show ¬ s.f18_1 = 0 by rw [h2, show (0 : Int32) = nI 0 from Eq.refl _, nI_eq' (by omega) (by omega)]; omega), h2, h.p2, h.r2]
        refine bw_ok e1 ?_
        dsimp only
        rw [if_pos k2]
end Law
end
