section
section Rd
variable {N : Nat} {b : Nat → Int32} {tp : List Nat}
variable {c : Rw} {d : Nat}
variable {ft zs ct : Int32} {Ns Nt : Nat} {bs bt : Nat → Int32} {a1 a2 a3 a4 a5 a6 f1 f2 f3 f4 f5 f6 f7 f8 f9 f10 f11 f12 f13 u1 u2 u3 u4 q1 q2 q3 : Int32}
/-- the class refuses a text -/
theorem Eq_rd_no (hv : RowV N b tp) (hc : RVd c d) {j : Nat} (hj : rdP (tkT tp.length (fun i => tp.getD i 0)).tkd (SNm tp.length (fun i => tp.getD i 0)) 999999 0 [] [] = .inl j) : ∃ (c' : Rw) (d' : Nat) (r5 r6 r7 r8 r9 r11 r12 r13 r14 r15 r16 r17 r18 r19 r20 r21 r22 r23 r24 r25 r26 r27 r28 r29 r30 : Int32) (k sl : Nat), F_Eq_readB ft zs Ns bs c.fn d c.cf a1 a2 a3 a4 a5 a6 f1 f2 f3 f4 f5 f6 f7 f8 f9 f10 f11 f12 f13 u1 u2 u3 u4 q1 q2 q3 (nI tp.length) N b c.nD c.bD c.nW c.bW c.nF c.bF ct Nt bt = some ((c'.fn, d', c'.cf, -1, nI ((cutE tp.length (fun i => tp.getD i 0)).getD j (0, 0, 0)).2.1, r5, r6, r7, r8, r9, nI ((cutE tp.length (fun i => tp.getD i 0)).getD j (0, 0, 0)).2.1, r11, r12, r13, r14, r15, r16, r17, r18, r19, r20, r21, r22, r23, r24, r25, r26, r27, r28, r29, r30, ct, 0, zs, c'.nD, c'.bD, c'.nW, c'.bW, c'.nF, c'.bF, Nt, bt, N, b, Ns, bs), k, sl) ∧ RVd c' d' ∧ Gw c c' k sl ∧ j < (cutE tp.length (fun i => tp.getD i 0)).length := by
  have ht := hv.text
  have hr := hv.is
  have hle := hv.le
  have hroom := hv.room
  have hb := read_both (sm := smI tp.length (fun i => tp.getD i 0)) ht
  rw [show rdP (tkT tp.length (fun i => tp.getD i 0)).tkd (sameT (tkT tp.length (fun i => tp.getD i 0)) (smI tp.length (fun i => tp.getD i 0))) 999999 0 [] [] = .inl j from hj] at hb
  obtain ⟨hj1, hgo⟩ := hb
  obtain ⟨⟨r1, r2, r3, r4, r5, r6, r7, r8, r9, r10, r11, r12, r13, r14, r15, r16, r17, r18, r19, r20, r21, r22, r23, r24, r25, r26, r27, r28, r29, r30, r31, r32, r33, r34, r35, r36⟩, k, sl, e, hE⟩ := Rd_take ht hr (fun p q w hw => Rw_same hr p q w hw) hc a1 a2 a3 a4 a5 a6 f1 f2 f3 f4 f5 f6 f7 f8 f9 f10 f11 f12 f13 u1 u2 u3 u4 q1 q2 q3
  rw [hgo] at hE
  obtain ⟨h1, h2, c', h3, h4, h5, h6, h7⟩ := hE
  dsimp only at h1 h2 h3 h5 h6 h7
  simp only [Prod.mk.injEq] at h7
  obtain ⟨h71, h72, h73, h74, h75, h76⟩ := h7
  subst h1 h2 h5 h6 h71 h72 h73 h74 h75 h76
  refine ⟨c', r2, r5, r6, r7, r8, r9, r11, r12, r13, r14, r15, r16, r17, r18, r19, r20, r21, r22, r23, r24, r25, r26, r27, r28, r29, r30, k + 0, sl + 0, ?_, h3, h4, hj1⟩
  unfold F_Eq_readB
  refine bw_ok e ?_
  dsimp only
  rw [if_pos rfl]
  unfold nm
  rw [Rw_cut0 (by omega)]
/-- the class reads a text -/
theorem Eq_rd_yes (hv : RowV N b tp) (hc : RVd c d) {j Ls : Nat} (hLs : Ls < 2 ^ 31) (hzs : zs = nI Ls) {l0 : List (Nat → Int32)} (hNt : NdV Nt bt l0) (hj : rdP (tkT tp.length (fun i => tp.getD i 0)).tkd (SNm tp.length (fun i => tp.getD i 0)) 999999 0 [] [] = .inr j) : ∃ (X : Tr Lb) (c' : Rw) (d' Nt' : Nat) (bt' : Nat → Int32) (r5 r6 r7 r8 r9 r11 r12 r13 r14 r15 r16 r17 r18 r19 r20 r21 r22 r23 r24 r25 r26 r27 r28 r29 r30 : Int32) (k sl k1 s1 k2 s2 : Nat), F_Eq_readB ft zs Ns bs c.fn d c.cf a1 a2 a3 a4 a5 a6 f1 f2 f3 f4 f5 f6 f7 f8 f9 f10 f11 f12 f13 u1 u2 u3 u4 q1 q2 q3 (nI tp.length) N b c.nD c.bD c.nW c.bW c.nF c.bF ct Nt bt = some ((c'.fn, d', c'.cf, nI j, -1, r5, r6, r7, r8, r9, -1, r11, r12, r13, r14, r15, r16, r17, r18, r19, r20, r21, r22, r23, r24, r25, r26, r27, r28, r29, r30, nI (Tr.sz X + 1), 0, nI tp.length, c'.nD, c'.bD, c'.nW, c'.bW, c'.nF, c'.bF, Nt', bt', Ns, bs, N, b), k, sl) ∧ RVd c' d' ∧ Gw c c' k1 s1 ∧ GrowN Nt Nt' k2 s2 ∧ k = k1 + k2 ∧ sl = s1 + s2 ∧ ndCap Nt' ∧ (Tr.sz X + 1) * 7 ≤ Nt' ∧ Tr.TH bt' 0 (-1) (Tr.nd rootL X) ∧ SV (tkT tp.length (fun i => tp.getD i 0)) 1 0 j X ∧ j + 1 = (cutE tp.length (fun i => tp.getD i 0)).length ∧ Tr.sz X ≤ j := by
  have ht := hv.text
  have hr := hv.is
  have hle := hv.le
  have hroom := hv.room
  have hm := (tkOK ht).le
  have hb := read_both (sm := smI tp.length (fun i => tp.getD i 0)) ht
  rw [show rdP (tkT tp.length (fun i => tp.getD i 0)).tkd (sameT (tkT tp.length (fun i => tp.getD i 0)) (smI tp.length (fun i => tp.getD i 0))) 999999 0 [] [] = .inr j from hj] at hb
  obtain ⟨hj1, _, X, f, fs, hgo, hSV, hip, hsz⟩ := hb
  obtain ⟨⟨r1, r2, r3, r4, r5, r6, r7, r8, r9, r10, r11, r12, r13, r14, r15, r16, r17, r18, r19, r20, r21, r22, r23, r24, r25, r26, r27, r28, r29, r30, r31, r32, r33, r34, r35, r36⟩, k, sl, e, hE⟩ := Rd_take ht hr (fun p q w hw => Rw_same hr p q w hw) hc a1 a2 a3 a4 a5 a6 f1 f2 f3 f4 f5 f6 f7 f8 f9 f10 f11 f12 f13 u1 u2 u3 u4 q1 q2 q3
  rw [hgo] at hE
  obtain ⟨c', tk, nx, kd, st, wd, h1, h2, h3⟩ := hE
  have hdr : ((SRs (tkT tp.length (fun i => tp.getD i 0)) [] fs X f []).add 0 0 (-1) f.ip 0).draft = Tr.pn (Tr.nd rootL X) := by
    show Rs.nadd (Tr.pn X) 0 0 (-1) f.ip 0 = _
    rw [hip]
    exact nadd_pn (x := .leaf) (y := X) (-1) (by rw [Tr.sz]; omega)
  have hlen : (Tr.pn (Tr.nd rootL X)).length = Tr.sz X + 1 := by rw [Tr.pn_len]; rfl
  have hRV := h2.2.2.1.1
  rw [hdr] at hRV
  have hDH : Tr.DH c'.bD 0 (Tr.nd rootL X) := DH_pn (Tr.nd rootL X) [] [] (by
    rw [List.nil_append, List.append_nil]; exact hRV.tab)
  have hcap := hRV.cap.le
  have htl := hRV.tab.le
  rw [List.length_map, hlen] at htl
  obtain ⟨Nt', bg', bt', k2, s2, g1, g2, g3, g4, g5, g6⟩ := Nd_arrange (z := 0) (a := rootL) (u := ()) (l := X) (Ng := c'.nD) (bg := c'.bD) (by omega) (by omega) (by omega) hDH hNt ct
  unfold Rs.RT at h1
  rw [hdr, hlen] at h1
  simp only [Prod.mk.injEq] at h1
  obtain ⟨x1, x2, x3, x4, x5, x6, x7, x8, x9, x10, x11, x12, x13, x14, x15, x16, x17, x18, x19, x20, x21, x22, x23, x24, x25, x26, x27, x28, x29, x30, x31, x32, x33, x34, x35, x36⟩ := h1
  refine ⟨X, c'.s_bD bg', r2, Nt', bt', r5, r6, r7, r8, r9, r11, r12, r13, r14, r15, r16, r17, r18, r19, r20, r21, r22, r23, r24, r25, r26, r27, r28, r29, r30, k + (k2 + 0), sl + (s2 + 0), k, sl, k2, s2, ?_, ?_, h3, g6, by omega, by omega, g2, g3, g4, hSV, hj1, hsz⟩
  · unfold F_Eq_readB
    refine bw_ok e ?_
    dsimp only
    rw [x4, x1, x3, x10, x28, x31, x32, x33, x34, x35, x36, if_neg (show ¬ nI j = -1 by
      rw [show (-1 : Int32) = nI (2 ^ 32 - 1) from rfl]
      intro h
      have h9 := congrArg Int32.toNatClampNeg h
      rw [nI_clamp' (by omega)] at h9
      have h8 : Int32.toNatClampNeg (nI (2 ^ 32 - 1)) = 0 := rfl
      have h7 := congrArg (fun y : Int32 => decide (y < 0)) h
      rw [h8] at h9
      subst h9
      exact absurd h (by decide))]
    refine bw_ok g1 ?_
    unfold nm
    dsimp only
    rw [hzs, Rw_cut0 hLs]
  · rw [x2]
    exact h2.dead
end Rd
end

section
/-! the reference's read -/
section Sc
variable {tp : List Nat}
/-- what the cut has left in the arrays -/
theorem scan_kd {n : Nat} {x : Nat → Nat} (ht : TextIs n x) {N : Nat} {a : Nat → Int32} (h : Vec N a ((cutE n x).map (fun t => nI t.1))) : KdIs (cutE n x).length N a (tkT n x).tkd := by
  have hT := tkOK ht
  have h1 := h.le
  rw [List.length_map] at h1
  refine ⟨h1, h.room, fun i hi => ?_, fun i => (hT.ok i).lt, hT.last, hT.pos, hT.end'⟩
  rw [h.at' i (by rw [List.length_map]; exact hi), List.getElem_map]
  show _ = nI ((cutE n x).getD i (0, 0, 0)).1
  rw [List.getD_eq_getElem?_getD, List.getElem?_eq_getElem hi]
  rfl
theorem scan_tx {n : Nat} {x : Nat → Nat} {N6 N7 N4 : Nat} {a6 a7 a4 : Nat → Int32} (h6 : Vec N6 a6 ((cutE n x).map (fun t => nI t.2.1))) (h7 : Vec N7 a7 ((cutE n x).map (fun t => nI t.2.2))) (h4 : n ≤ N4) (hc : ∀ i, i < n → a4 i = nI (x i)) : TxA n x N6 a6 N7 a7 N4 a4 := by
  have l6 := h6.le
  have l7 := h7.le
  rw [List.length_map] at l6 l7
  refine ⟨fun i hi => ?_, fun i hi => ?_, hc, l6, l7, h4⟩
  · rw [h6.at' i (by rw [List.length_map]; exact hi), List.getElem_map, List.getD_eq_getElem?_getD, List.getElem?_eq_getElem hi]
    rfl
  · rw [h7.at' i (by rw [List.length_map]; exact hi), List.getElem_map, List.getD_eq_getElem?_getD, List.getElem?_eq_getElem hi]
    rfl
theorem tp_at {N : Nat} {a : Nat → Int32} (h : Vec N a (tp.map nI)) : ∀ i, i < tp.length → a i = nI ((fun i => tp.getD i 0) i) := fun i hi => by
  rw [h.at' i (by rw [List.length_map]; exact hi), List.getElem_map]
  show _ = nI (tp.getD i 0)
  rw [List.getD_eq_getElem?_getD, List.getElem?_eq_getElem hi]
  rfl
end Sc
/-- a place of its own for the arrays of a reading: text, kinds, places, ends; what they cost -/
abbrev ScO (tp : List Nat) (N4 N5 N6 N7 N4' N5' N6' N7' : Nat) (a4' a5' a6' a7' : Nat → Int32) (c s : Nat) : Prop := (Vec N4' a4' (tp.map nI)) ∧ (Vec N5' a5' ((cutE tp.length (fun i => tp.getD i 0)).map (fun t => nI t.1))) ∧ (Vec N6' a6' ((cutE tp.length (fun i => tp.getD i 0)).map (fun t => nI t.2.1))) ∧ (Vec N7' a7' ((cutE tp.length (fun i => tp.getD i 0)).map (fun t => nI t.2.2))) ∧ (∃ c4 s4 c5 s5 c6 s6 c7 s7, Grow N4 N4' c4 s4 ∧ Grow N5 N5' c5 s5 ∧ Grow N6 N6' c6 s6 ∧ Grow N7 N7' c7 s7 ∧ c = c4 + c5 + c6 + c7 ∧ s = s4 + s5 + s6 + s7) ∧ (N4' = N4 ∨ N4' ≤ 131072) ∧ (N5' = N5 ∨ N5' ≤ 32770) ∧ (N6' = N6 ∨ N6' ≤ 32770) ∧ (N7' = N7 ∨ N7' ≤ 32770)
theorem ScO.v4 {tp : List Nat} {N4 N5 N6 N7 N4' N5' N6' N7' : Nat} {a4' a5' a6' a7' : Nat → Int32} {c s : Nat} (h : ScO tp N4 N5 N6 N7 N4' N5' N6' N7' a4' a5' a6' a7' c s) : Vec N4' a4' (tp.map nI) := h.1
theorem ScO.v5 {tp : List Nat} {N4 N5 N6 N7 N4' N5' N6' N7' : Nat} {a4' a5' a6' a7' : Nat → Int32} {c s : Nat} (h : ScO tp N4 N5 N6 N7 N4' N5' N6' N7' a4' a5' a6' a7' c s) : Vec N5' a5' ((cutE tp.length (fun i => tp.getD i 0)).map (fun t => nI t.1)) := h.2.1
theorem ScO.v6 {tp : List Nat} {N4 N5 N6 N7 N4' N5' N6' N7' : Nat} {a4' a5' a6' a7' : Nat → Int32} {c s : Nat} (h : ScO tp N4 N5 N6 N7 N4' N5' N6' N7' a4' a5' a6' a7' c s) : Vec N6' a6' ((cutE tp.length (fun i => tp.getD i 0)).map (fun t => nI t.2.1)) := h.2.2.1
theorem ScO.v7 {tp : List Nat} {N4 N5 N6 N7 N4' N5' N6' N7' : Nat} {a4' a5' a6' a7' : Nat → Int32} {c s : Nat} (h : ScO tp N4 N5 N6 N7 N4' N5' N6' N7' a4' a5' a6' a7' c s) : Vec N7' a7' ((cutE tp.length (fun i => tp.getD i 0)).map (fun t => nI t.2.2)) := h.2.2.2.1
theorem ScO.gr {tp : List Nat} {N4 N5 N6 N7 N4' N5' N6' N7' : Nat} {a4' a5' a6' a7' : Nat → Int32} {c s : Nat} (h : ScO tp N4 N5 N6 N7 N4' N5' N6' N7' a4' a5' a6' a7' c s) : ∃ c4 s4 c5 s5 c6 s6 c7 s7, Grow N4 N4' c4 s4 ∧ Grow N5 N5' c5 s5 ∧ Grow N6 N6' c6 s6 ∧ Grow N7 N7' c7 s7 ∧ c = c4 + c5 + c6 + c7 ∧ s = s4 + s5 + s6 + s7 := h.2.2.2.2.1
theorem ScO.b4 {tp : List Nat} {N4 N5 N6 N7 N4' N5' N6' N7' : Nat} {a4' a5' a6' a7' : Nat → Int32} {c s : Nat} (h : ScO tp N4 N5 N6 N7 N4' N5' N6' N7' a4' a5' a6' a7' c s) : N4' = N4 ∨ N4' ≤ 131072 := h.2.2.2.2.2.1
theorem ScO.b5 {tp : List Nat} {N4 N5 N6 N7 N4' N5' N6' N7' : Nat} {a4' a5' a6' a7' : Nat → Int32} {c s : Nat} (h : ScO tp N4 N5 N6 N7 N4' N5' N6' N7' a4' a5' a6' a7' c s) : N5' = N5 ∨ N5' ≤ 32770 := h.2.2.2.2.2.2.1
theorem ScO.b6 {tp : List Nat} {N4 N5 N6 N7 N4' N5' N6' N7' : Nat} {a4' a5' a6' a7' : Nat → Int32} {c s : Nat} (h : ScO tp N4 N5 N6 N7 N4' N5' N6' N7' a4' a5' a6' a7' c s) : N6' = N6 ∨ N6' ≤ 32770 := h.2.2.2.2.2.2.2.1
theorem ScO.b7 {tp : List Nat} {N4 N5 N6 N7 N4' N5' N6' N7' : Nat} {a4' a5' a6' a7' : Nat → Int32} {c s : Nat} (h : ScO tp N4 N5 N6 N7 N4' N5' N6' N7' a4' a5' a6' a7' c s) : N7' = N7 ∨ N7' ≤ 32770 := h.2.2.2.2.2.2.2.2
section Rd
variable {tp : List Nat}
variable {N3 N4 N5 N6 N7 N9 N10 N11 N12 N20 N21 N22 N32 N33 N34 N35 n2 : Nat} {a3 a4 a5 a6 a7 a9 a10 a11 a12 a20 a21 a22 a32 a33 a34 a35 b2 B : Nat → Int32}
variable {l4 l5 l6 l7 l20 l21 l22 l32 l33 l34 l35 : List Int32}
variable {q1 q2 q3 q4 q5 q6 q7 q8 q9 z4 z5 z6 z7 z9 z10 z11 z12 z20 z21 z22 w24 w25 w26 w27 w28 w29 w30 w31 w32 w33 w34 w35 : Int32} {C : NC} {f : NFn}
/-- the reference refuses a text -/
theorem Mo_rd_no (ht : TextIs tp.length (fun i => tp.getD i 0)) (hB : ∀ i, i < 309 → B (308 - i) = nI (bnd i)) (hr : RkIs n2 b2) (h3 : Vec N3 a3 (tp.map nI)) (h4 : Vec N4 a4 l4) (h5 : Vec N5 a5 l5) (h6 : Vec N6 a6 l6) (h7 : Vec N7 a7 l7) (h20 : Vec N20 a20 l20) (h21 : Vec N21 a21 l21) (h22 : Vec N22 a22 l22) (k20 : N20 ≤ 600) (k21 : N21 ≤ 600) (k22 : N22 ≤ 65536) {j : Nat} (hj : rdP (tkT tp.length (fun i => tp.getD i 0)).tkd (SNm tp.length (fun i => tp.getD i 0)) 999999 0 [] [] = .inl j) :
    ∃ (N4' N5' N6' N7' N20' N21' N22' : Nat) (a4' a5' a6' a7' a20' a21' a22' : Nat → Int32) (le at' bd lv ls y1 y2 y0 : Int32) (c s c1 s1 c2 s2 : Nat), F_Mo_readB q1 q2 q3 q4 q5 q6 q7 q8 q9 z4 (nI tp.length) N3 a3 N4 a4 z5 z6 z7 309 B N5 a5 N6 a6 N7 a7 z21 z22 z20 N20 a20 n2 b2 N21 a21 N22 a22 w24 w25 w26 w27 w28 w29 w30 w31 w32 w33 w34 N34 a34 w35 N35 a35 C.1 f.1 C.2.1 f.2.1 C.2.2.1 f.2.2.1 C.2.2.2.1 f.2.2.2.1 C.2.2.2.2.1 f.2.2.2.2.1 C.2.2.2.2.2.1 f.2.2.2.2.2.1 C.2.2.2.2.2.2.1 f.2.2.2.2.2.2.1 C.2.2.2.2.2.2.2 f.2.2.2.2.2.2.2 N33 a33 N32 a32 z9 N9 a9 z10 N10 a10 z11 N11 a11 z12 N12 a12 = some ((-1, q1, nI ((cutE tp.length (fun i => tp.getD i 0)).getD j (0, 0, 0)).2.1, le, at', bd, lv, ls, q9, nI tp.length, nI (cutE tp.length (fun i => tp.getD i 0)).length, nI (cutE tp.length (fun i => tp.getD i 0)).length, nI (cutE tp.length (fun i => tp.getD i 0)).length, y1, y2, y0, w24, w25, w26, w27, w28, w29, w30, w31, w32, w33, w34, w35, z9, z10, z11, z12, N4', a4', N5', a5', N6', a6', N7', a7', N21', a21', N22', a22', N20', a20', C.1, f.1, C.2.1, f.2.1, C.2.2.1, f.2.2.1, C.2.2.2.1, f.2.2.2.1, C.2.2.2.2.1, f.2.2.2.2.1, C.2.2.2.2.2.1, f.2.2.2.2.2.1, C.2.2.2.2.2.2.1, f.2.2.2.2.2.2.1, C.2.2.2.2.2.2.2, f.2.2.2.2.2.2.2, N32, a32, N33, a33, N34, a34, N35, a35, N9, a9, N10, a10, N11, a11, N12, a12), c, s) ∧ ScO tp N4 N5 N6 N7 N4' N5' N6' N7' a4' a5' a6' a7' c1 s1 ∧ Vec N20' a20' [] ∧ Vec N21' a21' [] ∧ Vec N22' a22' [] ∧ ArG N20 N21 N22 N20' N21' N22' c2 s2 ∧ c = c1 + c2 ∧ s = s1 + s2 := by
  have hn := ht.le
  have hm := (tkOK ht).le
  have hl3 : (tp.map nI).length = tp.length := List.length_map ..
  obtain ⟨N4', a4', c4, s4, e4, v4, g4, o4⟩ := Nm_become (z := z4) h3 (by rw [hl3]; omega) h4
  rw [hl3] at e4 o4
  have hle4 := v4.le
  rw [hl3] at hle4
  have hnum : NumIs N4' a4' tp.length (fun i => tp.getD i 0) := ⟨hle4, by have := v4.room; omega, tp_at v4⟩
  obtain ⟨N5', N6', N7', a5', a6', a7', le, cc, ss, c5, c6, c7, s5, s6, s7, e5, v5, v6, v7, g5, g6, g7, ec, es, o5, o6, o7⟩ := Mo_cut_28 ht hnum (q1 := q1) (q2 := 0) (q3 := q3) (q5 := q5) (q6 := q6) (q7 := q7) (q8 := q8) (q9 := q9) hB FU (tp.length + 2) 0 [] [] [] N5 N6 N7 a5 a6 a7 q4 (by omega) (by unfold FU; omega) (by omega) (by decide) rfl rfl h5.clear h6.clear h7.clear
  rw [List.nil_append] at v5 v6 v7
  rw [show ([] : List Int32).length = 0 from rfl, Nat.zero_add, show cutL tp.length (fun i => tp.getD i 0) (tp.length + 2) 0 0 = cutE tp.length (fun i => tp.getD i 0) from rfl] at e5
  have hk := scan_kd ht v5
  have hx := scan_tx v6 v7 hle4 (tp_at v4)
  have hpg := Mo_pg ht hk hx hr (q1 := q1) (q2 := 0) (q3 := q3) (q4 := le) (y1 := q5) (y2 := q6) (y3 := q7) (y4 := q8) (q5 := q9) (z1 := z21) (z2 := z22) (z5 := nI (cutE tp.length (fun i => tp.getD i 0)).length) (z0 := z20) (z7 := nI (cutE tp.length (fun i => tp.getD i 0)).length) (z6 := nI (cutE tp.length (fun i => tp.getD i 0)).length) (z4 := nI tp.length) k20 k21 k22 h20 h21 h22
  rw [hj] at hpg
  obtain ⟨at', bd, lv, ls, y0, y1, y2, N20', a20', N21', a21', N22', a22', cA, sA, eA, hmax, hbd, hls, x0, x1, x2, gA⟩ := hpg
  have hN6 := hx.n6
  refine ⟨N4', N5', N6', N7', N20', N21', N22', a4', a5', a6', a7', a20', a21', a22', le, at', nI bd, lv, nI ls, y1, y2, y0, c4 + (cc + (cA + 0)), s4 + (ss + (sA + 0)), c4 + c5 + c6 + c7, s4 + s5 + s6 + s7, cA, sA, ?_, ⟨v4, v5, v6, v7, ⟨c4, s4, c5, s5, c6, s6, c7, s7, g4, g5, g6, g7, rfl, rfl⟩, by omega, by omega, by omega, by omega⟩, x0, x1, x2, gA, by omega, by omega⟩
  unfold F_Mo_readB
  refine bw_ok e4 ?_
  dsimp only
  unfold F_Mo_cut
  refine bw_ok e5 ?_
  dsimp only
  refine bw_ok eA ?_
  dsimp only
  rw [if_pos rfl]
  by_cases c : bd ≤ ls
  · rw [if_pos (show nI bd ≤ nI ls by rw [nI_le' (by omega) (by omega)]; exact c), Nm_at (by omega) (by omega), Option.bind_some, nI_clamp' (by omega), hx.pl ls (by omega), show ls = j by omega]
  · rw [if_neg (show ¬ nI bd ≤ nI ls by rw [nI_le' (by omega) (by omega)]; exact c), Nm_at (by omega) (by omega), Option.bind_some, nI_clamp' (by omega), hx.pl bd (by omega), show bd = j by omega]
/-- the reference reads a text -/
theorem Mo_rd_yes (ht : TextIs tp.length (fun i => tp.getD i 0)) (hB : ∀ i, i < 309 → B (308 - i) = nI (bnd i)) (hr : RkIs n2 b2) (h3 : Vec N3 a3 (tp.map nI)) (h4 : Vec N4 a4 l4) (h5 : Vec N5 a5 l5) (h6 : Vec N6 a6 l6) (h7 : Vec N7 a7 l7) (h20 : Vec N20 a20 l20) (h21 : Vec N21 a21 l21) (h22 : Vec N22 a22 l22) (k20 : N20 ≤ 600) (k21 : N21 ≤ 600) (k22 : N22 ≤ 65536) (h32 : VecT N32 a32 l32) (h33 : VecT N33 a33 l33) (h34 : Vec N34 a34 l34) (h35 : Vec N35 a35 l35) (hC : CapA 0 C) {j : Nat} {X : Tr Lb} (hj : rdP (tkT tp.length (fun i => tp.getD i 0)).tkd (SNm tp.length (fun i => tp.getD i 0)) 999999 0 [] [] = .inr j) (hX : SV (tkT tp.length (fun i => tp.getD i 0)) 1 0 j X) (hjm : j + 1 = (cutE tp.length (fun i => tp.getD i 0)).length) (hsz : Tr.sz X ≤ j) :
    ∃ (N4' N5' N6' N7' N20' N21' N22' N34' N35' : Nat) (a4' a5' a6' a7' a20' a21' a22' : Nat → Int32) (le at' bd lv ls y1 y2 y0 : Int32) (sb : BS) (mk ex : Nat → Nat) (c s c1 s1 c2 s2 c3 s3 c4 s4 c5 s5 : Nat), F_Mo_readB q1 q2 q3 q4 q5 q6 q7 q8 q9 z4 (nI tp.length) N3 a3 N4 a4 z5 z6 z7 309 B N5 a5 N6 a6 N7 a7 z21 z22 z20 N20 a20 n2 b2 N21 a21 N22 a22 w24 w25 w26 w27 w28 w29 w30 w31 w32 w33 w34 N34 a34 w35 N35 a35 C.1 f.1 C.2.1 f.2.1 C.2.2.1 f.2.2.1 C.2.2.2.1 f.2.2.2.1 C.2.2.2.2.1 f.2.2.2.2.1 C.2.2.2.2.2.1 f.2.2.2.2.2.1 C.2.2.2.2.2.2.1 f.2.2.2.2.2.2.1 C.2.2.2.2.2.2.2 f.2.2.2.2.2.2.2 N33 a33 N32 a32 z9 N9 a9 z10 N10 a10 z11 N11 a11 z12 N12 a12 = some ((nI j, 1, -1, le, at', bd, lv, ls, sb.2.2.2.2.1, z9, z10, z11, z12, y1, y2, y0, nI (Tr.sz X + 1), nI (Tr.sz X + 1), nI (Tr.sz X + 1), nI (Tr.sz X + 1), nI (Tr.sz X + 1), nI (Tr.sz X + 1), nI (Tr.sz X + 1), nI (Tr.sz X + 1), nI (5 * 0), 0, nI (j + 1), nI (j + 1), nI tp.length, nI (j + 1), nI (j + 1), nI (j + 1), N9, a9, N10, a10, N11, a11, N12, a12, N21', a21', N22', a22', N20', a20', sb.1.1, sb.2.1.1, sb.1.2.1, sb.2.1.2.1, sb.1.2.2.1, sb.2.1.2.2.1, sb.1.2.2.2.1, sb.2.1.2.2.2.1, sb.1.2.2.2.2.1, sb.2.1.2.2.2.2.1, sb.1.2.2.2.2.2.1, sb.2.1.2.2.2.2.2.1, sb.1.2.2.2.2.2.2.1, sb.2.1.2.2.2.2.2.2.1, sb.1.2.2.2.2.2.2.2, sb.2.1.2.2.2.2.2.2.2, sb.2.2.2.2.2.2.2.1, sb.2.2.2.2.2.2.2.2, sb.2.2.2.2.2.1, sb.2.2.2.2.2.2.1, N34', sb.2.2.1, N35', sb.2.2.2.1, N4', a4', N5', a5', N6', a6', N7', a7'), c, s) ∧ ScO tp N4 N5 N6 N7 N4' N5' N6' N7' a4' a5' a6' a7' c1 s1 ∧ Vec N20' a20' [] ∧ Vec N21' a21' [] ∧ Vec N22' a22' [] ∧ ArG N20 N21 N22 N20' N21' N22' c2 s2 ∧ BOK (j + 1) N34' N35' (Tr.nd rootL X) [] mk ex sb ∧ QS (tkT tp.length (fun i => tp.getD i 0)) (txX tp.length (fun i => tp.getD i 0)) 0 j X mk ex ∧ Grow N34 N34' c3 s3 ∧ Grow N35 N35' c4 s4 ∧ BG (C, f, a34, a35, q9, N33, a33, N32, a32) sb c5 s5 ∧ (N34' = N34 ∨ N34' ≤ 32770) ∧ (N35' = N35 ∨ N35' ≤ 32770) ∧ c = c1 + c2 + c3 + c4 + c5 ∧ s = s1 + s2 + s3 + s4 + s5 := by
  have hn := ht.le
  have hm := (tkOK ht).le
  have hl3 : (tp.map nI).length = tp.length := List.length_map ..
  obtain ⟨N4', a4', c4, s4, e4, v4, g4, o4⟩ := Nm_become (z := z4) h3 (by rw [hl3]; omega) h4
  rw [hl3] at e4 o4
  have hle4 := v4.le
  rw [hl3] at hle4
  have hnum : NumIs N4' a4' tp.length (fun i => tp.getD i 0) := ⟨hle4, by have := v4.room; omega, tp_at v4⟩
  obtain ⟨N5', N6', N7', a5', a6', a7', le, cc, ss, c5, c6, c7, s5, s6, s7, e5, v5, v6, v7, g5, g6, g7, ec, es, o5, o6, o7⟩ := Mo_cut_28 ht hnum (q1 := q1) (q2 := 0) (q3 := q3) (q5 := q5) (q6 := q6) (q7 := q7) (q8 := q8) (q9 := q9) hB FU (tp.length + 2) 0 [] [] [] N5 N6 N7 a5 a6 a7 q4 (by omega) (by unfold FU; omega) (by omega) (by decide) rfl rfl h5.clear h6.clear h7.clear
  rw [List.nil_append] at v5 v6 v7
  rw [show ([] : List Int32).length = 0 from rfl, Nat.zero_add, show cutL tp.length (fun i => tp.getD i 0) (tp.length + 2) 0 0 = cutE tp.length (fun i => tp.getD i 0) from rfl] at e5
  have hk := scan_kd ht v5
  have hx := scan_tx v6 v7 hle4 (tp_at v4)
  have hpg := Mo_pg ht hk hx hr (q1 := q1) (q2 := 0) (q3 := q3) (q4 := le) (y1 := q5) (y2 := q6) (y3 := q7) (y4 := q8) (q5 := q9) (z1 := z21) (z2 := z22) (z5 := nI (cutE tp.length (fun i => tp.getD i 0)).length) (z0 := z20) (z7 := nI (cutE tp.length (fun i => tp.getD i 0)).length) (z6 := nI (cutE tp.length (fun i => tp.getD i 0)).length) (z4 := nI tp.length) k20 k21 k22 h20 h21 h22
  rw [hj] at hpg
  obtain ⟨at', bd, lv, ls, y0, y1, y2, N20', a20', N21', a21', N22', a22', cA, sA, eA, x0, x1, x2, gA⟩ := hpg
  have hp6 : PlIs (cutE tp.length (fun i => tp.getD i 0)).length N6' a6' (tkT tp.length (fun i => tp.getD i 0)) := ⟨hx.n6, v6.room, fun i hi => hx.pl i hi⟩
  have hc := tkC ht
  obtain ⟨sb, N34', N35', mk', ex', cb, sb', c31, s31, c32, s32, c33, s33, eb, b1, b2', b3, b4, b5, b6, b7, b8, b9⟩ := Mo_bd (tkOK ht) hk hp6 hc.tx hc.tw hr (q1 := 1) (q2 := 0) (q3 := -1) (q4 := le) (q5 := at') (q6 := bd) (q7 := lv) (q8 := ls) (q9 := q9) (z6 := nI (cutE tp.length (fun i => tp.getD i 0)).length) (f := f) (F := X) (by rw [← hjm, Nat.add_sub_cancel]; exact hX) (by omega) hC h34 h35 h34.room h35.room h33 h32 w24 w25 w26 w27 w28 w29 w30 w31 w32 w33 w34 w35
  rw [← hjm] at b1 e5 eb eA b8 b9
  rw [← hjm, Nat.add_sub_cancel] at b2'
  refine ⟨N4', N5', N6', N7', N20', N21', N22', N34', N35', a4', a5', a6', a7', a20', a21', a22', le, at', bd, lv, ls, y1, y2, y0, sb, mk', ex', c4 + (cc + (cA + (cb + 0))), s4 + (ss + (sA + (sb' + 0))), c4 + c5 + c6 + c7, s4 + s5 + s6 + s7, cA, sA, c31, s31, c32, s32, c33, s33, ?_, ⟨v4, v5, v6, v7, ⟨c4, s4, c5, s5, c6, s6, c7, s7, g4, g5, g6, g7, rfl, rfl⟩, by omega, by omega, by omega, by omega⟩, x0, x1, x2, gA, b1, b2', b3, b4, b5, by omega, by omega, by omega, by omega⟩
  unfold F_Mo_readB
  refine bw_ok e4 ?_
  dsimp only
  unfold F_Mo_cut
  refine bw_ok e5 ?_
  dsimp only
  refine bw_ok eA ?_
  dsimp only
  rw [if_neg (show ¬ (1 : Int32) = 0 by decide)]
  refine bw_ok eb ?_
  dsimp only
  rw [show nI (j + 1) - 1 = nI j by rw [show (1 : Int32) = nI 1 from Eq.refl _, nI_sub' (by omega)]; rfl]
end Rd
end
