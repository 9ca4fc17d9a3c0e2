section
section St
theorem blk_push {N1 k : Nat} {b1 : Nat → Int32} {bl : List Nat} (hv : BlV N1 b1 bl) (hl : bl.length ≤ 60) (h1 : N1 ≤ 600) : ∃ N1' b1' c s, F_Nm_add (nI k) (nI bl.length) N1 b1 = some ((N1', b1'), c, s) ∧ BlV N1' b1' (k :: bl) ∧ Grow N1 N1' c s ∧ N1' ≤ 600 := by
  have hlen : (bl.reverse.map nI).length = bl.length := by rw [List.length_map, List.length_reverse]
  obtain ⟨N1', b1', c, s, e, g1, g2, g3⟩ := Nm_add hv (by rw [hlen]; omega) (nI k)
  rw [hlen] at e g3
  refine ⟨N1', b1', c, s, e, ?_, g2, ?_⟩
  · show Vec N1' b1' ((k :: bl).reverse.map nI)
    rw [List.reverse_cons, List.map_append]
    exact g1
  · rcases g3 with g | ⟨g, g'⟩ <;> omega
theorem blk_pop {N1 k : Nat} {b1 : Nat → Int32} {bl : List Nat} (hv : BlV N1 b1 (k :: bl)) : BlV N1 b1 bl := by
  have h : Vec N1 b1 (bl.reverse.map nI ++ [nI k]) := by
    have h2 : (k :: bl).reverse.map nI = bl.reverse.map nI ++ [nI k] := by rw [List.reverse_cons, List.map_append]; rfl
    rw [← h2]; exact hv
  exact Vec.pre h
variable {n : Nat} {x : Nat → Nat} {N5 N6 N7 N4 : Nat} {a5 a6 a7 a4 : Nat → Int32}
variable {n2 : Nat} {c2 : Nat → Int32}
variable {q1 q2 q3 q4 q5 z0 z4 z5 z6 z7 : Int32}
variable {N0 N1 N2 i le : Nat} {b0 b1 b2 : Nat → Int32} {l0 : List Int32} {bad : Int32} {bl fs : List Nat}
theorem Ms_10 (ht : TextIs n x) (hk : KdIs (cutE n x).length N5 a5 (tkT n x).tkd) (hr : RkIs n2 c2) (h0 : N0 ≤ 600) (h1 : N1 ≤ 600) (h2 : N2 ≤ 65536) (hv0 : Vec N0 b0 l0) (hv1 : BlV N1 b1 bl) (hv2 : Vec N2 b2 (fs.map nI)) (hbl : bl.length ≤ 60) (hb57 : ∀ k ∈ bl, k < 57) (hi : i < (cutE n x).length) (hle : le ≤ i) (hkd : (tkT n x).tkd i = 10) : StM (cutE n x).length N0 N1 N2 bad (F_Mo_readStatement q1 q2 q3 q4 (nI i) bad (nI bl.length) (nI le) q5 z5 N5 a5 z0 N0 b0 n2 c2 (nI bl.length) N1 b1 z7 N7 a7 z6 N6 a6 z4 N4 a4 (nI fs.length) N2 b2) (stIf (tkT n x).tkd i bl fs) := by
  have hm := (tkOK ht).le
  unfold F_Mo_readStatement
  rw [Mo_kind hk hi, Option.bind_some, if_pos (show a5 (Int32.toNatClampNeg (nI i)) = 10 from (Mo_kd hk hi (p := 10) (by omega)).mpr hkd)]
  rw [Mo_a5 hk hi, hkd, Mo_enter hk hi (by omega) hbl, if_pos hkd]
  unfold stIf
  by_cases c60 : bl.length = 60
  · rw [if_pos c60, if_pos c60]
    exact StM.no h0 h1 h2 hv0 hv1 hv2 hi hle
  · rw [if_neg c60, if_neg c60, Option.bind_some]
    dsimp only
    have hi1 : i + 1 < (cutE n x).length := hk.go hi (by omega)
    rw [if_neg (show ¬ (1 : Int32) = 0 by decide)]
    have hc := Mo_cond (tkOK ht) hk hr (q1 := q1) (q2 := q2) (q3 := q3) (q4 := q4) (q5 := nI le) (q6 := q5) (q7 := z5) (bad := bad) (sz := z0) (lv := bl.length + 1) hv0 h0 hi1 (by omega)
    have hg := rdCond_ge (tkOK ht) (i := i + 1) (lv := bl.length + 1) hi1 (by omega)
    cases e : rdCond (tkT n x).tkd (i + 1) (bl.length + 1) with
    | inl j =>
      rw [e] at hc hg
      have hg : i + 1 ≤ j := hg
      obtain ⟨hj, lv', sz', N', b', c', s, eX, hO⟩ := hc
      exact ⟨nI j, j, lv', le, sz', nI bl.length, nI fs.length, N', b', N1, b1, N2, b2, c', s, bw_ok (c' := 0) (s' := 0) eX rfl, Nat.max_eq_left (by omega), hj, by omega, hO.vec, hv1.clear, hv2.clear, ArG.of0 hO.grow hO.le h1 h2⟩
    | inr j =>
      rw [e] at hc hg
      obtain ⟨hj, hlv, N', b', c', s, eX, hO⟩ := hc
      have hg : i + 1 < j := hg
      obtain ⟨N1', b1', c1, s1, e1, g1, g2, g3⟩ := blk_push (k := 10) hv1 hbl h1
      refine ⟨hj, le, 0, N', b', N1', b1', N2, b2, c' + c1, s + s1, bw_ok eX ?_, by omega, hO.vec, by rw [hkd]; exact g1, hv2, (ArG.of0 hO.grow hO.le h1 h2).trans (ArG.of1 g2 hO.le g3 h2)⟩
      show (if (1 : Int32) = 0 then _ else _) = _
      rw [if_neg (by decide)]
      refine bw_ok (c' := 0) (s' := 0) e1 ?_
      show some ((1, nI j, bad, nI (bl.length + 1), nI le, 0, nI bl.length + 1, nI fs.length, N', b', N1', b1', N2, b2), 0, 0) = _
      rw [show nI bl.length + 1 = nI (bl.length + 1) from nI_add' _ 1]
      rfl
theorem Ms_14 (ht : TextIs n x) (hk : KdIs (cutE n x).length N5 a5 (tkT n x).tkd) (hr : RkIs n2 c2) (h0 : N0 ≤ 600) (h1 : N1 ≤ 600) (h2 : N2 ≤ 65536) (hv0 : Vec N0 b0 l0) (hv1 : BlV N1 b1 bl) (hv2 : Vec N2 b2 (fs.map nI)) (hbl : bl.length ≤ 60) (hb57 : ∀ k ∈ bl, k < 57) (hi : i < (cutE n x).length) (hle : le ≤ i) (hkd : (tkT n x).tkd i = 14) : StM (cutE n x).length N0 N1 N2 bad (F_Mo_readStatement q1 q2 q3 q4 (nI i) bad (nI bl.length) (nI le) q5 z5 N5 a5 z0 N0 b0 n2 c2 (nI bl.length) N1 b1 z7 N7 a7 z6 N6 a6 z4 N4 a4 (nI fs.length) N2 b2) (stIf (tkT n x).tkd i bl fs) := by
  have hm := (tkOK ht).le
  unfold F_Mo_readStatement
  rw [Mo_kind hk hi, Option.bind_some, if_neg (show ¬ a5 (Int32.toNatClampNeg (nI i)) = 10 from fun h => by have := (Mo_kd hk hi (p := 10) (by omega)).mp h; omega), if_neg (show ¬ a5 (Int32.toNatClampNeg (nI i)) = 11 from fun h => by have := (Mo_kd hk hi (p := 11) (by omega)).mp h; omega), if_neg (show ¬ a5 (Int32.toNatClampNeg (nI i)) = 12 from fun h => by have := (Mo_kd hk hi (p := 12) (by omega)).mp h; omega), if_neg (show ¬ a5 (Int32.toNatClampNeg (nI i)) = 13 from fun h => by have := (Mo_kd hk hi (p := 13) (by omega)).mp h; omega), if_pos (show a5 (Int32.toNatClampNeg (nI i)) = 14 from (Mo_kd hk hi (p := 14) (by omega)).mpr hkd)]
  rw [Mo_a5 hk hi, hkd, Mo_enter hk hi (by omega) hbl, if_pos hkd]
  unfold stIf
  by_cases c60 : bl.length = 60
  · rw [if_pos c60, if_pos c60]
    exact StM.no h0 h1 h2 hv0 hv1 hv2 hi hle
  · rw [if_neg c60, if_neg c60, Option.bind_some]
    dsimp only
    have hi1 : i + 1 < (cutE n x).length := hk.go hi (by omega)
    rw [if_neg (show ¬ (1 : Int32) = 0 by decide)]
    have hc := Mo_cond (tkOK ht) hk hr (q1 := q1) (q2 := q2) (q3 := q3) (q4 := q4) (q5 := nI le) (q6 := q5) (q7 := z5) (bad := bad) (sz := z0) (lv := bl.length + 1) hv0 h0 hi1 (by omega)
    have hg := rdCond_ge (tkOK ht) (i := i + 1) (lv := bl.length + 1) hi1 (by omega)
    cases e : rdCond (tkT n x).tkd (i + 1) (bl.length + 1) with
    | inl j =>
      rw [e] at hc hg
      have hg : i + 1 ≤ j := hg
      obtain ⟨hj, lv', sz', N', b', c', s, eX, hO⟩ := hc
      exact ⟨nI j, j, lv', le, sz', nI bl.length, nI fs.length, N', b', N1, b1, N2, b2, c', s, bw_ok (c' := 0) (s' := 0) eX rfl, Nat.max_eq_left (by omega), hj, by omega, hO.vec, hv1.clear, hv2.clear, ArG.of0 hO.grow hO.le h1 h2⟩
    | inr j =>
      rw [e] at hc hg
      obtain ⟨hj, hlv, N', b', c', s, eX, hO⟩ := hc
      have hg : i + 1 < j := hg
      obtain ⟨N1', b1', c1, s1, e1, g1, g2, g3⟩ := blk_push (k := 14) hv1 hbl h1
      refine ⟨hj, le, 0, N', b', N1', b1', N2, b2, c' + c1, s + s1, bw_ok eX ?_, by omega, hO.vec, by rw [hkd]; exact g1, hv2, (ArG.of0 hO.grow hO.le h1 h2).trans (ArG.of1 g2 hO.le g3 h2)⟩
      show (if (1 : Int32) = 0 then _ else _) = _
      rw [if_neg (by decide)]
      refine bw_ok (c' := 0) (s' := 0) e1 ?_
      show some ((1, nI j, bad, nI (bl.length + 1), nI le, 0, nI bl.length + 1, nI fs.length, N', b', N1', b1', N2, b2), 0, 0) = _
      rw [show nI bl.length + 1 = nI (bl.length + 1) from nI_add' _ 1]
      rfl
theorem Ms_11 (ht : TextIs n x) (hk : KdIs (cutE n x).length N5 a5 (tkT n x).tkd) (hr : RkIs n2 c2) (h0 : N0 ≤ 600) (h1 : N1 ≤ 600) (h2 : N2 ≤ 65536) (hv0 : Vec N0 b0 l0) (hv1 : BlV N1 b1 bl) (hv2 : Vec N2 b2 (fs.map nI)) (hbl : bl.length ≤ 60) (hb57 : ∀ k ∈ bl, k < 57) (hi : i < (cutE n x).length) (hle : le ≤ i) (hkd : (tkT n x).tkd i = 11) : StM (cutE n x).length N0 N1 N2 bad (F_Mo_readStatement q1 q2 q3 q4 (nI i) bad (nI bl.length) (nI le) q5 z5 N5 a5 z0 N0 b0 n2 c2 (nI bl.length) N1 b1 z7 N7 a7 z6 N6 a6 z4 N4 a4 (nI fs.length) N2 b2) (stElif (tkT n x).tkd i bl fs) := by
  have hm := (tkOK ht).le
  unfold F_Mo_readStatement
  rw [Mo_kind hk hi, Option.bind_some, if_neg (show ¬ a5 (Int32.toNatClampNeg (nI i)) = 10 from fun h => by have := (Mo_kd hk hi (p := 10) (by omega)).mp h; omega), if_pos (show a5 (Int32.toNatClampNeg (nI i)) = 11 from (Mo_kd hk hi (p := 11) (by omega)).mpr hkd)]
  rw [Mo_blk hv1, Option.bind_some]
  unfold stElif
  have hi1 : i + 1 < (cutE n x).length := hk.go hi (by omega)
  match bl, hv1, hbl, hb57 with
  | [], hv1, hbl, hb57 =>
    rw [if_neg (show ¬ hdI [] = 10 by decide), if_neg (show ¬ ([] : List Nat).head? = some 10 from fun h => by cases h)]
    exact StM.no h0 h1 h2 hv0 hv1 hv2 hi hle
  | k :: s, hv1, hbl, hb57 =>
    have hk57 := hb57 k List.mem_cons_self
    by_cases c : k = 10
    · subst c
      rw [if_pos (show hdI (10 :: s) = 10 from rfl), if_pos (show (10 :: s).head? = some 10 from rfl), show nI i + 1 = nI (i + 1) from nI_add' i 1]
      have hc := Mo_cond (tkOK ht) hk hr (q1 := q1) (q2 := q2) (q3 := q3) (q4 := q4) (q5 := nI le) (q6 := q5) (q7 := z5) (bad := bad) (sz := z0) (lv := (10 :: s).length) hv0 h0 hi1 (by omega)
      have hg := rdCond_ge (tkOK ht) (i := i + 1) (lv := (10 :: s).length) hi1 hbl
      cases e : rdCond (tkT n x).tkd (i + 1) (10 :: s).length with
      | inl j =>
        rw [e] at hc hg
        have hg : i + 1 ≤ j := hg
        obtain ⟨hj, lv', sz', N', b', c', s', eX, hO⟩ := hc
        exact ⟨nI j, j, lv', le, sz', nI (10 :: s).length, nI fs.length, N', b', N1, b1, N2, b2, c', s', bw_ok (c' := 0) (s' := 0) eX rfl, Nat.max_eq_left (by omega), hj, by omega, hO.vec, hv1.clear, hv2.clear, ArG.of0 hO.grow hO.le h1 h2⟩
      | inr j =>
        rw [e] at hc hg
        obtain ⟨hj, hlv, N', b', c', s', eX, hO⟩ := hc
        have hg : i + 1 < j := hg
        exact ⟨hj, le, 0, N', b', N1, b1, N2, b2, c', s', bw_ok (c' := 0) (s' := 0) eX rfl, by omega, hO.vec, hv1, hv2, ArG.of0 hO.grow hO.le h1 h2⟩
    · rw [if_neg (show ¬ hdI (k :: s) = 10 by show ¬ nI k = 10; rw [show (10 : Int32) = nI 10 from rfl, nI_eq' (by omega) (by omega)]; exact c), if_neg (show ¬ (k :: s).head? = some 10 from fun h => c (Option.some.inj h))]
      exact StM.no h0 h1 h2 hv0 hv1 hv2 hi hle
theorem Ms_352 (hk : KdIs (cutE n x).length N5 a5 (tkT n x).tkd) (h0 : N0 ≤ 600) (h1 : N1 ≤ 600) (h2 : N2 ≤ 65536) (hv0 : Vec N0 b0 l0) (hv1 : BlV N1 b1 bl) (hv2 : Vec N2 b2 (fs.map nI)) (hbl : bl.length ≤ 60) (hb57 : ∀ k ∈ bl, k < 57) (hi : i < (cutE n x).length) (hle : le ≤ i) {k0 k1 : Nat} (hk0 : k0 < 57) (hkd : (tkT n x).tkd i = k1) (hk1 : 1 < k1) : StM (cutE n x).length N0 N1 N2 bad (F_Mo_readStatement_352 (nI i) bad (nI bl.length) (nI le) a5 z0 N0 b0 (nI bl.length) N1 b1 (nI fs.length) N2 b2 (nI k0) (hdI bl)) (stElse i k0 k1 bl fs) := by
  unfold F_Mo_readStatement_352 stElse
  match bl, hv1, hbl, hb57 with
  | [], hv1, hbl, hb57 =>
    rw [if_neg (show ¬ hdI [] = nI k0 from fun h => by have := (nI_ne1 (a := k0) (by omega)); exact this.mp h.symm), if_neg (show ¬ ([] : List Nat).head? = some k0 from fun h => by cases h)]
    exact StM.no h0 h1 h2 hv0 hv1 hv2 hi hle
  | k :: s, hv1, hbl, hb57 =>
    have hk57 := hb57 k List.mem_cons_self
    by_cases c : k = k0
    · subst c
      rw [if_pos (show hdI (k :: s) = nI k from rfl), if_pos (show (k :: s).head? = some k from rfl), Mo_a5 hk hi, hkd, show nI (k :: s).length - 1 = nI s.length from nI_p1 _]
      obtain ⟨N1', b1', c1, s1, e1, g1, g2, g3⟩ := blk_push (k := k1) (blk_pop hv1) (by rw [List.length_cons] at hbl; omega) h1
      refine ⟨hk.go hi (by omega), le, z0, N0, b0, N1', b1', N2, b2, c1, s1, bw_ok (c' := 0) (s' := 0) e1 ?_, by omega, hv0.clear, g1, hv2, ArG.of1 g2 h0 g3 h2⟩
      show some ((1, nI i + 1, bad, nI (k :: s).length, nI le, z0, nI s.length + 1, nI fs.length, N0, b0, N1', b1', N2, b2), 0, 0) = _
      rw [show nI s.length + 1 = nI (s.length + 1) from nI_add' _ 1, show nI i + 1 = nI (i + 1) from nI_add' i 1]
      rfl
    · rw [if_neg (show ¬ hdI (k :: s) = nI k0 by show ¬ nI k = nI k0; rw [nI_eq' (by omega) (by omega)]; exact c), if_neg (show ¬ (k :: s).head? = some k0 from fun h => c (Option.some.inj h))]
      exact StM.no h0 h1 h2 hv0 hv1 hv2 hi hle
theorem Ms_12 (ht : TextIs n x) (hk : KdIs (cutE n x).length N5 a5 (tkT n x).tkd) (hr : RkIs n2 c2) (h0 : N0 ≤ 600) (h1 : N1 ≤ 600) (h2 : N2 ≤ 65536) (hv0 : Vec N0 b0 l0) (hv1 : BlV N1 b1 bl) (hv2 : Vec N2 b2 (fs.map nI)) (hbl : bl.length ≤ 60) (hb57 : ∀ k ∈ bl, k < 57) (hi : i < (cutE n x).length) (hle : le ≤ i) (hkd : (tkT n x).tkd i = 12) : StM (cutE n x).length N0 N1 N2 bad (F_Mo_readStatement q1 q2 q3 q4 (nI i) bad (nI bl.length) (nI le) q5 z5 N5 a5 z0 N0 b0 n2 c2 (nI bl.length) N1 b1 z7 N7 a7 z6 N6 a6 z4 N4 a4 (nI fs.length) N2 b2) (stElse i 10 12 bl fs) := by
  have hm := (tkOK ht).le
  unfold F_Mo_readStatement
  rw [Mo_kind hk hi, Option.bind_some, if_neg (show ¬ a5 (Int32.toNatClampNeg (nI i)) = 10 from fun h => by have := (Mo_kd hk hi (p := 10) (by omega)).mp h; omega), if_neg (show ¬ a5 (Int32.toNatClampNeg (nI i)) = 11 from fun h => by have := (Mo_kd hk hi (p := 11) (by omega)).mp h; omega), if_pos (show a5 (Int32.toNatClampNeg (nI i)) = 12 from (Mo_kd hk hi (p := 12) (by omega)).mpr hkd)]
  rw [Mo_blk hv1, Option.bind_some, if_pos (show a5 (Int32.toNatClampNeg (nI i)) = 12 from (Mo_kd hk hi (p := 12) (by omega)).mpr hkd)]
  exact Ms_352 hk h0 h1 h2 hv0 hv1 hv2 hbl hb57 hi hle (k0 := 10) (by omega) hkd (by omega)
theorem Ms_23 (ht : TextIs n x) (hk : KdIs (cutE n x).length N5 a5 (tkT n x).tkd) (hr : RkIs n2 c2) (h0 : N0 ≤ 600) (h1 : N1 ≤ 600) (h2 : N2 ≤ 65536) (hv0 : Vec N0 b0 l0) (hv1 : BlV N1 b1 bl) (hv2 : Vec N2 b2 (fs.map nI)) (hbl : bl.length ≤ 60) (hb57 : ∀ k ∈ bl, k < 57) (hi : i < (cutE n x).length) (hle : le ≤ i) (hkd : (tkT n x).tkd i = 23) : StM (cutE n x).length N0 N1 N2 bad (F_Mo_readStatement q1 q2 q3 q4 (nI i) bad (nI bl.length) (nI le) q5 z5 N5 a5 z0 N0 b0 n2 c2 (nI bl.length) N1 b1 z7 N7 a7 z6 N6 a6 z4 N4 a4 (nI fs.length) N2 b2) (stElse i 22 23 bl fs) := by
  have hm := (tkOK ht).le
  unfold F_Mo_readStatement
  rw [Mo_kind hk hi, Option.bind_some, if_neg (show ¬ a5 (Int32.toNatClampNeg (nI i)) = 10 from fun h => by have := (Mo_kd hk hi (p := 10) (by omega)).mp h; omega), if_neg (show ¬ a5 (Int32.toNatClampNeg (nI i)) = 11 from fun h => by have := (Mo_kd hk hi (p := 11) (by omega)).mp h; omega), if_neg (show ¬ a5 (Int32.toNatClampNeg (nI i)) = 12 from fun h => by have := (Mo_kd hk hi (p := 12) (by omega)).mp h; omega), if_neg (show ¬ a5 (Int32.toNatClampNeg (nI i)) = 13 from fun h => by have := (Mo_kd hk hi (p := 13) (by omega)).mp h; omega), if_neg (show ¬ a5 (Int32.toNatClampNeg (nI i)) = 14 from fun h => by have := (Mo_kd hk hi (p := 14) (by omega)).mp h; omega), if_neg (show ¬ a5 (Int32.toNatClampNeg (nI i)) = 15 from fun h => by have := (Mo_kd hk hi (p := 15) (by omega)).mp h; omega), if_neg (show ¬ a5 (Int32.toNatClampNeg (nI i)) = 16 from fun h => by have := (Mo_kd hk hi (p := 16) (by omega)).mp h; omega), if_neg (show ¬ a5 (Int32.toNatClampNeg (nI i)) = 17 from fun h => by have := (Mo_kd hk hi (p := 17) (by omega)).mp h; omega), if_neg (show ¬ a5 (Int32.toNatClampNeg (nI i)) = 18 from fun h => by have := (Mo_kd hk hi (p := 18) (by omega)).mp h; omega), if_neg (show ¬ a5 (Int32.toNatClampNeg (nI i)) = 19 from fun h => by have := (Mo_kd hk hi (p := 19) (by omega)).mp h; omega), if_neg (show ¬ a5 (Int32.toNatClampNeg (nI i)) = 20 from fun h => by have := (Mo_kd hk hi (p := 20) (by omega)).mp h; omega), if_neg (show ¬ a5 (Int32.toNatClampNeg (nI i)) = 21 from fun h => by have := (Mo_kd hk hi (p := 21) (by omega)).mp h; omega), if_neg (show ¬ a5 (Int32.toNatClampNeg (nI i)) = 22 from fun h => by have := (Mo_kd hk hi (p := 22) (by omega)).mp h; omega), if_pos (show a5 (Int32.toNatClampNeg (nI i)) = 23 from (Mo_kd hk hi (p := 23) (by omega)).mpr hkd)]
  rw [Mo_blk hv1, Option.bind_some, if_neg (show ¬ a5 (Int32.toNatClampNeg (nI i)) = 12 from fun h => by have := (Mo_kd hk hi (p := 12) (by omega)).mp h; omega)]
  exact Ms_352 hk h0 h1 h2 hv0 hv1 hv2 hbl hb57 hi hle (k0 := 22) (by omega) hkd (by omega)
theorem Ms_13 (ht : TextIs n x) (hk : KdIs (cutE n x).length N5 a5 (tkT n x).tkd) (hr : RkIs n2 c2) (h0 : N0 ≤ 600) (h1 : N1 ≤ 600) (h2 : N2 ≤ 65536) (hv0 : Vec N0 b0 l0) (hv1 : BlV N1 b1 bl) (hv2 : Vec N2 b2 (fs.map nI)) (hbl : bl.length ≤ 60) (hb57 : ∀ k ∈ bl, k < 57) (hi : i < (cutE n x).length) (hle : le ≤ i) (hkd : (tkT n x).tkd i = 13) : StM (cutE n x).length N0 N1 N2 bad (F_Mo_readStatement q1 q2 q3 q4 (nI i) bad (nI bl.length) (nI le) q5 z5 N5 a5 z0 N0 b0 n2 c2 (nI bl.length) N1 b1 z7 N7 a7 z6 N6 a6 z4 N4 a4 (nI fs.length) N2 b2) (stEnd i bl fs) := by
  have hm := (tkOK ht).le
  unfold F_Mo_readStatement
  rw [Mo_kind hk hi, Option.bind_some, if_neg (show ¬ a5 (Int32.toNatClampNeg (nI i)) = 10 from fun h => by have := (Mo_kd hk hi (p := 10) (by omega)).mp h; omega), if_neg (show ¬ a5 (Int32.toNatClampNeg (nI i)) = 11 from fun h => by have := (Mo_kd hk hi (p := 11) (by omega)).mp h; omega), if_neg (show ¬ a5 (Int32.toNatClampNeg (nI i)) = 12 from fun h => by have := (Mo_kd hk hi (p := 12) (by omega)).mp h; omega), if_pos (show a5 (Int32.toNatClampNeg (nI i)) = 13 from (Mo_kd hk hi (p := 13) (by omega)).mpr hkd)]
  rw [Mo_blk hv1, Option.bind_some, Option.bind_some]
  unfold stEnd
  match bl, hv1, hbl, hb57 with
  | [], hv1, hbl, hb57 =>
    rw [if_pos (show hdI [] = -1 from rfl), if_pos (Or.inl rfl)]
    exact StM.no h0 h1 h2 hv0 hv1 hv2 hi hle
  | k :: s, hv1, hbl, hb57 =>
    have hk57 := hb57 k List.mem_cons_self
    rw [if_neg (show ¬ hdI (k :: s) = -1 by show ¬ nI k = -1; rw [nI_ne1 (by omega)]; exact id)]
    by_cases c : k = 22
    · rw [if_pos (show hdI (k :: s) = 22 by rw [c]; rfl), if_pos (Or.inr (by rw [c]; rfl))]
      exact StM.no h0 h1 h2 hv0 hv1 hv2 hi hle
    · rw [if_neg (show ¬ hdI (k :: s) = 22 by show ¬ nI k = 22; rw [show (22 : Int32) = nI 22 from rfl, nI_eq' (by omega) (by omega)]; exact c), if_neg (show ¬ (k :: s = [] ∨ (k :: s).head? = some 22) from fun h => h.elim (fun h => List.cons_ne_nil _ _ h) (fun h => c (Option.some.inj h)))]
      refine ⟨hk.go hi (by omega), le, z0, N0, b0, N1, b1, N2, b2, 0, 0, ?_, by omega, hv0.clear, blk_pop hv1, hv2, ArG.rfl h0 h1 h2⟩
      rw [show nI (k :: s).length - 1 = nI s.length from nI_p1 _, show nI i + 1 = nI (i + 1) from nI_add' i 1]
      rfl
theorem Ms_22 (ht : TextIs n x) (hk : KdIs (cutE n x).length N5 a5 (tkT n x).tkd) (hr : RkIs n2 c2) (h0 : N0 ≤ 600) (h1 : N1 ≤ 600) (h2 : N2 ≤ 65536) (hv0 : Vec N0 b0 l0) (hv1 : BlV N1 b1 bl) (hv2 : Vec N2 b2 (fs.map nI)) (hbl : bl.length ≤ 60) (hb57 : ∀ k ∈ bl, k < 57) (hi : i < (cutE n x).length) (hle : le ≤ i) (hkd : (tkT n x).tkd i = 22) : StM (cutE n x).length N0 N1 N2 bad (F_Mo_readStatement q1 q2 q3 q4 (nI i) bad (nI bl.length) (nI le) q5 z5 N5 a5 z0 N0 b0 n2 c2 (nI bl.length) N1 b1 z7 N7 a7 z6 N6 a6 z4 N4 a4 (nI fs.length) N2 b2) (stTry i bl fs) := by
  have hm := (tkOK ht).le
  unfold F_Mo_readStatement
  rw [Mo_kind hk hi, Option.bind_some, if_neg (show ¬ a5 (Int32.toNatClampNeg (nI i)) = 10 from fun h => by have := (Mo_kd hk hi (p := 10) (by omega)).mp h; omega), if_neg (show ¬ a5 (Int32.toNatClampNeg (nI i)) = 11 from fun h => by have := (Mo_kd hk hi (p := 11) (by omega)).mp h; omega), if_neg (show ¬ a5 (Int32.toNatClampNeg (nI i)) = 12 from fun h => by have := (Mo_kd hk hi (p := 12) (by omega)).mp h; omega), if_neg (show ¬ a5 (Int32.toNatClampNeg (nI i)) = 13 from fun h => by have := (Mo_kd hk hi (p := 13) (by omega)).mp h; omega), if_neg (show ¬ a5 (Int32.toNatClampNeg (nI i)) = 14 from fun h => by have := (Mo_kd hk hi (p := 14) (by omega)).mp h; omega), if_neg (show ¬ a5 (Int32.toNatClampNeg (nI i)) = 15 from fun h => by have := (Mo_kd hk hi (p := 15) (by omega)).mp h; omega), if_neg (show ¬ a5 (Int32.toNatClampNeg (nI i)) = 16 from fun h => by have := (Mo_kd hk hi (p := 16) (by omega)).mp h; omega), if_neg (show ¬ a5 (Int32.toNatClampNeg (nI i)) = 17 from fun h => by have := (Mo_kd hk hi (p := 17) (by omega)).mp h; omega), if_neg (show ¬ a5 (Int32.toNatClampNeg (nI i)) = 18 from fun h => by have := (Mo_kd hk hi (p := 18) (by omega)).mp h; omega), if_neg (show ¬ a5 (Int32.toNatClampNeg (nI i)) = 19 from fun h => by have := (Mo_kd hk hi (p := 19) (by omega)).mp h; omega), if_neg (show ¬ a5 (Int32.toNatClampNeg (nI i)) = 20 from fun h => by have := (Mo_kd hk hi (p := 20) (by omega)).mp h; omega), if_neg (show ¬ a5 (Int32.toNatClampNeg (nI i)) = 21 from fun h => by have := (Mo_kd hk hi (p := 21) (by omega)).mp h; omega), if_pos (show a5 (Int32.toNatClampNeg (nI i)) = 22 from (Mo_kd hk hi (p := 22) (by omega)).mpr hkd)]
  rw [Mo_a5 hk hi, hkd, Mo_enter hk hi (by omega) hbl, if_pos hkd]
  unfold stTry
  by_cases c60 : bl.length = 60
  · rw [if_pos c60, if_pos c60]
    exact StM.no h0 h1 h2 hv0 hv1 hv2 hi hle
  · rw [if_neg c60, if_neg c60, Option.bind_some]
    dsimp only
    rw [if_neg (show ¬ (1 : Int32) = 0 by decide)]
    obtain ⟨N1', b1', c1, s1, e1, g1, g2, g3⟩ := blk_push (k := 22) hv1 hbl h1
    refine ⟨hk.go hi (by omega), le, z0, N0, b0, N1', b1', N2, b2, c1, s1, bw_ok (c' := 0) (s' := 0) e1 ?_, by omega, hv0.clear, g1, hv2, ArG.of1 g2 h0 g3 h2⟩
    show some ((1, nI (i + 1), bad, nI (bl.length + 1), nI le, z0, nI bl.length + 1, nI fs.length, N0, b0, N1', b1', N2, b2), 0, 0) = _
    rw [show nI bl.length + 1 = nI (bl.length + 1) from nI_add' _ 1]
    rfl
theorem Ms_16 (ht : TextIs n x) (hk : KdIs (cutE n x).length N5 a5 (tkT n x).tkd) (hr : RkIs n2 c2) (h0 : N0 ≤ 600) (h1 : N1 ≤ 600) (h2 : N2 ≤ 65536) (hv0 : Vec N0 b0 l0) (hv1 : BlV N1 b1 bl) (hv2 : Vec N2 b2 (fs.map nI)) (hbl : bl.length ≤ 60) (hb57 : ∀ k ∈ bl, k < 57) (hi : i < (cutE n x).length) (hle : le ≤ i) (hok : BlOK bl) (hkd : (tkT n x).tkd i = 16) : StM (cutE n x).length N0 N1 N2 bad (F_Mo_readStatement q1 q2 q3 q4 (nI i) bad (nI bl.length) (nI le) q5 z5 N5 a5 z0 N0 b0 n2 c2 (nI bl.length) N1 b1 z7 N7 a7 z6 N6 a6 z4 N4 a4 (nI fs.length) N2 b2) (if ((tkT n x).tkd i = 16 ∨ (tkT n x).tkd i = 17) ∧ lpN bl = 0 then .inl i else if (tkT n x).tkd (i + 1) = 55 then .inr (i + 2, bl, fs) else .inl (i + 1)) := by
  have hm := (tkOK ht).le
  unfold F_Mo_readStatement
  rw [Mo_kind hk hi, Option.bind_some, if_neg (show ¬ a5 (Int32.toNatClampNeg (nI i)) = 10 from fun h => by have := (Mo_kd hk hi (p := 10) (by omega)).mp h; omega), if_neg (show ¬ a5 (Int32.toNatClampNeg (nI i)) = 11 from fun h => by have := (Mo_kd hk hi (p := 11) (by omega)).mp h; omega), if_neg (show ¬ a5 (Int32.toNatClampNeg (nI i)) = 12 from fun h => by have := (Mo_kd hk hi (p := 12) (by omega)).mp h; omega), if_neg (show ¬ a5 (Int32.toNatClampNeg (nI i)) = 13 from fun h => by have := (Mo_kd hk hi (p := 13) (by omega)).mp h; omega), if_neg (show ¬ a5 (Int32.toNatClampNeg (nI i)) = 14 from fun h => by have := (Mo_kd hk hi (p := 14) (by omega)).mp h; omega), if_neg (show ¬ a5 (Int32.toNatClampNeg (nI i)) = 15 from fun h => by have := (Mo_kd hk hi (p := 15) (by omega)).mp h; omega), if_pos (show a5 (Int32.toNatClampNeg (nI i)) = 16 from (Mo_kd hk hi (p := 16) (by omega)).mpr hkd)]
  have hi1 : i + 1 < (cutE n x).length := hk.go hi (by omega)
  rw [Mo_lp hv1 hok hb57 hbl, Option.bind_some]
  by_cases c : lpN bl = 0
  · rw [if_pos c, if_pos (show (0 : Int32) = 0 from rfl), if_pos ⟨Or.inl hkd, c⟩]
    exact StM.no h0 h1 h2 hv0 hv1 hv2 hi hle
  rw [if_neg c, if_neg (show ¬ (1 : Int32) = 0 by decide), if_neg (fun y => c y.2)]
  rw [show nI i + 1 = nI (i + 1) from nI_add' i 1, show (55 : Int32) = nI 55 from rfl, Mo_take hk hi1 (by omega)]
  by_cases c5 : (tkT n x).tkd (i + 1) = 55
  · rw [if_pos c5, if_pos c5]
    exact ⟨hk.go hi1 (by omega), le, z0, N0, b0, N1, b1, N2, b2, 0, 0, rfl, by omega, hv0.clear, hv1, hv2, ArG.rfl h0 h1 h2⟩
  · rw [if_neg c5, if_neg c5]
    exact StM.no h0 h1 h2 hv0 hv1 hv2 hi1 (by omega)
theorem Ms_17 (ht : TextIs n x) (hk : KdIs (cutE n x).length N5 a5 (tkT n x).tkd) (hr : RkIs n2 c2) (h0 : N0 ≤ 600) (h1 : N1 ≤ 600) (h2 : N2 ≤ 65536) (hv0 : Vec N0 b0 l0) (hv1 : BlV N1 b1 bl) (hv2 : Vec N2 b2 (fs.map nI)) (hbl : bl.length ≤ 60) (hb57 : ∀ k ∈ bl, k < 57) (hi : i < (cutE n x).length) (hle : le ≤ i) (hok : BlOK bl) (hkd : (tkT n x).tkd i = 17) : StM (cutE n x).length N0 N1 N2 bad (F_Mo_readStatement q1 q2 q3 q4 (nI i) bad (nI bl.length) (nI le) q5 z5 N5 a5 z0 N0 b0 n2 c2 (nI bl.length) N1 b1 z7 N7 a7 z6 N6 a6 z4 N4 a4 (nI fs.length) N2 b2) (if ((tkT n x).tkd i = 16 ∨ (tkT n x).tkd i = 17) ∧ lpN bl = 0 then .inl i else if (tkT n x).tkd (i + 1) = 55 then .inr (i + 2, bl, fs) else .inl (i + 1)) := by
  have hm := (tkOK ht).le
  unfold F_Mo_readStatement
  rw [Mo_kind hk hi, Option.bind_some, if_neg (show ¬ a5 (Int32.toNatClampNeg (nI i)) = 10 from fun h => by have := (Mo_kd hk hi (p := 10) (by omega)).mp h; omega), if_neg (show ¬ a5 (Int32.toNatClampNeg (nI i)) = 11 from fun h => by have := (Mo_kd hk hi (p := 11) (by omega)).mp h; omega), if_neg (show ¬ a5 (Int32.toNatClampNeg (nI i)) = 12 from fun h => by have := (Mo_kd hk hi (p := 12) (by omega)).mp h; omega), if_neg (show ¬ a5 (Int32.toNatClampNeg (nI i)) = 13 from fun h => by have := (Mo_kd hk hi (p := 13) (by omega)).mp h; omega), if_neg (show ¬ a5 (Int32.toNatClampNeg (nI i)) = 14 from fun h => by have := (Mo_kd hk hi (p := 14) (by omega)).mp h; omega), if_neg (show ¬ a5 (Int32.toNatClampNeg (nI i)) = 15 from fun h => by have := (Mo_kd hk hi (p := 15) (by omega)).mp h; omega), if_neg (show ¬ a5 (Int32.toNatClampNeg (nI i)) = 16 from fun h => by have := (Mo_kd hk hi (p := 16) (by omega)).mp h; omega), if_pos (show a5 (Int32.toNatClampNeg (nI i)) = 17 from (Mo_kd hk hi (p := 17) (by omega)).mpr hkd)]
  have hi1 : i + 1 < (cutE n x).length := hk.go hi (by omega)
  rw [Mo_lp hv1 hok hb57 hbl, Option.bind_some]
  by_cases c : lpN bl = 0
  · rw [if_pos c, if_pos (show (0 : Int32) = 0 from rfl), if_pos ⟨Or.inr hkd, c⟩]
    exact StM.no h0 h1 h2 hv0 hv1 hv2 hi hle
  rw [if_neg c, if_neg (show ¬ (1 : Int32) = 0 by decide), if_neg (fun y => c y.2)]
  rw [show nI i + 1 = nI (i + 1) from nI_add' i 1, show (55 : Int32) = nI 55 from rfl, Mo_take hk hi1 (by omega)]
  by_cases c5 : (tkT n x).tkd (i + 1) = 55
  · rw [if_pos c5, if_pos c5]
    exact ⟨hk.go hi1 (by omega), le, z0, N0, b0, N1, b1, N2, b2, 0, 0, rfl, by omega, hv0.clear, hv1, hv2, ArG.rfl h0 h1 h2⟩
  · rw [if_neg c5, if_neg c5]
    exact StM.no h0 h1 h2 hv0 hv1 hv2 hi1 (by omega)
theorem Ms_18 (ht : TextIs n x) (hk : KdIs (cutE n x).length N5 a5 (tkT n x).tkd) (hr : RkIs n2 c2) (h0 : N0 ≤ 600) (h1 : N1 ≤ 600) (h2 : N2 ≤ 65536) (hv0 : Vec N0 b0 l0) (hv1 : BlV N1 b1 bl) (hv2 : Vec N2 b2 (fs.map nI)) (hbl : bl.length ≤ 60) (hb57 : ∀ k ∈ bl, k < 57) (hi : i < (cutE n x).length) (hle : le ≤ i) (hkd : (tkT n x).tkd i = 18) : StM (cutE n x).length N0 N1 N2 bad (F_Mo_readStatement q1 q2 q3 q4 (nI i) bad (nI bl.length) (nI le) q5 z5 N5 a5 z0 N0 b0 n2 c2 (nI bl.length) N1 b1 z7 N7 a7 z6 N6 a6 z4 N4 a4 (nI fs.length) N2 b2) (if ((tkT n x).tkd i = 16 ∨ (tkT n x).tkd i = 17) ∧ lpN bl = 0 then .inl i else if (tkT n x).tkd (i + 1) = 55 then .inr (i + 2, bl, fs) else .inl (i + 1)) := by
  have hm := (tkOK ht).le
  unfold F_Mo_readStatement
  rw [Mo_kind hk hi, Option.bind_some, if_neg (show ¬ a5 (Int32.toNatClampNeg (nI i)) = 10 from fun h => by have := (Mo_kd hk hi (p := 10) (by omega)).mp h; omega), if_neg (show ¬ a5 (Int32.toNatClampNeg (nI i)) = 11 from fun h => by have := (Mo_kd hk hi (p := 11) (by omega)).mp h; omega), if_neg (show ¬ a5 (Int32.toNatClampNeg (nI i)) = 12 from fun h => by have := (Mo_kd hk hi (p := 12) (by omega)).mp h; omega), if_neg (show ¬ a5 (Int32.toNatClampNeg (nI i)) = 13 from fun h => by have := (Mo_kd hk hi (p := 13) (by omega)).mp h; omega), if_neg (show ¬ a5 (Int32.toNatClampNeg (nI i)) = 14 from fun h => by have := (Mo_kd hk hi (p := 14) (by omega)).mp h; omega), if_neg (show ¬ a5 (Int32.toNatClampNeg (nI i)) = 15 from fun h => by have := (Mo_kd hk hi (p := 15) (by omega)).mp h; omega), if_neg (show ¬ a5 (Int32.toNatClampNeg (nI i)) = 16 from fun h => by have := (Mo_kd hk hi (p := 16) (by omega)).mp h; omega), if_neg (show ¬ a5 (Int32.toNatClampNeg (nI i)) = 17 from fun h => by have := (Mo_kd hk hi (p := 17) (by omega)).mp h; omega), if_pos (show a5 (Int32.toNatClampNeg (nI i)) = 18 from (Mo_kd hk hi (p := 18) (by omega)).mpr hkd)]
  have hi1 : i + 1 < (cutE n x).length := hk.go hi (by omega)
  rw [if_neg (show ¬ (((tkT n x).tkd i = 16 ∨ (tkT n x).tkd i = 17) ∧ lpN bl = 0) from fun y => by omega)]
  rw [show nI i + 1 = nI (i + 1) from nI_add' i 1, show (55 : Int32) = nI 55 from rfl, Mo_take hk hi1 (by omega)]
  by_cases c5 : (tkT n x).tkd (i + 1) = 55
  · rw [if_pos c5, if_pos c5]
    exact ⟨hk.go hi1 (by omega), le, z0, N0, b0, N1, b1, N2, b2, 0, 0, rfl, by omega, hv0.clear, hv1, hv2, ArG.rfl h0 h1 h2⟩
  · rw [if_neg c5, if_neg c5]
    exact StM.no h0 h1 h2 hv0 hv1 hv2 hi1 (by omega)
theorem Ms_19 (ht : TextIs n x) (hk : KdIs (cutE n x).length N5 a5 (tkT n x).tkd) (hx : TxA n x N6 a6 N7 a7 N4 a4) (hr : RkIs n2 c2) (h0 : N0 ≤ 600) (h1 : N1 ≤ 600) (h2 : N2 ≤ 65536) (hv0 : Vec N0 b0 l0) (hv1 : BlV N1 b1 bl) (hv2 : Vec N2 b2 (fs.map nI)) (hbl : bl.length ≤ 60) (hb57 : ∀ k ∈ bl, k < 57) (hi : i < (cutE n x).length) (hle : le ≤ i) (hfs : ∀ q ∈ fs, q < (cutE n x).length ∧ (tkT n x).tkd q = 2) (hfl : fs.length < 16385) (hkd : (tkT n x).tkd i = 19) : StM (cutE n x).length N0 N1 N2 bad (F_Mo_readStatement q1 q2 q3 q4 (nI i) bad (nI bl.length) (nI le) q5 z5 N5 a5 z0 N0 b0 n2 c2 (nI bl.length) N1 b1 z7 N7 a7 z6 N6 a6 z4 N4 a4 (nI fs.length) N2 b2) (stFun (tkT n x).tkd (SNm n x) i bl fs) := by
  have hm := (tkOK ht).le
  unfold F_Mo_readStatement
  rw [Mo_kind hk hi, Option.bind_some, if_neg (show ¬ a5 (Int32.toNatClampNeg (nI i)) = 10 from fun h => by have := (Mo_kd hk hi (p := 10) (by omega)).mp h; omega), if_neg (show ¬ a5 (Int32.toNatClampNeg (nI i)) = 11 from fun h => by have := (Mo_kd hk hi (p := 11) (by omega)).mp h; omega), if_neg (show ¬ a5 (Int32.toNatClampNeg (nI i)) = 12 from fun h => by have := (Mo_kd hk hi (p := 12) (by omega)).mp h; omega), if_neg (show ¬ a5 (Int32.toNatClampNeg (nI i)) = 13 from fun h => by have := (Mo_kd hk hi (p := 13) (by omega)).mp h; omega), if_neg (show ¬ a5 (Int32.toNatClampNeg (nI i)) = 14 from fun h => by have := (Mo_kd hk hi (p := 14) (by omega)).mp h; omega), if_neg (show ¬ a5 (Int32.toNatClampNeg (nI i)) = 15 from fun h => by have := (Mo_kd hk hi (p := 15) (by omega)).mp h; omega), if_neg (show ¬ a5 (Int32.toNatClampNeg (nI i)) = 16 from fun h => by have := (Mo_kd hk hi (p := 16) (by omega)).mp h; omega), if_neg (show ¬ a5 (Int32.toNatClampNeg (nI i)) = 17 from fun h => by have := (Mo_kd hk hi (p := 17) (by omega)).mp h; omega), if_neg (show ¬ a5 (Int32.toNatClampNeg (nI i)) = 18 from fun h => by have := (Mo_kd hk hi (p := 18) (by omega)).mp h; omega), if_pos (show a5 (Int32.toNatClampNeg (nI i)) = 19 from (Mo_kd hk hi (p := 19) (by omega)).mpr hkd)]
  have hf := Mo_fn (q1 := q1) (q2 := q2) (q3 := q3) (q4 := q4) (q5 := nI le) (q6 := q5) (z4 := z4) (z5 := z5) (z6 := z6) (z7 := z7) (bad := bad) ht hk hx h0 h1 h2 hv1 hv2 hfs hfl hi hkd
  have hg := any_gt (tkOK ht) (SN := SNm n x) (fs := fs) hi hbl
  rw [show stAny (tkT n x).tkd (SNm n x) i bl fs = stFun (tkT n x).tkd (SNm n x) i bl fs from by unfold stAny; rw [if_pos hkd]] at hg
  cases e : stFun (tkT n x).tkd (SNm n x) i bl fs with
  | inl j =>
    rw [e] at hf
    obtain ⟨hj, at', lv, z1, z2, N1', b1', N2', b2', c, s, eX, g1, g2, g3⟩ := hf
    refine ⟨at', j, lv, le, z0, z1, z2, N0, b0, N1', b1', N2', b2', c, s, bw_ok (c' := 0) (s' := 0) eX rfl, Nat.max_eq_left ?_, hj, by omega, hv0.clear, g1, g2, g3⟩
    have := stFun_lb ht (SN := SNm n x) (i := i) (bl := bl) (fs := fs) hi hkd
    rw [e] at this
    have this : i ≤ j := this
    omega
  | inr q =>
    obtain ⟨i', bl', fs'⟩ := q
    rw [e] at hf hg
    have hg : i < i' := hg
    obtain ⟨hj, N1', b1', N2', b2', c, s, eX, g1, g2, g3⟩ := hf
    exact ⟨hj, le, z0, N0, b0, N1', b1', N2', b2', c, s, bw_ok (c' := 0) (s' := 0) eX rfl, by omega, hv0.clear, g1, g2, g3⟩
theorem Ms_20 (ht : TextIs n x) (hk : KdIs (cutE n x).length N5 a5 (tkT n x).tkd) (hr : RkIs n2 c2) (h0 : N0 ≤ 600) (h1 : N1 ≤ 600) (h2 : N2 ≤ 65536) (hv0 : Vec N0 b0 l0) (hv1 : BlV N1 b1 bl) (hv2 : Vec N2 b2 (fs.map nI)) (hbl : bl.length ≤ 60) (hb57 : ∀ k ∈ bl, k < 57) (hi : i < (cutE n x).length) (hle : le ≤ i) (hkd : (tkT n x).tkd i = 20) : StM (cutE n x).length N0 N1 N2 bad (F_Mo_readStatement q1 q2 q3 q4 (nI i) bad (nI bl.length) (nI le) q5 z5 N5 a5 z0 N0 b0 n2 c2 (nI bl.length) N1 b1 z7 N7 a7 z6 N6 a6 z4 N4 a4 (nI fs.length) N2 b2) (stVals (tkT n x).tkd i bl fs) := by
  have hm := (tkOK ht).le
  unfold F_Mo_readStatement
  rw [Mo_kind hk hi, Option.bind_some, if_neg (show ¬ a5 (Int32.toNatClampNeg (nI i)) = 10 from fun h => by have := (Mo_kd hk hi (p := 10) (by omega)).mp h; omega), if_neg (show ¬ a5 (Int32.toNatClampNeg (nI i)) = 11 from fun h => by have := (Mo_kd hk hi (p := 11) (by omega)).mp h; omega), if_neg (show ¬ a5 (Int32.toNatClampNeg (nI i)) = 12 from fun h => by have := (Mo_kd hk hi (p := 12) (by omega)).mp h; omega), if_neg (show ¬ a5 (Int32.toNatClampNeg (nI i)) = 13 from fun h => by have := (Mo_kd hk hi (p := 13) (by omega)).mp h; omega), if_neg (show ¬ a5 (Int32.toNatClampNeg (nI i)) = 14 from fun h => by have := (Mo_kd hk hi (p := 14) (by omega)).mp h; omega), if_neg (show ¬ a5 (Int32.toNatClampNeg (nI i)) = 15 from fun h => by have := (Mo_kd hk hi (p := 15) (by omega)).mp h; omega), if_neg (show ¬ a5 (Int32.toNatClampNeg (nI i)) = 16 from fun h => by have := (Mo_kd hk hi (p := 16) (by omega)).mp h; omega), if_neg (show ¬ a5 (Int32.toNatClampNeg (nI i)) = 17 from fun h => by have := (Mo_kd hk hi (p := 17) (by omega)).mp h; omega), if_neg (show ¬ a5 (Int32.toNatClampNeg (nI i)) = 18 from fun h => by have := (Mo_kd hk hi (p := 18) (by omega)).mp h; omega), if_neg (show ¬ a5 (Int32.toNatClampNeg (nI i)) = 19 from fun h => by have := (Mo_kd hk hi (p := 19) (by omega)).mp h; omega), if_pos (show a5 (Int32.toNatClampNeg (nI i)) = 20 from (Mo_kd hk hi (p := 20) (by omega)).mpr hkd)]
  have hi1 : i + 1 < (cutE n x).length := hk.go hi (by omega)
  have hc := Mo_sev (tkOK ht) hk hr (q1 := q1) (q2 := q2) (q3 := q3) (q4 := q4) (q5 := nI le) (q6 := q5) (q7 := z5) (bad := bad) (sz := z0) (lv := bl.length) hv0 h0 hi1 (by omega)
  have hg := rdSev_ge (tkOK ht) hbl FU 0 (i + 1) hi1 (by unfold FU; omega)
  rw [show nI i + 1 = nI (i + 1) from nI_add' i 1]
  unfold stVals
  cases e : rdSev (tkT n x).tkd FU 0 (i + 1) bl.length with
  | inl j =>
    rw [e] at hc hg
    have hg := hg.1
    obtain ⟨hj, lv', sz', N', b', c', s, eX, hO⟩ := hc
    exact ⟨nI j, j, lv', le, sz', nI bl.length, nI fs.length, N', b', N1, b1, N2, b2, c', s, bw_ok (c' := 0) (s' := 0) eX rfl, Nat.max_eq_left (by omega), hj, by omega, hO.vec, hv1.clear, hv2.clear, ArG.of0 hO.grow hO.le h1 h2⟩
  | inr q =>
    obtain ⟨j, lv'⟩ := q
    rw [e] at hc hg
    obtain ⟨hg, _, hl⟩ := hg
    subst hl
    obtain ⟨hj, hlv, N', b', c', s, eX, hO⟩ := hc
    show StM _ _ _ _ _ _ (if (tkT n x).tkd j = 55 then .inr (j + 1, bl, fs) else .inl j)
    by_cases c5 : (tkT n x).tkd j = 55
    · rw [if_pos c5]
      refine ⟨hk.go hj (by omega), le, 0, N', b', N1, b1, N2, b2, c', s, bw_ok (c' := 0) (s' := 0) eX ?_, by omega, hO.vec, hv1, hv2, ArG.of0 hO.grow hO.le h1 h2⟩
      show (if (1 : Int32) = 0 then _ else _) = _
      rw [if_neg (by decide), show (55 : Int32) = nI 55 from rfl, Mo_take hk hj (by omega), if_pos c5]
      rfl
    · rw [if_neg c5]
      refine ⟨nI j, j, nI bl.length, le, 0, nI bl.length, nI fs.length, N', b', N1, b1, N2, b2, c', s, bw_ok (c' := 0) (s' := 0) eX ?_, Nat.max_eq_left (by omega), hj, by omega, hO.vec, hv1.clear, hv2.clear, ArG.of0 hO.grow hO.le h1 h2⟩
      show (if (1 : Int32) = 0 then _ else _) = _
      rw [if_neg (by decide), show (55 : Int32) = nI 55 from rfl, Mo_take hk hj (by omega), if_neg c5]
      rfl
theorem Ms_21 (ht : TextIs n x) (hk : KdIs (cutE n x).length N5 a5 (tkT n x).tkd) (hr : RkIs n2 c2) (h0 : N0 ≤ 600) (h1 : N1 ≤ 600) (h2 : N2 ≤ 65536) (hv0 : Vec N0 b0 l0) (hv1 : BlV N1 b1 bl) (hv2 : Vec N2 b2 (fs.map nI)) (hbl : bl.length ≤ 60) (hb57 : ∀ k ∈ bl, k < 57) (hi : i < (cutE n x).length) (hle : le ≤ i) (hkd : (tkT n x).tkd i = 21) : StM (cutE n x).length N0 N1 N2 bad (F_Mo_readStatement q1 q2 q3 q4 (nI i) bad (nI bl.length) (nI le) q5 z5 N5 a5 z0 N0 b0 n2 c2 (nI bl.length) N1 b1 z7 N7 a7 z6 N6 a6 z4 N4 a4 (nI fs.length) N2 b2) (stVals (tkT n x).tkd i bl fs) := by
  have hm := (tkOK ht).le
  unfold F_Mo_readStatement
  rw [Mo_kind hk hi, Option.bind_some, if_neg (show ¬ a5 (Int32.toNatClampNeg (nI i)) = 10 from fun h => by have := (Mo_kd hk hi (p := 10) (by omega)).mp h; omega), if_neg (show ¬ a5 (Int32.toNatClampNeg (nI i)) = 11 from fun h => by have := (Mo_kd hk hi (p := 11) (by omega)).mp h; omega), if_neg (show ¬ a5 (Int32.toNatClampNeg (nI i)) = 12 from fun h => by have := (Mo_kd hk hi (p := 12) (by omega)).mp h; omega), if_neg (show ¬ a5 (Int32.toNatClampNeg (nI i)) = 13 from fun h => by have := (Mo_kd hk hi (p := 13) (by omega)).mp h; omega), if_neg (show ¬ a5 (Int32.toNatClampNeg (nI i)) = 14 from fun h => by have := (Mo_kd hk hi (p := 14) (by omega)).mp h; omega), if_neg (show ¬ a5 (Int32.toNatClampNeg (nI i)) = 15 from fun h => by have := (Mo_kd hk hi (p := 15) (by omega)).mp h; omega), if_neg (show ¬ a5 (Int32.toNatClampNeg (nI i)) = 16 from fun h => by have := (Mo_kd hk hi (p := 16) (by omega)).mp h; omega), if_neg (show ¬ a5 (Int32.toNatClampNeg (nI i)) = 17 from fun h => by have := (Mo_kd hk hi (p := 17) (by omega)).mp h; omega), if_neg (show ¬ a5 (Int32.toNatClampNeg (nI i)) = 18 from fun h => by have := (Mo_kd hk hi (p := 18) (by omega)).mp h; omega), if_neg (show ¬ a5 (Int32.toNatClampNeg (nI i)) = 19 from fun h => by have := (Mo_kd hk hi (p := 19) (by omega)).mp h; omega), if_neg (show ¬ a5 (Int32.toNatClampNeg (nI i)) = 20 from fun h => by have := (Mo_kd hk hi (p := 20) (by omega)).mp h; omega), if_pos (show a5 (Int32.toNatClampNeg (nI i)) = 21 from (Mo_kd hk hi (p := 21) (by omega)).mpr hkd)]
  have hi1 : i + 1 < (cutE n x).length := hk.go hi (by omega)
  have hc := Mo_sev (tkOK ht) hk hr (q1 := q1) (q2 := q2) (q3 := q3) (q4 := q4) (q5 := nI le) (q6 := q5) (q7 := z5) (bad := bad) (sz := z0) (lv := bl.length) hv0 h0 hi1 (by omega)
  have hg := rdSev_ge (tkOK ht) hbl FU 0 (i + 1) hi1 (by unfold FU; omega)
  rw [show nI i + 1 = nI (i + 1) from nI_add' i 1]
  unfold stVals
  cases e : rdSev (tkT n x).tkd FU 0 (i + 1) bl.length with
  | inl j =>
    rw [e] at hc hg
    have hg := hg.1
    obtain ⟨hj, lv', sz', N', b', c', s, eX, hO⟩ := hc
    exact ⟨nI j, j, lv', le, sz', nI bl.length, nI fs.length, N', b', N1, b1, N2, b2, c', s, bw_ok (c' := 0) (s' := 0) eX rfl, Nat.max_eq_left (by omega), hj, by omega, hO.vec, hv1.clear, hv2.clear, ArG.of0 hO.grow hO.le h1 h2⟩
  | inr q =>
    obtain ⟨j, lv'⟩ := q
    rw [e] at hc hg
    obtain ⟨hg, _, hl⟩ := hg
    subst hl
    obtain ⟨hj, hlv, N', b', c', s, eX, hO⟩ := hc
    show StM _ _ _ _ _ _ (if (tkT n x).tkd j = 55 then .inr (j + 1, bl, fs) else .inl j)
    by_cases c5 : (tkT n x).tkd j = 55
    · rw [if_pos c5]
      refine ⟨hk.go hj (by omega), le, 0, N', b', N1, b1, N2, b2, c', s, bw_ok (c' := 0) (s' := 0) eX ?_, by omega, hO.vec, hv1, hv2, ArG.of0 hO.grow hO.le h1 h2⟩
      show (if (1 : Int32) = 0 then _ else _) = _
      rw [if_neg (by decide), show (55 : Int32) = nI 55 from rfl, Mo_take hk hj (by omega), if_pos c5]
      rfl
    · rw [if_neg c5]
      refine ⟨nI j, j, nI bl.length, le, 0, nI bl.length, nI fs.length, N', b', N1, b1, N2, b2, c', s, bw_ok (c' := 0) (s' := 0) eX ?_, Nat.max_eq_left (by omega), hj, by omega, hO.vec, hv1.clear, hv2.clear, ArG.of0 hO.grow hO.le h1 h2⟩
      show (if (1 : Int32) = 0 then _ else _) = _
      rw [if_neg (by decide), show (55 : Int32) = nI 55 from rfl, Mo_take hk hj (by omega), if_neg c5]
      rfl
end St
end
