section
section St
variable {n : Nat} {x : Nat → Nat} {N5 N6 N7 N4 : Nat} {a5 a6 a7 a4 : Nat → Int32}
variable {n2 : Nat} {c2 : Nat → Int32}
variable {q1 q2 q3 q4 q5 z0 z4 z5 z6 z7 : Int32}
variable {N0 N1 N2 i le : Nat} {b0 b1 b2 : Nat → Int32} {l0 : List Int32} {bad : Int32} {bl fs : List Nat}
theorem Ms_ed (hk : KdIs (cutE n x).length N5 a5 (tkT n x).tkd) (h1 : N1 ≤ 600) (h2 : N2 ≤ 65536) (hv1 : BlV N1 b1 bl) (hv2 : Vec N2 b2 (fs.map nI)) {X : Option ((Int32 × Int32 × Int32 × Int32 × Int32 × Nat × (Nat → Int32)) × Nat × Nat)} {o : Sum Nat (Nat × Nat)} (hX : MoE (cutE n x).length N0 bad X o) (ho : ∀ j lv, o = .inr (j, lv) → lv = bl.length ∧ le ≤ j) (hlm : le < (cutE n x).length) : StM (cutE n x).length N0 N1 N2 bad (bw X fun ⟨r1, r2, r3, r4, r5, r6, r7⟩ =>
    if r1 = 0 then (some ((0, r2, r3, r4, nI le, r5, nI bl.length, nI fs.length, r6, r7, N1, b1, N2, b2), 0, 0))
    else (Option.bind (F_Mo_take 55 q1 q2 q3 q4 r2 r3 r4 (nI le) q5 z5 N5 a5) fun ⟨r16, r17, r18⟩ =>
      if r16 = 0 then (some ((0, r17, r18, r4, nI le, r5, nI bl.length, nI fs.length, r6, r7, N1, b1, N2, b2), 0, 0))
      else (some ((1, r17, r18, r4, nI le, r5, nI bl.length, nI fs.length, r6, r7, N1, b1, N2, b2), 0, 0)))) (match stEd (tkT n x).tkd bl fs o with | .inl j => .inl (max j le) | .inr x => .inr x) := by
  match o, hX, ho with
  | .inl j, hX, ho =>
    obtain ⟨hj, lv', sz', N', b', c', s, eX, hO⟩ := hX
    refine ⟨nI j, j, lv', le, sz', nI bl.length, nI fs.length, N', b', N1, b1, N2, b2, c', s, bw_ok (c' := 0) (s' := 0) eX rfl, rfl, hj, hlm, hO.vec, hv1.clear, hv2.clear, ArG.of0 hO.grow hO.le h1 h2⟩
  | .inr (j, lv), hX, ho =>
    obtain ⟨ho1, ho2⟩ := ho j lv rfl
    subst ho1
    obtain ⟨hj, hlv, sz', N', b', c', s, eX, hO⟩ := hX
    show StM _ _ _ _ _ _ (match (if (tkT n x).tkd j = 55 then .inr (j + 1, bl, fs) else .inl j : Sum Nat (Nat × List Nat × List Nat)) with | .inl j => .inl (max j le) | .inr x => .inr x)
    by_cases c5 : (tkT n x).tkd j = 55
    · rw [if_pos c5]
      refine ⟨hk.go hj (by omega), le, sz', N', b', N1, b1, N2, b2, c', s, bw_ok (c' := 0) (s' := 0) eX ?_, by omega, hO.vec, hv1, hv2, ArG.of0 hO.grow hO.le h1 h2⟩
      show (if (1 : Int32) = 0 then _ else _) = _
      rw [if_neg (by decide), show (55 : Int32) = nI 55 from rfl, Mo_take hk hj (by omega), if_pos c5]
      rfl
    · rw [if_neg c5]
      refine ⟨nI j, j, nI bl.length, le, sz', nI bl.length, nI fs.length, N', b', N1, b1, N2, b2, c', s, bw_ok (c' := 0) (s' := 0) eX ?_, rfl, hj, hlm, hO.vec, hv1.clear, hv2.clear, ArG.of0 hO.grow hO.le h1 h2⟩
      show (if (1 : Int32) = 0 then _ else _) = _
      rw [if_neg (by decide), show (55 : Int32) = nI 55 from rfl, Mo_take hk hj (by omega), if_neg c5]
      rfl
theorem Ms_ed8 (hk : KdIs (cutE n x).length N5 a5 (tkT n x).tkd) (h1 : N1 ≤ 600) (h2 : N2 ≤ 65536) (hv1 : BlV N1 b1 bl) (hv2 : Vec N2 b2 (fs.map nI)) {X : Option ((Int32 × Int32 × Int32 × Int32 × Int32 × Nat × (Nat → Int32)) × Nat × Nat)} {o : Sum Nat (Nat × Nat)} (hX : MoE (cutE n x).length N0 bad X o) (ho : ∀ j lv, o = .inr (j, lv) → lv = bl.length ∧ le ≤ j) (hlm : le < (cutE n x).length) : StM (cutE n x).length N0 N1 N2 bad (bw (bw X fun ⟨r1, r2, r3, r4, r5, r6, r7⟩ => (some ((r1, r2, r3, r4, nI le, r5, r6, r7), 0, 0))) fun ⟨r1, r2, r3, r4, r0, r5, r6, r7⟩ =>
    if r1 = 0 then (some ((0, r2, r3, r4, r0, r5, nI bl.length, nI fs.length, r6, r7, N1, b1, N2, b2), 0, 0))
    else (Option.bind (F_Mo_take 55 q1 q2 q3 q4 r2 r3 r4 r0 q5 z5 N5 a5) fun ⟨r16, r17, r18⟩ =>
      if r16 = 0 then (some ((0, r17, r18, r4, r0, r5, nI bl.length, nI fs.length, r6, r7, N1, b1, N2, b2), 0, 0))
      else (some ((1, r17, r18, r4, r0, r5, nI bl.length, nI fs.length, r6, r7, N1, b1, N2, b2), 0, 0)))) (match stEd (tkT n x).tkd bl fs o with | .inl j => .inl (max j le) | .inr x => .inr x) := by
  match o, hX, ho with
  | .inl j, hX, ho =>
    obtain ⟨hj, lv', sz', N', b', c', s, eX, hO⟩ := hX
    refine ⟨nI j, j, lv', le, sz', nI bl.length, nI fs.length, N', b', N1, b1, N2, b2, c', s, bw_ok (c' := 0) (s' := 0) (bw_ok (c' := 0) (s' := 0) eX rfl) rfl, rfl, hj, hlm, hO.vec, hv1.clear, hv2.clear, ArG.of0 hO.grow hO.le h1 h2⟩
  | .inr (j, lv), hX, ho =>
    obtain ⟨ho1, ho2⟩ := ho j lv rfl
    subst ho1
    obtain ⟨hj, hlv, sz', N', b', c', s, eX, hO⟩ := hX
    show StM _ _ _ _ _ _ (match (if (tkT n x).tkd j = 55 then .inr (j + 1, bl, fs) else .inl j : Sum Nat (Nat × List Nat × List Nat)) with | .inl j => .inl (max j le) | .inr x => .inr x)
    by_cases c5 : (tkT n x).tkd j = 55
    · rw [if_pos c5]
      refine ⟨hk.go hj (by omega), le, sz', N', b', N1, b1, N2, b2, c', s, bw_ok (c' := 0) (s' := 0) (bw_ok (c' := 0) (s' := 0) eX rfl) ?_, by omega, hO.vec, hv1, hv2, ArG.of0 hO.grow hO.le h1 h2⟩
      show (if (1 : Int32) = 0 then _ else _) = _
      rw [if_neg (by decide), show (55 : Int32) = nI 55 from rfl, Mo_take hk hj (by omega), if_pos c5]
      rfl
    · rw [if_neg c5]
      refine ⟨nI j, j, nI bl.length, le, sz', nI bl.length, nI fs.length, N', b', N1, b1, N2, b2, c', s, bw_ok (c' := 0) (s' := 0) (bw_ok (c' := 0) (s' := 0) eX rfl) ?_, rfl, hj, hlm, hO.vec, hv1.clear, hv2.clear, ArG.of0 hO.grow hO.le h1 h2⟩
      show (if (1 : Int32) = 0 then _ else _) = _
      rw [if_neg (by decide), show (55 : Int32) = nI 55 from rfl, Mo_take hk hj (by omega), if_neg c5]
      rfl
theorem Ms_wk (ht : TextIs n x) (hk : KdIs (cutE n x).length N5 a5 (tkT n x).tkd) (hr : RkIs n2 c2) (h0 : N0 ≤ 600) (h1 : N1 ≤ 600) (h2 : N2 ≤ 65536) (hv0 : Vec N0 b0 l0) (hv1 : BlV N1 b1 bl) (hv2 : Vec N2 b2 (fs.map nI)) (hbl : bl.length ≤ 60) (hb57 : ∀ k ∈ bl, k < 57) (hi : i < (cutE n x).length) (hle : le ≤ i) (hw : ¬ wordK ((tkT n x).tkd i)) (h52 : (tkT n x).tkd i ≠ 52) : StM (cutE n x).length N0 N1 N2 bad (F_Mo_readStatement q1 q2 q3 q4 (nI i) bad (nI bl.length) (nI le) q5 z5 N5 a5 z0 N0 b0 n2 c2 (nI bl.length) N1 b1 z7 N7 a7 z6 N6 a6 z4 N4 a4 (nI fs.length) N2 b2) (stWork (tkT n x).tkd i bl fs) := by
  have hm := (tkOK ht).le
  have hW := Mo_wk (tkOK ht) hk hr (q1 := q1) (q2 := q2) (q3 := q3) (q4 := q4) (q5 := nI le) (q6 := q5) (q7 := z5) (bad := bad) (sz := z0) (lv := bl.length) hv0 h0 hi hbl
  have hg := rdWk_ge (tkOK ht) hi hbl
  have hD := Ms_ed (q1 := q1) (q2 := q2) (q3 := q3) (q4 := q4) (q5 := q5) (z5 := z5) (fs := fs) (bl := bl) (le := le) hk h1 h2 hv1 hv2 hW.z (fun j lv e => by rw [e] at hg; exact ⟨hg.2.2, by have := hg.1; omega⟩) (by omega)
  have e : (match stEd (tkT n x).tkd bl fs (rdWk (tkT n x).tkd i bl.length) with | .inl j => .inl (max j le) | .inr x => .inr x : Sum Nat (Nat × List Nat × List Nat)) = stWork (tkT n x).tkd i bl fs := by
    rw [stWork_ed]
    cases e2 : rdWk (tkT n x).tkd i bl.length with
    | inl j =>
      rw [e2] at hg
      show Sum.inl (max j le) = Sum.inl j
      rw [Nat.max_eq_left (by have := hg.1; omega)]
    | inr q =>
      obtain ⟨j, lv⟩ := q
      rw [e2] at hg
      show (match (if (tkT n x).tkd j = 55 then .inr (j + 1, bl, fs) else .inl j : Sum Nat (Nat × List Nat × List Nat)) with | .inl j => .inl (max j le) | .inr x => .inr x) = (if (tkT n x).tkd j = 55 then .inr (j + 1, bl, fs) else .inl j : Sum Nat (Nat × List Nat × List Nat))
      by_cases c5 : (tkT n x).tkd j = 55
      · rw [if_pos c5]
      · rw [if_neg c5]
        show Sum.inl (max j le) = Sum.inl j
        rw [Nat.max_eq_left (by have := hg.1; omega)]
  rw [e] at hD
  unfold F_Mo_readStatement
  rw [Mo_kind hk hi, Option.bind_some, if_neg (show ¬ a5 (Int32.toNatClampNeg (nI i)) = 10 from fun h => by have := (Mo_kd hk hi (p := 10) (by omega)).mp h; unfold wordK at hw; omega), if_neg (show ¬ a5 (Int32.toNatClampNeg (nI i)) = 11 from fun h => by have := (Mo_kd hk hi (p := 11) (by omega)).mp h; unfold wordK at hw; omega), if_neg (show ¬ a5 (Int32.toNatClampNeg (nI i)) = 12 from fun h => by have := (Mo_kd hk hi (p := 12) (by omega)).mp h; unfold wordK at hw; omega), if_neg (show ¬ a5 (Int32.toNatClampNeg (nI i)) = 13 from fun h => by have := (Mo_kd hk hi (p := 13) (by omega)).mp h; unfold wordK at hw; omega), if_neg (show ¬ a5 (Int32.toNatClampNeg (nI i)) = 14 from fun h => by have := (Mo_kd hk hi (p := 14) (by omega)).mp h; unfold wordK at hw; omega), if_neg (show ¬ a5 (Int32.toNatClampNeg (nI i)) = 15 from fun h => by have := (Mo_kd hk hi (p := 15) (by omega)).mp h; unfold wordK at hw; omega), if_neg (show ¬ a5 (Int32.toNatClampNeg (nI i)) = 16 from fun h => by have := (Mo_kd hk hi (p := 16) (by omega)).mp h; unfold wordK at hw; omega), if_neg (show ¬ a5 (Int32.toNatClampNeg (nI i)) = 17 from fun h => by have := (Mo_kd hk hi (p := 17) (by omega)).mp h; unfold wordK at hw; omega), if_neg (show ¬ a5 (Int32.toNatClampNeg (nI i)) = 18 from fun h => by have := (Mo_kd hk hi (p := 18) (by omega)).mp h; unfold wordK at hw; omega), if_neg (show ¬ a5 (Int32.toNatClampNeg (nI i)) = 19 from fun h => by have := (Mo_kd hk hi (p := 19) (by omega)).mp h; unfold wordK at hw; omega), if_neg (show ¬ a5 (Int32.toNatClampNeg (nI i)) = 20 from fun h => by have := (Mo_kd hk hi (p := 20) (by omega)).mp h; unfold wordK at hw; omega), if_neg (show ¬ a5 (Int32.toNatClampNeg (nI i)) = 21 from fun h => by have := (Mo_kd hk hi (p := 21) (by omega)).mp h; unfold wordK at hw; omega), if_neg (show ¬ a5 (Int32.toNatClampNeg (nI i)) = 22 from fun h => by have := (Mo_kd hk hi (p := 22) (by omega)).mp h; unfold wordK at hw; omega), if_neg (show ¬ a5 (Int32.toNatClampNeg (nI i)) = 23 from fun h => by have := (Mo_kd hk hi (p := 23) (by omega)).mp h; unfold wordK at hw; omega)]
  by_cases c24 : (tkT n x).tkd i = 24
  · rw [if_pos (show a5 (Int32.toNatClampNeg (nI i)) = 24 from (Mo_kd hk hi (p := 24) (by omega)).mpr c24)]
    exact hD
  rw [if_neg (show ¬ a5 (Int32.toNatClampNeg (nI i)) = 24 from fun h => c24 ((Mo_kd hk hi (p := 24) (by omega)).mp h))]
  by_cases c25 : (tkT n x).tkd i = 25
  · rw [if_pos (show a5 (Int32.toNatClampNeg (nI i)) = 25 from (Mo_kd hk hi (p := 25) (by omega)).mpr c25)]
    exact hD
  rw [if_neg (show ¬ a5 (Int32.toNatClampNeg (nI i)) = 25 from fun h => c25 ((Mo_kd hk hi (p := 25) (by omega)).mp h))]
  by_cases c26 : (tkT n x).tkd i = 26
  · rw [if_pos (show a5 (Int32.toNatClampNeg (nI i)) = 26 from (Mo_kd hk hi (p := 26) (by omega)).mpr c26)]
    exact hD
  rw [if_neg (show ¬ a5 (Int32.toNatClampNeg (nI i)) = 26 from fun h => c26 ((Mo_kd hk hi (p := 26) (by omega)).mp h))]
  by_cases c27 : (tkT n x).tkd i = 27
  · rw [if_pos (show a5 (Int32.toNatClampNeg (nI i)) = 27 from (Mo_kd hk hi (p := 27) (by omega)).mpr c27)]
    exact hD
  rw [if_neg (show ¬ a5 (Int32.toNatClampNeg (nI i)) = 27 from fun h => c27 ((Mo_kd hk hi (p := 27) (by omega)).mp h))]
  by_cases c28 : (tkT n x).tkd i = 28
  · rw [if_pos (show a5 (Int32.toNatClampNeg (nI i)) = 28 from (Mo_kd hk hi (p := 28) (by omega)).mpr c28)]
    exact hD
  rw [if_neg (show ¬ a5 (Int32.toNatClampNeg (nI i)) = 28 from fun h => c28 ((Mo_kd hk hi (p := 28) (by omega)).mp h))]
  by_cases c29 : (tkT n x).tkd i = 29
  · rw [if_pos (show a5 (Int32.toNatClampNeg (nI i)) = 29 from (Mo_kd hk hi (p := 29) (by omega)).mpr c29)]
    exact hD
  rw [if_neg (show ¬ a5 (Int32.toNatClampNeg (nI i)) = 29 from fun h => c29 ((Mo_kd hk hi (p := 29) (by omega)).mp h))]
  by_cases c30 : (tkT n x).tkd i = 30
  · rw [if_pos (show a5 (Int32.toNatClampNeg (nI i)) = 30 from (Mo_kd hk hi (p := 30) (by omega)).mpr c30)]
    exact hD
  rw [if_neg (show ¬ a5 (Int32.toNatClampNeg (nI i)) = 30 from fun h => c30 ((Mo_kd hk hi (p := 30) (by omega)).mp h))]
  by_cases c31 : (tkT n x).tkd i = 31
  · rw [if_pos (show a5 (Int32.toNatClampNeg (nI i)) = 31 from (Mo_kd hk hi (p := 31) (by omega)).mpr c31)]
    exact hD
  rw [if_neg (show ¬ a5 (Int32.toNatClampNeg (nI i)) = 31 from fun h => c31 ((Mo_kd hk hi (p := 31) (by omega)).mp h))]
  by_cases c32 : (tkT n x).tkd i = 32
  · rw [if_pos (show a5 (Int32.toNatClampNeg (nI i)) = 32 from (Mo_kd hk hi (p := 32) (by omega)).mpr c32)]
    exact hD
  rw [if_neg (show ¬ a5 (Int32.toNatClampNeg (nI i)) = 32 from fun h => c32 ((Mo_kd hk hi (p := 32) (by omega)).mp h))]
  by_cases c33 : (tkT n x).tkd i = 33
  · rw [if_pos (show a5 (Int32.toNatClampNeg (nI i)) = 33 from (Mo_kd hk hi (p := 33) (by omega)).mpr c33)]
    exact hD
  rw [if_neg (show ¬ a5 (Int32.toNatClampNeg (nI i)) = 33 from fun h => c33 ((Mo_kd hk hi (p := 33) (by omega)).mp h))]
  by_cases c34 : (tkT n x).tkd i = 34
  · rw [if_pos (show a5 (Int32.toNatClampNeg (nI i)) = 34 from (Mo_kd hk hi (p := 34) (by omega)).mpr c34)]
    exact hD
  rw [if_neg (show ¬ a5 (Int32.toNatClampNeg (nI i)) = 34 from fun h => c34 ((Mo_kd hk hi (p := 34) (by omega)).mp h))]
  by_cases c35 : (tkT n x).tkd i = 35
  · rw [if_pos (show a5 (Int32.toNatClampNeg (nI i)) = 35 from (Mo_kd hk hi (p := 35) (by omega)).mpr c35)]
    exact hD
  rw [if_neg (show ¬ a5 (Int32.toNatClampNeg (nI i)) = 35 from fun h => c35 ((Mo_kd hk hi (p := 35) (by omega)).mp h))]
  by_cases c36 : (tkT n x).tkd i = 36
  · rw [if_pos (show a5 (Int32.toNatClampNeg (nI i)) = 36 from (Mo_kd hk hi (p := 36) (by omega)).mpr c36)]
    exact hD
  rw [if_neg (show ¬ a5 (Int32.toNatClampNeg (nI i)) = 36 from fun h => c36 ((Mo_kd hk hi (p := 36) (by omega)).mp h))]
  by_cases c37 : (tkT n x).tkd i = 37
  · rw [if_pos (show a5 (Int32.toNatClampNeg (nI i)) = 37 from (Mo_kd hk hi (p := 37) (by omega)).mpr c37)]
    exact hD
  rw [if_neg (show ¬ a5 (Int32.toNatClampNeg (nI i)) = 37 from fun h => c37 ((Mo_kd hk hi (p := 37) (by omega)).mp h))]
  by_cases c38 : (tkT n x).tkd i = 38
  · rw [if_pos (show a5 (Int32.toNatClampNeg (nI i)) = 38 from (Mo_kd hk hi (p := 38) (by omega)).mpr c38)]
    exact hD
  rw [if_neg (show ¬ a5 (Int32.toNatClampNeg (nI i)) = 38 from fun h => c38 ((Mo_kd hk hi (p := 38) (by omega)).mp h))]
  by_cases c39 : (tkT n x).tkd i = 39
  · rw [if_pos (show a5 (Int32.toNatClampNeg (nI i)) = 39 from (Mo_kd hk hi (p := 39) (by omega)).mpr c39)]
    exact hD
  rw [if_neg (show ¬ a5 (Int32.toNatClampNeg (nI i)) = 39 from fun h => c39 ((Mo_kd hk hi (p := 39) (by omega)).mp h))]
  by_cases c40 : (tkT n x).tkd i = 40
  · rw [if_pos (show a5 (Int32.toNatClampNeg (nI i)) = 40 from (Mo_kd hk hi (p := 40) (by omega)).mpr c40)]
    exact hD
  rw [if_neg (show ¬ a5 (Int32.toNatClampNeg (nI i)) = 40 from fun h => c40 ((Mo_kd hk hi (p := 40) (by omega)).mp h))]
  by_cases c41 : (tkT n x).tkd i = 41
  · rw [if_pos (show a5 (Int32.toNatClampNeg (nI i)) = 41 from (Mo_kd hk hi (p := 41) (by omega)).mpr c41)]
    exact hD
  rw [if_neg (show ¬ a5 (Int32.toNatClampNeg (nI i)) = 41 from fun h => c41 ((Mo_kd hk hi (p := 41) (by omega)).mp h))]
  by_cases c42 : (tkT n x).tkd i = 42
  · rw [if_pos (show a5 (Int32.toNatClampNeg (nI i)) = 42 from (Mo_kd hk hi (p := 42) (by omega)).mpr c42)]
    exact hD
  rw [if_neg (show ¬ a5 (Int32.toNatClampNeg (nI i)) = 42 from fun h => c42 ((Mo_kd hk hi (p := 42) (by omega)).mp h))]
  by_cases c43 : (tkT n x).tkd i = 43
  · rw [if_pos (show a5 (Int32.toNatClampNeg (nI i)) = 43 from (Mo_kd hk hi (p := 43) (by omega)).mpr c43)]
    exact hD
  rw [if_neg (show ¬ a5 (Int32.toNatClampNeg (nI i)) = 43 from fun h => c43 ((Mo_kd hk hi (p := 43) (by omega)).mp h))]
  by_cases c44 : (tkT n x).tkd i = 44
  · rw [if_pos (show a5 (Int32.toNatClampNeg (nI i)) = 44 from (Mo_kd hk hi (p := 44) (by omega)).mpr c44)]
    exact hD
  rw [if_neg (show ¬ a5 (Int32.toNatClampNeg (nI i)) = 44 from fun h => c44 ((Mo_kd hk hi (p := 44) (by omega)).mp h))]
  by_cases c45 : (tkT n x).tkd i = 45
  · rw [if_pos (show a5 (Int32.toNatClampNeg (nI i)) = 45 from (Mo_kd hk hi (p := 45) (by omega)).mpr c45)]
    exact hD
  rw [if_neg (show ¬ a5 (Int32.toNatClampNeg (nI i)) = 45 from fun h => c45 ((Mo_kd hk hi (p := 45) (by omega)).mp h))]
  by_cases c46 : (tkT n x).tkd i = 46
  · rw [if_pos (show a5 (Int32.toNatClampNeg (nI i)) = 46 from (Mo_kd hk hi (p := 46) (by omega)).mpr c46)]
    exact hD
  rw [if_neg (show ¬ a5 (Int32.toNatClampNeg (nI i)) = 46 from fun h => c46 ((Mo_kd hk hi (p := 46) (by omega)).mp h))]
  by_cases c47 : (tkT n x).tkd i = 47
  · rw [if_pos (show a5 (Int32.toNatClampNeg (nI i)) = 47 from (Mo_kd hk hi (p := 47) (by omega)).mpr c47)]
    exact hD
  rw [if_neg (show ¬ a5 (Int32.toNatClampNeg (nI i)) = 47 from fun h => c47 ((Mo_kd hk hi (p := 47) (by omega)).mp h))]
  by_cases c48 : (tkT n x).tkd i = 48
  · rw [if_pos (show a5 (Int32.toNatClampNeg (nI i)) = 48 from (Mo_kd hk hi (p := 48) (by omega)).mpr c48)]
    exact hD
  rw [if_neg (show ¬ a5 (Int32.toNatClampNeg (nI i)) = 48 from fun h => c48 ((Mo_kd hk hi (p := 48) (by omega)).mp h))]
  by_cases c49 : (tkT n x).tkd i = 49
  · rw [if_pos (show a5 (Int32.toNatClampNeg (nI i)) = 49 from (Mo_kd hk hi (p := 49) (by omega)).mpr c49)]
    exact hD
  rw [if_neg (show ¬ a5 (Int32.toNatClampNeg (nI i)) = 49 from fun h => c49 ((Mo_kd hk hi (p := 49) (by omega)).mp h))]
  by_cases c50 : (tkT n x).tkd i = 50
  · rw [if_pos (show a5 (Int32.toNatClampNeg (nI i)) = 50 from (Mo_kd hk hi (p := 50) (by omega)).mpr c50)]
    exact hD
  rw [if_neg (show ¬ a5 (Int32.toNatClampNeg (nI i)) = 50 from fun h => c50 ((Mo_kd hk hi (p := 50) (by omega)).mp h))]
  by_cases c51 : (tkT n x).tkd i = 51
  · rw [if_pos (show a5 (Int32.toNatClampNeg (nI i)) = 51 from (Mo_kd hk hi (p := 51) (by omega)).mpr c51)]
    exact hD
  rw [if_neg (show ¬ a5 (Int32.toNatClampNeg (nI i)) = 51 from fun h => c51 ((Mo_kd hk hi (p := 51) (by omega)).mp h))]
  rw [if_neg (show ¬ a5 (Int32.toNatClampNeg (nI i)) = 52 from fun h => h52 ((Mo_kd hk hi (p := 52) (by omega)).mp h))]
  exact hD
/-- what could be targets ends before the expression does -/
theorem rows_le (ht : TextIs n x) {e j lv' : Nat} (hi : i < (cutE n x).length) (h52 : (tkT n x).tkd i = 52) (hlv : bl.length < 60) (he : tE (tkT n x).tkd 9 1 (i + 1) = .inl e) (hj : rdE (tkT n x).tkd i bl.length = .inr (j, lv')) : e ≤ j := by
  have hT := tkOK ht
  have hm := hT.le
  have hi1 : i + 1 < (cutE n x).length := hT.go hi (by omega)
  have hw1 : Mx.step (tkT n x).tkd (1, 0, 0, 0, i, bl.length, []) = Mx.opn (tkT n x).tkd 0 0 bl.length [] 52 i := by
    show Mx.wnt (tkT n x).tkd 0 0 0 i bl.length [] = _
    unfold Mx.wnt
    rw [if_neg (by omega), if_neg (by omega), if_pos (Or.inr h52), h52]
  by_cases c53 : (tkT n x).tkd (i + 1) = 53
  · have et : tE (tkT n x).tkd 9 1 (i + 1) = .inl (i + 1) := by
      rw [tE, if_pos (by omega)]
    rw [et] at he
    have he := Sum.inl.inj he
    have := rdE_ge hT hi (lv := bl.length) (by omega)
    rw [hj] at this
    have := this.1
    omega
  · have hop : Mx.opn (tkT n x).tkd 0 0 bl.length [] 52 i = .inr (false, roM i bl.length 0) := by
      unfold Mx.opn
      rw [if_neg (by omega), if_neg (by omega), if_neg (by omega)]
    have h2 := ro_run (sm := fun _ _ _ => false) (lv := bl.length) (bl := bl) (fs := []) (f := fm_0 0 0 0) (r := []) (X := .leaf) hT h52 (Nat.zero_le _) (by omega) 9 0 .leaf ((tkT n x).tpl i) ((tkT n x).twd i) (by omega) (by omega) hi1 rfl (fun h => absurd h (by omega)) (Or.inl rfl) (fun _ => c53)
    have h2 : RoO (tkT n x) (fun _ _ _ => false) (cutE n x).length i bl.length (i + 1) bl [] .leaf (fm_0 0 0 0) [] (roM i bl.length 0) ((roS (tkT n x) i bl.length 0 bl [] .leaf .leaf (fm_0 0 0 0) [] ((tkT n x).tpl i) ((tkT n x).twd i) 1).settle (tokC (tkT n x) (i + 1))) (tE (tkT n x).tkd 9 1 (i + 1)) := h2
    obtain ⟨fu1, hfu1, hr0⟩ := run1 (m := (cutE n x).length) (hw1.trans hop) (show i < i + 1 by omega) hi FU (by unfold FU; show (cutE n x).length - i < _; omega)
    have hr0 : rdE (tkT n x).tkd i bl.length = Mx.run (tkT n x).tkd fu1 (roM i bl.length 0) := hr0
    rw [he] at h2
    rcases h2 with ⟨bad, j2, k1, k2, k3, k4⟩ | ⟨mx, s', k1, k2, k3, k4, k5, k6⟩
    · rw [hr0, k1 fu1 hfu1] at hj
      cases hj
    · obtain ⟨fu2, a1, a2⟩ := k6 fu1 hfu1
      rw [hr0, a2] at hj
      have := run_ge (fu := fu2) hT k4 hj
      omega
theorem Ms_52 (ht : TextIs n x) (hk : KdIs (cutE n x).length N5 a5 (tkT n x).tkd) (hr : RkIs n2 c2) (h0 : N0 ≤ 600) (h1 : N1 ≤ 600) (h2 : N2 ≤ 65536) (hv0 : Vec N0 b0 l0) (hv1 : BlV N1 b1 bl) (hv2 : Vec N2 b2 (fs.map nI)) (hbl : bl.length ≤ 60) (hb57 : ∀ k ∈ bl, k < 57) (hi : i < (cutE n x).length) (hle : le ≤ i) (hkd : (tkT n x).tkd i = 52) : StM (cutE n x).length N0 N1 N2 bad (F_Mo_readStatement q1 q2 q3 q4 (nI i) bad (nI bl.length) (nI le) q5 z5 N5 a5 z0 N0 b0 n2 c2 (nI bl.length) N1 b1 z7 N7 a7 z6 N6 a6 z4 N4 a4 (nI fs.length) N2 b2) (stRows (tkT n x).tkd i bl fs) := by
  have hm := (tkOK ht).le
  have hi1 : i + 1 < (cutE n x).length := hk.go hi (by omega)
  unfold F_Mo_readStatement
  rw [Mo_kind hk hi, Option.bind_some, if_neg (show ¬ a5 (Int32.toNatClampNeg (nI i)) = 10 from fun h => by have := (Mo_kd hk hi (p := 10) (by omega)).mp h; omega), if_neg (show ¬ a5 (Int32.toNatClampNeg (nI i)) = 11 from fun h => by have := (Mo_kd hk hi (p := 11) (by omega)).mp h; omega), if_neg (show ¬ a5 (Int32.toNatClampNeg (nI i)) = 12 from fun h => by have := (Mo_kd hk hi (p := 12) (by omega)).mp h; omega), if_neg (show ¬ a5 (Int32.toNatClampNeg (nI i)) = 13 from fun h => by have := (Mo_kd hk hi (p := 13) (by omega)).mp h; omega), if_neg (show ¬ a5 (Int32.toNatClampNeg (nI i)) = 14 from fun h => by have := (Mo_kd hk hi (p := 14) (by omega)).mp h; omega), if_neg (show ¬ a5 (Int32.toNatClampNeg (nI i)) = 15 from fun h => by have := (Mo_kd hk hi (p := 15) (by omega)).mp h; omega), if_neg (show ¬ a5 (Int32.toNatClampNeg (nI i)) = 16 from fun h => by have := (Mo_kd hk hi (p := 16) (by omega)).mp h; omega), if_neg (show ¬ a5 (Int32.toNatClampNeg (nI i)) = 17 from fun h => by have := (Mo_kd hk hi (p := 17) (by omega)).mp h; omega), if_neg (show ¬ a5 (Int32.toNatClampNeg (nI i)) = 18 from fun h => by have := (Mo_kd hk hi (p := 18) (by omega)).mp h; omega), if_neg (show ¬ a5 (Int32.toNatClampNeg (nI i)) = 19 from fun h => by have := (Mo_kd hk hi (p := 19) (by omega)).mp h; omega), if_neg (show ¬ a5 (Int32.toNatClampNeg (nI i)) = 20 from fun h => by have := (Mo_kd hk hi (p := 20) (by omega)).mp h; omega), if_neg (show ¬ a5 (Int32.toNatClampNeg (nI i)) = 21 from fun h => by have := (Mo_kd hk hi (p := 21) (by omega)).mp h; omega), if_neg (show ¬ a5 (Int32.toNatClampNeg (nI i)) = 22 from fun h => by have := (Mo_kd hk hi (p := 22) (by omega)).mp h; omega), if_neg (show ¬ a5 (Int32.toNatClampNeg (nI i)) = 23 from fun h => by have := (Mo_kd hk hi (p := 23) (by omega)).mp h; omega), if_neg (show ¬ a5 (Int32.toNatClampNeg (nI i)) = 24 from fun h => by have := (Mo_kd hk hi (p := 24) (by omega)).mp h; omega), if_neg (show ¬ a5 (Int32.toNatClampNeg (nI i)) = 25 from fun h => by have := (Mo_kd hk hi (p := 25) (by omega)).mp h; omega), if_neg (show ¬ a5 (Int32.toNatClampNeg (nI i)) = 26 from fun h => by have := (Mo_kd hk hi (p := 26) (by omega)).mp h; omega), if_neg (show ¬ a5 (Int32.toNatClampNeg (nI i)) = 27 from fun h => by have := (Mo_kd hk hi (p := 27) (by omega)).mp h; omega), if_neg (show ¬ a5 (Int32.toNatClampNeg (nI i)) = 28 from fun h => by have := (Mo_kd hk hi (p := 28) (by omega)).mp h; omega), if_neg (show ¬ a5 (Int32.toNatClampNeg (nI i)) = 29 from fun h => by have := (Mo_kd hk hi (p := 29) (by omega)).mp h; omega), if_neg (show ¬ a5 (Int32.toNatClampNeg (nI i)) = 30 from fun h => by have := (Mo_kd hk hi (p := 30) (by omega)).mp h; omega), if_neg (show ¬ a5 (Int32.toNatClampNeg (nI i)) = 31 from fun h => by have := (Mo_kd hk hi (p := 31) (by omega)).mp h; omega), if_neg (show ¬ a5 (Int32.toNatClampNeg (nI i)) = 32 from fun h => by have := (Mo_kd hk hi (p := 32) (by omega)).mp h; omega), if_neg (show ¬ a5 (Int32.toNatClampNeg (nI i)) = 33 from fun h => by have := (Mo_kd hk hi (p := 33) (by omega)).mp h; omega), if_neg (show ¬ a5 (Int32.toNatClampNeg (nI i)) = 34 from fun h => by have := (Mo_kd hk hi (p := 34) (by omega)).mp h; omega), if_neg (show ¬ a5 (Int32.toNatClampNeg (nI i)) = 35 from fun h => by have := (Mo_kd hk hi (p := 35) (by omega)).mp h; omega), if_neg (show ¬ a5 (Int32.toNatClampNeg (nI i)) = 36 from fun h => by have := (Mo_kd hk hi (p := 36) (by omega)).mp h; omega), if_neg (show ¬ a5 (Int32.toNatClampNeg (nI i)) = 37 from fun h => by have := (Mo_kd hk hi (p := 37) (by omega)).mp h; omega), if_neg (show ¬ a5 (Int32.toNatClampNeg (nI i)) = 38 from fun h => by have := (Mo_kd hk hi (p := 38) (by omega)).mp h; omega), if_neg (show ¬ a5 (Int32.toNatClampNeg (nI i)) = 39 from fun h => by have := (Mo_kd hk hi (p := 39) (by omega)).mp h; omega), if_neg (show ¬ a5 (Int32.toNatClampNeg (nI i)) = 40 from fun h => by have := (Mo_kd hk hi (p := 40) (by omega)).mp h; omega), if_neg (show ¬ a5 (Int32.toNatClampNeg (nI i)) = 41 from fun h => by have := (Mo_kd hk hi (p := 41) (by omega)).mp h; omega), if_neg (show ¬ a5 (Int32.toNatClampNeg (nI i)) = 42 from fun h => by have := (Mo_kd hk hi (p := 42) (by omega)).mp h; omega), if_neg (show ¬ a5 (Int32.toNatClampNeg (nI i)) = 43 from fun h => by have := (Mo_kd hk hi (p := 43) (by omega)).mp h; omega), if_neg (show ¬ a5 (Int32.toNatClampNeg (nI i)) = 44 from fun h => by have := (Mo_kd hk hi (p := 44) (by omega)).mp h; omega), if_neg (show ¬ a5 (Int32.toNatClampNeg (nI i)) = 45 from fun h => by have := (Mo_kd hk hi (p := 45) (by omega)).mp h; omega), if_neg (show ¬ a5 (Int32.toNatClampNeg (nI i)) = 46 from fun h => by have := (Mo_kd hk hi (p := 46) (by omega)).mp h; omega), if_neg (show ¬ a5 (Int32.toNatClampNeg (nI i)) = 47 from fun h => by have := (Mo_kd hk hi (p := 47) (by omega)).mp h; omega), if_neg (show ¬ a5 (Int32.toNatClampNeg (nI i)) = 48 from fun h => by have := (Mo_kd hk hi (p := 48) (by omega)).mp h; omega), if_neg (show ¬ a5 (Int32.toNatClampNeg (nI i)) = 49 from fun h => by have := (Mo_kd hk hi (p := 49) (by omega)).mp h; omega), if_neg (show ¬ a5 (Int32.toNatClampNeg (nI i)) = 50 from fun h => by have := (Mo_kd hk hi (p := 50) (by omega)).mp h; omega), if_neg (show ¬ a5 (Int32.toNatClampNeg (nI i)) = 51 from fun h => by have := (Mo_kd hk hi (p := 51) (by omega)).mp h; omega), if_pos (show a5 (Int32.toNatClampNeg (nI i)) = 52 from (Mo_kd hk hi (p := 52) (by omega)).mpr hkd)]
  unfold F_Mo_readRowsStatement stRows
  by_cases c60 : bl.length = 60
  · rw [if_pos c60, if_pos (show nI bl.length = 60 by rw [c60]; rfl)]
    exact ⟨nI i, i, nI bl.length, le, z0, nI bl.length, nI fs.length, N0, b0, N1, b1, N2, b2, 0, 0, rfl, Nat.max_eq_left hle, hi, by omega, hv0.clear, hv1.clear, hv2.clear, ArG.rfl h0 h1 h2⟩
  · rw [if_neg c60, if_neg (show ¬ nI bl.length = 60 by rw [show (60 : Int32) = nI 60 from rfl, nI_eq' (by omega) (by omega)]; exact c60), Mo_tE (tkOK ht) hk hi1, Option.bind_some]
    have htn := tE_no (K := (tkT n x).tkd) 9 1 (i + 1)
    have htl := tE_lt (tkOK ht) 9 1 (i + 1) hi1
    cases e : tE (tkT n x).tkd 9 1 (i + 1) with
    | inr c =>
      rw [e] at htn htl
      obtain ⟨t1, t2, t3, t4⟩ := htn
      dsimp only
      rw [if_neg (show ¬ (0 : Int32) ≤ -1 by decide)]
      have hW := Mo_tgt (tkOK ht) hk hr (q1 := q1) (q2 := q2) (q3 := q3) (q4 := q4) (q5 := nI le) (q6 := q5) (q7 := z5) (bad := bad) (sz := z0) (i := i) (lv := bl.length) (c := c) hv0 h0 (by omega) htl t3 (fun j a1 a2 => by
        by_cases d : j = i
        · rw [d, hkd]; omega
        · exact t4 j (by omega) a2) (by omega)
      have hg := rdTg_ge (tkOK ht) (c := c) (lv := bl.length) htl (by omega)
      have hD := Ms_ed8 (q1 := q1) (q2 := q2) (q3 := q3) (q4 := q4) (q5 := q5) (z5 := z5) (fs := fs) (bl := bl) (le := le) hk h1 h2 hv1 hv2 hW (fun j lv e => by rw [e] at hg; exact ⟨hg.2, by have := hg.1; omega⟩) (by omega)
      have e3 : (match stEd (tkT n x).tkd bl fs (rdTg (tkT n x).tkd c bl.length) with | .inl j => .inl (max j le) | .inr x => .inr x : Sum Nat (Nat × List Nat × List Nat)) = stTgt (tkT n x).tkd c bl fs := by
        rw [stTgt_ed]
        cases e2 : rdTg (tkT n x).tkd c bl.length with
        | inl j =>
          rw [e2] at hg
          have hg : c ≤ j := hg
          show Sum.inl (max j le) = Sum.inl j
          rw [Nat.max_eq_left (by omega)]
        | inr q =>
          obtain ⟨j, lv⟩ := q
          rw [e2] at hg
          have hg := hg.1
          show (match (if (tkT n x).tkd j = 55 then .inr (j + 1, bl, fs) else .inl j : Sum Nat (Nat × List Nat × List Nat)) with | .inl j => .inl (max j le) | .inr x => .inr x) = (if (tkT n x).tkd j = 55 then .inr (j + 1, bl, fs) else .inl j : Sum Nat (Nat × List Nat × List Nat))
          by_cases c5 : (tkT n x).tkd j = 55
          · rw [if_pos c5]
          · rw [if_neg c5]
            show Sum.inl (max j le) = Sum.inl j
            rw [Nat.max_eq_left (by omega)]
      rw [e3] at hD
      exact hD
    | inl e1 =>
      rw [e] at htl
      have htl : e1 < (cutE n x).length := htl
      dsimp only
      rw [if_pos (show (0 : Int32) ≤ nI e1 by rw [nI_ge0 (by omega)]; trivial)]
      have hW := Mo_wk (tkOK ht) hk hr (q1 := q1) (q2 := q2) (q3 := q3) (q4 := q4) (q5 := nI e1) (q6 := q5) (q7 := z5) (bad := bad) (sz := z0) (lv := bl.length) hv0 h0 hi hbl
      have hg := rdWk_ge (tkOK ht) hi hbl
      have hD := Ms_ed8 (q1 := q1) (q2 := q2) (q3 := q3) (q4 := q4) (q5 := q5) (z5 := z5) (fs := fs) (bl := bl) (le := e1) hk h1 h2 hv1 hv2 hW.z (fun j lv e2 => by
        rw [e2] at hg
        refine ⟨hg.2.2, ?_⟩
        unfold rdWk at e2
        cases e4 : rdE (tkT n x).tkd i bl.length with
        | inl k => rw [e4] at e2; cases e2
        | inr q =>
          obtain ⟨k, lv2⟩ := q
          have hk1 := rows_le (bl := bl) ht hi hkd (by omega) e e4
          rw [e4] at e2
          have e2 : (if (tkT n x).tkd k = 56 then (if isTg (tkT n x).tkd i k = true then rdE (tkT n x).tkd (k + 1) bl.length else .inl k) else .inr (k, bl.length) : Sum Nat (Nat × Nat)) = .inr (j, lv) := e2
          have hk2 := rdE_ge (tkOK ht) hi (lv := bl.length) hbl
          rw [e4] at hk2
          by_cases g : (tkT n x).tkd k = 56
          · rw [if_pos g] at e2
            by_cases g2 : isTg (tkT n x).tkd i k = true
            · rw [if_pos g2] at e2
              have hk3 := rdE_ge (tkOK ht) (i := k + 1) (lv := bl.length) ((tkOK ht).go hk2.2.1 (by omega)) hbl
              rw [e2] at hk3
              have := hk3.1
              omega
            · rw [if_neg g2] at e2; cases e2
          · rw [if_neg g] at e2
            have := Prod.mk.inj (Sum.inr.inj e2)
            omega) htl
      rw [← stWork_ed] at hD
      exact hD
end St
end
