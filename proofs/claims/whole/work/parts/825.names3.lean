section
/-- how the reference's lists of the reading have grown -/
abbrev ArG (N0 N1 N2 N0' N1' N2' : Nat) (c s : Nat) : Prop := (∃ c0 s0 c1 s1 c2 s2, Grow N0 N0' c0 s0 ∧ Grow N1 N1' c1 s1 ∧ Grow N2 N2' c2 s2 ∧ c = c0 + c1 + c2 ∧ s = s0 + s1 + s2) ∧ (N0' ≤ 600) ∧ (N1' ≤ 600) ∧ (N2' ≤ 65536)
theorem ArG.ex {N0 N1 N2 N0' N1' N2' : Nat} {c s : Nat} (h : ArG N0 N1 N2 N0' N1' N2' c s) : ∃ c0 s0 c1 s1 c2 s2, Grow N0 N0' c0 s0 ∧ Grow N1 N1' c1 s1 ∧ Grow N2 N2' c2 s2 ∧ c = c0 + c1 + c2 ∧ s = s0 + s1 + s2 := h.1
theorem ArG.l0 {N0 N1 N2 N0' N1' N2' : Nat} {c s : Nat} (h : ArG N0 N1 N2 N0' N1' N2' c s) : N0' ≤ 600 := h.2.1
theorem ArG.l1 {N0 N1 N2 N0' N1' N2' : Nat} {c s : Nat} (h : ArG N0 N1 N2 N0' N1' N2' c s) : N1' ≤ 600 := h.2.2.1
theorem ArG.l2 {N0 N1 N2 N0' N1' N2' : Nat} {c s : Nat} (h : ArG N0 N1 N2 N0' N1' N2' c s) : N2' ≤ 65536 := h.2.2.2
theorem ArG.rfl {N0 N1 N2 : Nat} (h0 : N0 ≤ 600) (h1 : N1 ≤ 600) (h2 : N2 ≤ 65536) : ArG N0 N1 N2 N0 N1 N2 0 0 := ⟨⟨0, 0, 0, 0, 0, 0, Grow.rfl, Grow.rfl, Grow.rfl, Eq.refl _, Eq.refl _⟩, h0, h1, h2⟩
theorem ArG.trans {N0 N1 N2 M0 M1 M2 K0 K1 K2 c s c' s' : Nat} (h : ArG N0 N1 N2 M0 M1 M2 c s) (g : ArG M0 M1 M2 K0 K1 K2 c' s') : ArG N0 N1 N2 K0 K1 K2 (c + c') (s + s') := by
  obtain ⟨⟨a0, b0, a1, b1, a2, b2, h1, h2, h3, h4, h5⟩, _⟩ := h
  obtain ⟨⟨d0, e0, d1, e1, d2, e2, g1, g2, g3, g4, g5⟩, l0, l1, l2⟩ := g
  exact ⟨⟨a0 + d0, b0 + e0, a1 + d1, b1 + e1, a2 + d2, b2 + e2, h1.trans g1, h2.trans g2, h3.trans g3, by omega, by omega⟩, l0, l1, l2⟩
theorem ArG.of0 {N0 N1 N2 M0 c s : Nat} (h : Grow N0 M0 c s) (h0 : M0 ≤ 600) (h1 : N1 ≤ 600) (h2 : N2 ≤ 65536) : ArG N0 N1 N2 M0 N1 N2 c s := ⟨⟨c, s, 0, 0, 0, 0, h, Grow.rfl, Grow.rfl, by omega, by omega⟩, h0, h1, h2⟩
theorem ArG.of1 {N0 N1 N2 M1 c s : Nat} (h : Grow N1 M1 c s) (h0 : N0 ≤ 600) (h1 : M1 ≤ 600) (h2 : N2 ≤ 65536) : ArG N0 N1 N2 N0 M1 N2 c s := ⟨⟨0, 0, c, s, 0, 0, Grow.rfl, h, Grow.rfl, by omega, by omega⟩, h0, h1, h2⟩
theorem ArG.of2 {N0 N1 N2 M2 c s : Nat} (h : Grow N2 M2 c s) (h0 : N0 ≤ 600) (h1 : N1 ≤ 600) (h2 : M2 ≤ 65536) : ArG N0 N1 N2 N0 N1 M2 c s := ⟨⟨0, 0, 0, 0, c, s, Grow.rfl, Grow.rfl, h, by omega, by omega⟩, h0, h1, h2⟩
abbrev FnT : Type := Int32 × Int32 × Int32 × Int32 × Int32 × Int32 × Nat × (Nat → Int32) × Nat × (Nat → Int32)
/-- what the reference's reading of a function's head says -/
def FnR (m N0 N1 N2 : Nat) (bad : Int32) (X : Option (FnT × Nat × Nat)) : Sum Nat (Nat × List Nat × List Nat) → Prop
  | .inl j => j < m ∧ ∃ at' lv z1 z2 N1' b1 N2' b2 c s, X = some ((0, at', nI j, lv, z1, z2, N1', b1, N2', b2), c, s) ∧ Vec N1' b1 [] ∧ Vec N2' b2 [] ∧ ArG N0 N1 N2 N0 N1' N2' c s
  | .inr (i, bl, fs) => i < m ∧ ∃ N1' b1 N2' b2 c s, X = some ((1, nI i, bad, nI bl.length, nI bl.length, nI fs.length, N1', b1, N2', b2), c, s) ∧ BlV N1' b1 bl ∧ Vec N2' b2 (fs.map nI) ∧ ArG N0 N1 N2 N0 N1' N2' c s
theorem FnR.pre {m N0 N1 N2 N1a N2a c1 s1 : Nat} {bad : Int32} {X Y : Option (FnT × Nat × Nat)} (g : ArG N0 N1 N2 N0 N1a N2a c1 s1) (hX : ∀ R c2 s2, Y = some (R, c2, s2) → X = some (R, c1 + c2, s1 + s2)) : ∀ {o : Sum Nat (Nat × List Nat × List Nat)}, FnR m N0 N1a N2a bad Y o → FnR m N0 N1 N2 bad X o
  | .inl j, ⟨h, at', lv, z1, z2, N1', b1, N2', b2, c, s, e, v1, v2, a⟩ => ⟨h, at', lv, z1, z2, N1', b1, N2', b2, c1 + c, s1 + s, hX _ _ _ e, v1, v2, g.trans a⟩
  | .inr (i, bl, fs), ⟨h, N1', b1, N2', b2, c, s, e, v1, v2, a⟩ => ⟨h, N1', b1, N2', b2, c1 + c, s1 + s, hX _ _ _ e, v1, v2, g.trans a⟩
section Fn
variable {n : Nat} {x : Nat → Nat} {N5 N6 N7 N4 : Nat} {a5 a6 a7 a4 : Nat → Int32}
variable {q1 q2 q3 q4 q5 q6 q7 q8 q9 z4 z5 z6 z7 : Int32}
theorem Mo_f243 (hk : KdIs (cutE n x).length N5 a5 (tkT n x).tkd) {N0 N1 N2 j : Nat} {b1 b2 : Nat → Int32} {bad : Int32} {fs : List Nat} {nm : Nat} (h0 : N0 ≤ 600) (h1 : N1 ≤ 600) (h2 : N2 ≤ 65536) (hv1 : BlV N1 b1 []) (hv2 : Vec N2 b2 ((fs ++ [nm]).map nI)) (hj : j < (cutE n x).length) (v1 : Int32) :
    FnR (cutE n x).length N0 N1 N2 bad (F_Mo_readFunction_243 q1 q2 q3 q4 q5 q6 0 z5 N5 a5 (nI fs.length) N1 b1 v1 N2 b2 (nI j) bad (nI 2)) (if (tkT n x).tkd j = 51 then .inr (j + 1, [19], fs ++ [nm]) else .inl j) := by
  unfold F_Mo_readFunction_243
  rw [show (51 : Int32) = nI 51 from rfl, Mo_leave hk hj (by omega)]
  by_cases c : (tkT n x).tkd j = 51
  · rw [if_pos c, if_pos c, Option.bind_some]
    dsimp only
    rw [if_neg (show ¬ (1 : Int32) = 0 by decide)]
    obtain ⟨N1', b1', c1, s1, e, g1, g2, g3⟩ := Nm_add hv1.clear (by show 0 < 2 ^ 19; omega) 19
    refine ⟨hk.go hj (by omega), N1', b1', N2, b2, c1, s1, bw_ok (c' := 0) (s' := 0) e ?_, g1, hv2, ArG.of1 g2 h0 ?_ h2⟩
    · show some ((1, nI (j + 1), bad, nI 2 - 1, 0 + 1, nI fs.length + 1, N1', b1', N2, b2), 0, 0) = _
      rw [List.length_append, show nI fs.length + 1 = nI (fs.length + 1) from nI_add' _ 1]
      rfl
    · rcases g3 with g | ⟨g, _⟩
      · omega
      · have := hv1.pos
        have g : N1 = 0 := g
        omega
  · rw [if_neg c, if_neg c]
    exact ⟨hj, nI j, nI 2 - 1, 0, nI fs.length + 1, N1, b1, N2, b2, 0, 0, rfl, hv1.clear, hv2.clear, ArG.rfl h0 h1 h2⟩
theorem Mo_f119 (ht : TextIs n x) (hk : KdIs (cutE n x).length N5 a5 (tkT n x).tkd) (hx : TxA n x N6 a6 N7 a7 N4 a4) {N0 N1 N2 nm : Nat} {b1 b2 : Nat → Int32} {bad : Int32} {fs : List Nat} {res : Bool} (h0 : N0 ≤ 600) (h1 : N1 ≤ 600) (h2 : N2 ≤ 65536) (hv1 : BlV N1 b1 []) (hv2 : Vec N2 b2 (fs.map nI)) (hfs : ∀ q ∈ fs, q < (cutE n x).length ∧ (tkT n x).tkd q = 2) (hfl : fs.length < 16385) (hnm : nm < (cutE n x).length) (hnm0 : 0 < nm) (v1 : Int32) (hvr : v1 = if res = true then 1 else 0) :
    FnR (cutE n x).length N0 N1 N2 bad (F_Mo_readFunction_119 q1 q2 q3 q4 q5 q6 0 z5 N5 a5 z7 N7 a7 z6 N6 a6 z4 N4 a4 (nI fs.length) N2 b2 N1 b1 v1 (nI nm) bad (nI 1)) (stFb (tkT n x).tkd (SNm n x) fs res nm) := by
  have hm := (tkOK ht).le
  have e2 : (a5 (Int32.toNatClampNeg (nI nm)) = 2) = ((tkT n x).tkd nm = 2) := Mo_kd hk hnm (p := 2) (by omega)
  have e19 : (a5 (Int32.toNatClampNeg (nI (nm - 1))) = 19) = ((tkT n x).tkd (nm - 1) = 19) := Mo_kd hk (by omega) (p := 19) (by omega)
  unfold F_Mo_readFunction_119 stFb
  rw [Mo_kind hk hnm, Option.bind_some]
  simp only [e2]
  by_cases c2 : (tkT n x).tkd nm = 2
  · rw [if_pos c2, if_neg (show ¬ (tkT n x).tkd nm ≠ 2 from fun y => y c2), Mo_isf ht hx hnm c2 fs hv2 hfs (by omega), Option.bind_some]
    by_cases ca : (fs.any fun q => SNm n x q nm) = true
    · rw [if_pos ca, if_neg (show ¬ (1 : Int32) = 0 by decide), if_pos ca]
      cases res with
      | true =>
        rw [if_pos rfl] at hvr
        rw [hvr, if_neg (show ¬ (1 : Int32) = 0 by decide), if_neg (show ¬ (true = false ∧ (tkT n x).tkd (nm - 1) = 19) from fun y => absurd y.1 (by decide))]
        unfold F_Mo_readFunction_170
        rw [if_pos rfl]
        exact ⟨hnm, nI nm, nI 1, 0, nI fs.length, N1, b1, N2, b2, 0, 0, rfl, hv1.clear, hv2.clear, ArG.rfl h0 h1 h2⟩
      | false =>
        rw [if_neg Bool.false_ne_true] at hvr
        rw [hvr, if_pos (show (0 : Int32) = 0 from rfl), show nI nm - 1 = nI (nm - 1) from nI_sub' (show 1 ≤ nm by omega), Mo_at hk (by omega), Option.bind_some]
        simp only [e19]
        by_cases c19 : (tkT n x).tkd (nm - 1) = 19
        · rw [if_pos c19, if_pos (show True ∧ (tkT n x).tkd (nm - 1) = 19 from ⟨trivial, c19⟩)]
          unfold F_Mo_readFunction_170
          rw [if_neg (show ¬ (1 : Int32) = 0 by decide), show nI nm + 1 = nI (nm + 1) from nI_add' nm 1]
          exact ⟨hk.go hnm (by omega), nI (nm + 1), nI 1, 0, nI fs.length, N1, b1, N2, b2, 0, 0, rfl, hv1.clear, hv2.clear, ArG.rfl h0 h1 h2⟩
        · rw [if_neg c19, if_neg (show ¬ (True ∧ (tkT n x).tkd (nm - 1) = 19) from fun y => c19 y.2)]
          unfold F_Mo_readFunction_170
          rw [if_pos rfl]
          exact ⟨hnm, nI nm, nI 1, 0, nI fs.length, N1, b1, N2, b2, 0, 0, rfl, hv1.clear, hv2.clear, ArG.rfl h0 h1 h2⟩
    · rw [if_neg ca, if_pos rfl, if_neg ca]
      have hn1 : nm + 1 < (cutE n x).length := hk.go hnm (by omega)
      obtain ⟨N2', b2', c3, s3, e, g1, g2, g3⟩ := Nm_add hv2 (by rw [List.length_map]; omega) (nI nm)
      rw [List.length_map] at e
      have hN2' : N2' ≤ 65536 := by
        rcases g3 with g | ⟨g, g'⟩
        · omega
        · rw [List.length_map] at g; omega
      have hv2' : Vec N2' b2' ((fs ++ [nm]).map nI) := by rw [List.map_append]; exact g1
      have main : FnR (cutE n x).length N0 N1 N2' bad (Option.bind (F_Mo_enter 50 q1 q2 q3 q4 (nI nm + 1) bad (nI 1) q5 q6 z5 N5 a5) fun ⟨r32, r33, r34, r35⟩ =>
          if r32 = 0 then (some ((0, r33, r34, r35, 0, nI fs.length + 1, N1, b1, N2', b2'), 0, 0))
          else (Option.bind (F_Mo_kind q1 q2 q3 q4 r33 r34 r35 q5 q6 z5 N5 a5) fun _ =>
            if (a5 (Int32.toNatClampNeg r33)) = 51 then (F_Mo_readFunction_243 q1 q2 q3 q4 q5 q6 0 z5 N5 a5 (nI fs.length) N1 b1 v1 N2' b2' r33 r34 r35)
            else (Option.bind (F_Mo_readNames q1 q2 q3 q4 r33 r34 r35 q5 q6 z5 N5 a5 z7 N7 a7 z6 N6 a6 z4 N4 a4) fun ⟨r41, r42, r43⟩ =>
              if r41 = 0 then (some ((0, r42, r43, r35, 0, nI fs.length + 1, N1, b1, N2', b2'), 0, 0))
              else (F_Mo_readFunction_243 q1 q2 q3 q4 q5 q6 0 z5 N5 a5 (nI fs.length) N1 b1 v1 N2' b2' r42 r43 r35))))
          (if (tkT n x).tkd (nm + 1) ≠ 50 then .inl (nm + 1) else if (tkT n x).tkd (nm + 2) = 51 then .inr (nm + 3, [19], fs ++ [nm])
            else match rdNm (tkT n x).tkd (SNm n x) (nm + 2) FU 0 with
              | .inl j => .inl j
              | .inr j => if (tkT n x).tkd j = 51 then .inr (j + 1, [19], fs ++ [nm]) else .inl j) := by
        rw [show nI nm + 1 = nI (nm + 1) from nI_add' nm 1, show (50 : Int32) = nI 50 from rfl, Mo_enter hk hn1 (by omega) (by omega)]
        by_cases c50 : (tkT n x).tkd (nm + 1) = 50
        · have hn2 : nm + 2 < (cutE n x).length := hk.go hn1 (by omega)
          have e51 : (a5 (Int32.toNatClampNeg (nI (nm + 2))) = 51) = ((tkT n x).tkd (nm + 2) = 51) := Mo_kd hk hn2 (p := 51) (by omega)
          rw [if_pos c50, if_neg (show ¬ 1 = 60 by omega), if_neg (show ¬ (tkT n x).tkd (nm + 1) ≠ 50 from fun y => y c50), Option.bind_some]
          dsimp only
          rw [if_neg (show ¬ (1 : Int32) = 0 by decide), show nI (nm + 1 + 1) = nI (nm + 2) from rfl, Mo_kind hk hn2, Option.bind_some]
          simp only [e51]
          by_cases c51 : (tkT n x).tkd (nm + 2) = 51
          · rw [if_pos c51, if_pos c51]
            have := Mo_f243 (q1 := q1) (q2 := q2) (q3 := q3) (q4 := q4) (q5 := q5) (q6 := q6) (z5 := z5) (bad := bad) hk h0 h1 hN2' hv1 hv2' hn2 v1
            rw [if_pos c51] at this
            exact this
          · rw [if_neg c51, if_neg c51]
            have hnr := Mo_nms (q1 := q1) (q2 := q2) (q3 := q3) (q4 := q4) (q5 := nI 2) (q6 := q5) (q7 := q6) (z4 := z4) (z5 := z5) (z6 := z6) (z7 := z7) (bad := bad) ht hk hx hn2
            cases er : rdNm (tkT n x).tkd (SNm n x) (nm + 2) FU 0 with
            | inl j =>
              rw [er] at hnr
              obtain ⟨hj, hX⟩ := hnr
              refine ⟨hj, nI j, nI 2, 0, nI fs.length + 1, N1, b1, N2', b2', 0, 0, ?_, hv1.clear, hv2'.clear, ArG.rfl h0 h1 hN2'⟩
              rw [hX]; rfl
            | inr j =>
              rw [er] at hnr
              obtain ⟨hj, hX⟩ := hnr
              rw [hX, Option.bind_some]
              dsimp only
              rw [if_neg (show ¬ (1 : Int32) = 0 by decide)]
              exact Mo_f243 hk h0 h1 hN2' hv1 hv2' hj _
        · rw [if_neg c50, if_pos c50]
          exact ⟨hn1, nI (nm + 1), nI 1, 0, nI fs.length + 1, N1, b1, N2', b2', 0, 0, rfl, hv1.clear, hv2'.clear, ArG.rfl h0 h1 hN2'⟩
      refine FnR.pre (ArG.of2 g2 h0 h1 hN2') (fun R c2 s2 h => bw_ok e ?_) main
      exact h
  · rw [if_neg c2, if_pos c2]
    exact ⟨hnm, nI nm, nI 1, 0, nI fs.length, N1, b1, N2, b2, 0, 0, rfl, hv1.clear, hv2.clear, ArG.rfl h0 h1 h2⟩
end Fn
end
