section
section Fn
variable {n : Nat} {x : Nat → Nat} {N5 N6 N7 N4 : Nat} {a5 a6 a7 a4 : Nat → Int32}
variable {q1 q2 q3 q4 q5 q6 q7 q8 q9 z4 z5 z6 z7 : Int32}
theorem Mo_fn (ht : TextIs n x) (hk : KdIs (cutE n x).length N5 a5 (tkT n x).tkd) (hx : TxA n x N6 a6 N7 a7 N4 a4) {N0 N1 N2 i : Nat} {b1 b2 : Nat → Int32} {bad : Int32} {bl fs : List Nat} (h0 : N0 ≤ 600) (h1 : N1 ≤ 600) (h2 : N2 ≤ 65536) (hv1 : BlV N1 b1 bl) (hv2 : Vec N2 b2 (fs.map nI)) (hfs : ∀ q ∈ fs, q < (cutE n x).length ∧ (tkT n x).tkd q = 2) (hfl : fs.length < 16385) (hi : i < (cutE n x).length) (h19 : (tkT n x).tkd i = 19) :
    FnR (cutE n x).length N0 N1 N2 bad (F_Mo_readFunction q1 q2 q3 q4 (nI i) bad (nI bl.length) q5 q6 (nI bl.length) z5 N5 a5 z7 N7 a7 z6 N6 a6 z4 N4 a4 (nI fs.length) N2 b2 N1 b1) (stFun (tkT n x).tkd (SNm n x) i bl fs) := by
  have hm := (tkOK ht).le
  have hle := hv1.le
  have hro := hv1.room
  rw [List.length_map, List.length_reverse] at hle
  unfold F_Mo_readFunction stFun
  match bl, hv1, hle with
  | k :: s, hv1, hle =>
    rw [List.length_cons] at hle ⊢
    rw [if_pos (show (0 : Int32) < nI (s.length + 1) by rw [show (0 : Int32) = nI 0 from rfl, nI_lt' (by omega) (by omega)]; omega), if_pos (List.cons_ne_nil _ _)]
    exact ⟨hi, nI i, nI (s.length + 1), nI (s.length + 1), nI fs.length, N1, b1, N2, b2, 0, 0, rfl, hv1.clear, hv2.clear, ArG.rfl h0 h1 h2⟩
  | [], hv1, hle =>
    have hi1 : i + 1 < (cutE n x).length := hk.go hi (by omega)
    have e52 : (a5 (Int32.toNatClampNeg (nI (i + 1))) = 52) = ((tkT n x).tkd (i + 1) = 52) := Mo_kd hk hi1 (p := 52) (by omega)
    have e2 : (a5 (Int32.toNatClampNeg (nI (i + 1))) = 2) = ((tkT n x).tkd (i + 1) = 2) := Mo_kd hk hi1 (p := 2) (by omega)
    rw [List.length_nil, if_neg (show ¬ (0 : Int32) < nI 0 by decide), if_neg (fun y => y rfl), show (19 : Int32) = nI 19 from rfl, Mo_enter hk hi (by omega) (by omega), if_pos h19, if_neg (show ¬ 0 = 60 by omega), Option.bind_some]
    dsimp only
    rw [if_neg (show ¬ (1 : Int32) = 0 by decide), Mo_kind hk hi1, Option.bind_some]
    simp only [e52]
    by_cases c52 : (tkT n x).tkd (i + 1) = 52
    · rw [if_pos c52, if_pos c52]
      unfold F_Mo_readFunction_38
      have hi2 : i + 2 < (cutE n x).length := hk.go hi1 (by omega)
      rw [if_neg (show ¬ (1 : Int32) = 0 by decide), show (52 : Int32) = nI 52 from rfl, Mo_enter hk hi1 (by omega) (by omega), if_pos c52, if_neg (show ¬ 0 + 1 = 60 by omega), Option.bind_some]
      dsimp only
      rw [if_neg (show ¬ (1 : Int32) = 0 by decide), show nI (i + 1 + 1) = nI (i + 2) from rfl]
      have hnr := Mo_nms (q1 := q1) (q2 := q2) (q3 := q3) (q4 := q4) (q5 := nI (0 + 1 + 1)) (q6 := q5) (q7 := q6) (z4 := z4) (z5 := z5) (z6 := z6) (z7 := z7) (bad := bad) ht hk hx hi2
      cases er : rdNm (tkT n x).tkd (SNm n x) (i + 2) FU 0 with
      | inl j =>
        rw [er] at hnr
        obtain ⟨hj, hX⟩ := hnr
        refine ⟨hj, nI j, nI (0 + 1 + 1), nI 0, nI fs.length, N1, b1, N2, b2, 0, 0, ?_, hv1.clear, hv2.clear, ArG.rfl h0 h1 h2⟩
        rw [hX]; rfl
      | inr j =>
        rw [er] at hnr
        obtain ⟨hj, hX⟩ := hnr
        show FnR _ _ _ _ _ _ (if (tkT n x).tkd j ≠ 53 then .inl j else if (tkT n x).tkd (j + 1) ≠ 56 then .inl (j + 1) else stFb (tkT n x).tkd (SNm n x) fs true (j + 2))
        rw [hX, Option.bind_some]
        dsimp only
        rw [if_neg (show ¬ (1 : Int32) = 0 by decide), show (53 : Int32) = nI 53 from rfl, Mo_leave hk hj (by omega), show nI (0 + 1 + 1) - 1 = nI 1 from rfl]
        by_cases c53 : (tkT n x).tkd j = 53
        · have hj1 : j + 1 < (cutE n x).length := hk.go hj (by omega)
          rw [if_pos c53, if_neg (show ¬ (tkT n x).tkd j ≠ 53 from fun y => y c53), Option.bind_some]
          dsimp only
          rw [if_neg (show ¬ (1 : Int32) = 0 by decide), show (56 : Int32) = nI 56 from rfl, Mo_take hk hj1 (by omega)]
          by_cases c56 : (tkT n x).tkd (j + 1) = 56
          · rw [if_pos c56, if_neg (show ¬ (tkT n x).tkd (j + 1) ≠ 56 from fun y => y c56), Option.bind_some]
            dsimp only
            rw [if_neg (show ¬ (1 : Int32) = 0 by decide)]
            unfold F_Mo_readFunction_79
            rw [if_neg (show ¬ (1 : Int32) = 0 by decide)]
            exact Mo_f119 ht hk hx h0 h1 h2 hv1 hv2 hfs hfl (hk.go hj1 (by omega)) (by omega) 1 rfl
          · rw [if_neg c56, if_pos c56]
            exact ⟨hj1, nI (j + 1), nI 1, nI 0, nI fs.length, N1, b1, N2, b2, 0, 0, rfl, hv1.clear, hv2.clear, ArG.rfl h0 h1 h2⟩
        · rw [if_neg c53, if_pos c53]
          exact ⟨hj, nI j, nI 1, nI 0, nI fs.length, N1, b1, N2, b2, 0, 0, rfl, hv1.clear, hv2.clear, ArG.rfl h0 h1 h2⟩
    · rw [if_neg c52, if_neg c52]
      unfold F_Mo_readFunction_38
      rw [if_pos (show (0 : Int32) = 0 from rfl)]
      unfold F_Mo_readFunction_79
      rw [if_pos (show (0 : Int32) = 0 from rfl), Mo_kind hk hi1, Option.bind_some]
      simp only [e2]
      by_cases c2 : (tkT n x).tkd (i + 1) = 2
      · have hi2 : i + 1 + 1 < (cutE n x).length := hk.go hi1 (by omega)
        have e56 : (a5 (Int32.toNatClampNeg (nI (i + 1 + 1))) = 56) = ((tkT n x).tkd (i + 1 + 1) = 56) := Mo_kd hk hi2 (p := 56) (by omega)
        rw [if_pos c2, show nI (i + 1) + 1 = nI (i + 1 + 1) from nI_add' _ 1, Mo_at hk hi2, Option.bind_some]
        simp only [e56]
        by_cases c56 : (tkT n x).tkd (i + 2) = 56
        · rw [if_pos c56, if_pos (show (tkT n x).tkd (i + 1) = 2 ∧ (tkT n x).tkd (i + 2) = 56 from ⟨c2, c56⟩), show nI (i + 1) + 2 = nI (i + 3) from nI_add' _ 2]
          exact Mo_f119 ht hk hx h0 h1 h2 hv1 hv2 hfs hfl (hk.go hi2 (by rw [c56]; omega)) (by omega) 0 rfl
        · rw [if_neg c56, if_neg (show ¬ ((tkT n x).tkd (i + 1) = 2 ∧ (tkT n x).tkd (i + 2) = 56) from fun y => c56 y.2)]
          exact Mo_f119 ht hk hx h0 h1 h2 hv1 hv2 hfs hfl hi1 (by omega) 0 rfl
      · rw [if_neg c2, if_neg (show ¬ ((tkT n x).tkd (i + 1) = 2 ∧ (tkT n x).tkd (i + 2) = 56) from fun y => c2 y.1)]
        exact Mo_f119 ht hk hx h0 h1 h2 hv1 hv2 hfs hfl hi1 (by omega) 0 rfl
end Fn
abbrev StT : Type := Int32 × Int32 × Int32 × Int32 × Int32 × Int32 × Int32 × Int32 × Nat × (Nat → Int32) × Nat × (Nat → Int32) × Nat × (Nat → Int32)
/-- what the reference's reading of a statement says -/
def StM (m N0 N1 N2 : Nat) (bad : Int32) (X : Option (StT × Nat × Nat)) : Sum Nat (Nat × List Nat × List Nat) → Prop
  | .inl j => ∃ at' bd lv le z0 z1 z2 N0' b0 N1' b1 N2' b2 c s, X = some ((0, at', nI bd, lv, nI le, z0, z1, z2, N0', b0, N1', b1, N2', b2), c, s) ∧ max bd le = j ∧ bd < m ∧ le < m ∧ Vec N0' b0 [] ∧ Vec N1' b1 [] ∧ Vec N2' b2 [] ∧ ArG N0 N1 N2 N0' N1' N2' c s
  | .inr (i, bl, fs) => i < m ∧ ∃ le z0 N0' b0 N1' b1 N2' b2 c s, X = some ((1, nI i, bad, nI bl.length, nI le, z0, nI bl.length, nI fs.length, N0', b0, N1', b1, N2', b2), c, s) ∧ le ≤ i ∧ Vec N0' b0 [] ∧ BlV N1' b1 bl ∧ Vec N2' b2 (fs.map nI) ∧ ArG N0 N1 N2 N0' N1' N2' c s
section St
variable {m N0 N1 N2 : Nat} {b0 b1 b2 : Nat → Int32} {l0 l1 l2 : List Int32} {bad : Int32}
/-- a fault at once -/
theorem StM.no {j le : Nat} {at' lv z0 z1 z2 : Int32} (h0 : N0 ≤ 600) (h1 : N1 ≤ 600) (h2 : N2 ≤ 65536) (v0 : Vec N0 b0 l0) (v1 : Vec N1 b1 l1) (v2 : Vec N2 b2 l2) (hj : j < m) (hle : le ≤ j) : StM m N0 N1 N2 bad (some ((0, at', nI j, lv, nI le, z0, z1, z2, N0, b0, N1, b1, N2, b2), 0, 0)) (.inl j) :=
  ⟨at', j, lv, le, z0, z1, z2, N0, b0, N1, b1, N2, b2, 0, 0, rfl, Nat.max_eq_left hle, hj, by omega, v0.clear, v1.clear, v2.clear, ArG.rfl h0 h1 h2⟩
end St
end
