section
/-- the reference's reading of a plain statement without its end -/
def rdWk (K : Nat → Nat) (i lv : Nat) : Sum Nat (Nat × Nat) := match rdE K i lv with
  | .inl j => .inl j
  | .inr (j, _) => if K j = 56 then (if isTg K i j = true then rdE K (j + 1) lv else .inl j) else .inr (j, lv)
/-- what follows the targets whose bracket closes at c, without its end -/
def rdTg (K : Nat → Nat) (c lv : Nat) : Sum Nat (Nat × Nat) :=
  if K (c + 2) ≠ 2 then .inl (c + 2)
  else if K (c + 3) ≠ 50 then .inl (c + 3)
  else if K (c + 4) = 51 then .inr (c + 5, lv)
  else match rdSev K FU 0 (c + 4) (lv + 1) with
    | .inl j => .inl j
    | .inr (j, _) => if K j = 51 then .inr (j + 1, lv) else .inl j
/-- a statement's end behind what has been read -/
def stEd (K : Nat → Nat) (bl fs : List Nat) : Sum Nat (Nat × Nat) → Sum Nat (Nat × List Nat × List Nat)
  | .inl j => .inl j
  | .inr (j, _) => if K j = 55 then .inr (j + 1, bl, fs) else .inl j
theorem stWork_ed {K : Nat → Nat} {i : Nat} {bl fs : List Nat} : stWork K i bl fs = stEd K bl fs (rdWk K i bl.length) := by
  unfold stWork rdWk
  cases rdE K i bl.length with
  | inl j => rfl
  | inr q =>
    obtain ⟨j, lv⟩ := q
    show stWk K i j bl fs = stEd K bl fs (if K j = 56 then (if isTg K i j = true then rdE K (j + 1) bl.length else .inl j) else .inr (j, bl.length))
    unfold stWk
    by_cases c : K j = 56
    · rw [if_pos c, if_pos c]
      by_cases d : isTg K i j = true
      · rw [if_pos d, if_pos d]
        cases rdE K (j + 1) bl.length with
        | inl k => rfl
        | inr q => rfl
      · rw [if_neg d, if_neg d]; rfl
    · rw [if_neg c, if_neg c]; rfl
theorem stTgt_ed {K : Nat → Nat} {c : Nat} {bl fs : List Nat} : stTgt K c bl fs = stEd K bl fs (rdTg K c bl.length) := by
  unfold stTgt rdTg
  by_cases c2 : K (c + 2) ≠ 2
  · rw [if_pos c2, if_pos c2]; rfl
  · rw [if_neg c2, if_neg c2]
    by_cases c3 : K (c + 3) ≠ 50
    · rw [if_pos c3, if_pos c3]; rfl
    · rw [if_neg c3, if_neg c3]
      by_cases c4 : K (c + 4) = 51
      · rw [if_pos c4, if_pos c4]; rfl
      · rw [if_neg c4, if_neg c4]
        cases rdSev K FU 0 (c + 4) (bl.length + 1) with
        | inl j => rfl
        | inr q =>
          obtain ⟨j, lv⟩ := q
          show (if K j = 51 then (if K (j + 1) = 55 then .inr (j + 2, bl, fs) else .inl (j + 1)) else .inl j : Sum Nat (Nat × List Nat × List Nat)) = stEd K bl fs (if K j = 51 then .inr (j + 1, bl.length) else .inl j)
          by_cases d : K j = 51
          · rw [if_pos d, if_pos d]; rfl
          · rw [if_neg d, if_neg d]; rfl
/-- between a bracket of targets and its = there is no other -/
theorem tE_no {K : Nat → Nat} : ∀ (fu n k : Nat), match tE K fu n k with | .inl _ => True | .inr c => k ≤ c ∧ K c = 53 ∧ K (c + 1) = 56 ∧ ∀ j, k ≤ j → j ≤ c → K j ≠ 56
  | 0, _, _ => trivial
  | fu + 1, n, k => by
    rw [tE]
    by_cases a : K k ≠ 2 ∧ K k ≠ 49
    · rw [if_pos a]; trivial
    · rw [if_neg a]
      by_cases b : K (k + 1) = 53
      · rw [if_pos b]
        by_cases c : K (k + 2) = 56
        · rw [if_pos c]
          refine ⟨by omega, b, c, fun j h1 h2 => ?_⟩
          rcases Nat.lt_or_ge k j with h | h
          · rw [show j = k + 1 by omega]; omega
          · rw [show j = k by omega]; omega
        · rw [if_neg c]; trivial
      · rw [if_neg b]
        by_cases c : K (k + 1) = 54
        · rw [if_pos c]
          by_cases d : n = 8
          · rw [if_pos d]; trivial
          · rw [if_neg d]
            have ih := tE_no (K := K) fu (n + 1) (k + 2)
            cases e : tE K fu (n + 1) (k + 2) with
            | inl _ => trivial
            | inr c2 =>
              rw [e] at ih
              obtain ⟨i1, i2, i3, i4⟩ := ih
              refine ⟨by omega, i2, i3, fun j h1 h2 => ?_⟩
              by_cases h3 : k + 2 ≤ j
              · exact i4 j h3 h2
              · rcases Nat.lt_or_ge k j with h | h
                · rw [show j = k + 1 by omega]; omega
                · rw [show j = k by omega]; omega
        · rw [if_neg c]; trivial
/-- as Mx.End, whatever the length of the list of what is open -/
def MoE (m N0 : Nat) (bad : Int32) (X : Option ((Int32 × Int32 × Int32 × Int32 × Int32 × Nat × (Nat → Int32)) × Nat × Nat)) : Sum Nat (Nat × Nat) → Prop
  | .inl j => j < m ∧ ∃ lv' sz' N' b' c s, X = some ((0, nI j, nI j, lv', sz', N', b'), c, s) ∧ OpIs N0 N' b' [] c s
  | .inr (i, lv) => i < m ∧ lv ≤ 60 ∧ ∃ sz' N' b' c s, X = some ((1, nI i, bad, nI lv, sz', N', b'), c, s) ∧ OpIs N0 N' b' [] c s
theorem Mx.End.z {m N0 : Nat} {bad : Int32} {X : Option ((Int32 × Int32 × Int32 × Int32 × Int32 × Nat × (Nat → Int32)) × Nat × Nat)} : ∀ {o : Sum Nat (Nat × Nat)}, Mx.End m N0 bad X o → MoE m N0 bad X o
  | .inl _, h => h
  | .inr (_, _), ⟨h1, h2, N', b', c, s, h3⟩ => ⟨h1, h2, 0, N', b', c, s, h3⟩
section Md
variable {T : Tks} {m N5 : Nat} {a5 : Nat → Int32}
variable {n2 : Nat} {b2 : Nat → Int32}
variable {q1 q2 q3 q4 q5 q6 q7 q8 q9 : Int32}
theorem Mo_wk (hT : TkOK T m) (hk : KdIs m N5 a5 T.tkd) (hr : RkIs n2 b2) {N i lv : Nat} {b : Nat → Int32} {l : List Int32} {bad sz : Int32} (hv : Vec N b l) (hN : N ≤ 600) (hi : i < m) (hlv : lv ≤ 60) :
    Mx.End m N bad (F_Mo_readWorking q1 q2 q3 q4 (nI i) bad (nI lv) q5 q6 sz q7 N5 a5 N b n2 b2) (rdWk T.tkd i lv) := by
  have h1 := Mo_rdE hT hk hr (q1 := q1) (q2 := q2) (q3 := q3) (q4 := q4) (q5 := q5) (q6 := q6) (q7 := q7) (bad := bad) (sz := sz) hv hN hi hlv
  have h2 := rdE_fact hT hi hlv
  unfold F_Mo_readWorking rdWk
  cases e : rdE T.tkd i lv with
  | inl j =>
    rw [e] at h1
    obtain ⟨hj, lv', sz', N', b', c', s, eX, hO⟩ := h1
    exact ⟨hj, lv', sz', N', b', c', s, bw_ok (c' := 0) (s' := 0) eX rfl, hO⟩
  | inr q =>
    obtain ⟨j, lv2⟩ := q
    obtain ⟨t, ρ, hvv⟩ := rdE_vv hT hi hlv e
    rw [e] at h1 h2
    obtain ⟨hij, _, h2⟩ := h2
    subst h2
    obtain ⟨hj, hlv2, N1, b1, c1, s1, eX, hO⟩ := h1
    have e56 : (a5 (Int32.toNatClampNeg (nI j)) = 56) = (T.tkd j = 56) := Mo_kd hk hj (p := 56) (by omega)
    show Mx.End m N bad _ (if T.tkd j = 56 then (if isTg T.tkd i j = true then rdE T.tkd (j + 1) lv2 else .inl j) else .inr (j, lv2))
    by_cases c : T.tkd j = 56
    · rw [if_pos c]
      have hj1 : j + 1 < m := hk.go hj (by omega)
      by_cases d : isTg T.tkd i j = true
      · rw [if_pos d]
        have h3 := Mo_rdE hT hk hr (q1 := q1) (q2 := q2) (q3 := q3) (q4 := q4) (q5 := q5) (q6 := q6) (q7 := q7) (bad := bad) (sz := 0) (lv := lv2) hO.vec hO.le hj1 hlv
        refine Mx.End_pre hO.grow (fun R c2 s2 h => bw_ok eX ?_) _ h3
        show (if (1 : Int32) = 0 then _ else _) = _
        rw [if_neg (by decide), Mo_kind hk hj, Option.bind_some, if_pos (e56.mpr c), Mo_tg hT hk hvv hj, Option.bind_some, if_pos d, if_neg (show ¬ (1 : Int32) = 0 by decide), show nI j + 1 = nI (j + 1) from nI_add' j 1]
        obtain ⟨r1, r2, r3, r4, r5, r6, r7⟩ := R
        exact bw_ok (c' := 0) (s' := 0) h rfl
      · rw [if_neg d]
        refine ⟨hj, nI lv2, 0, N1, b1, c1, s1, bw_ok (c' := 0) (s' := 0) eX ?_, hO⟩
        show (if (1 : Int32) = 0 then _ else _) = _
        rw [if_neg (by decide), Mo_kind hk hj, Option.bind_some, if_pos (e56.mpr c), Mo_tg hT hk hvv hj, Option.bind_some, if_neg d, if_pos (show (0 : Int32) = 0 from rfl)]
    · rw [if_neg c]
      refine ⟨hj, hlv, N1, b1, c1, s1, bw_ok (c' := 0) (s' := 0) eX ?_, hO⟩
      show (if (1 : Int32) = 0 then _ else _) = _
      rw [if_neg (by decide), Mo_kind hk hj, Option.bind_some, if_neg (fun h => c (e56.mp h))]
theorem Mo_tgt (hT : TkOK T m) (hk : KdIs m N5 a5 T.tkd) (hr : RkIs n2 b2) {N i lv c : Nat} {b : Nat → Int32} {l : List Int32} {bad sz : Int32} (hv : Vec N b l) (hN : N ≤ 600) (hlv : lv < 60) (hc : c + 2 < m) (h56 : T.tkd (c + 1) = 56) (hno : ∀ j, i ≤ j → j ≤ c → T.tkd j ≠ 56) (hic : i ≤ c) :
    MoE m N bad (F_Mo_readTargets q1 q2 q3 q4 (nI i) bad (nI lv) q5 q6 q7 N5 a5 sz N b n2 b2) (rdTg T.tkd c lv) := by
  have hm := hT.le
  have hO0 : OpIs N N b [] 0 0 := ⟨hv.clear, Grow.rfl, hN⟩
  have key : ∀ (fu k : Nat), c + 1 - k < fu → i ≤ k → k ≤ c + 1 → MoE m N bad (F_Mo_readTargets_0 q1 q2 q3 q4 bad (nI lv) q5 q6 q7 N5 a5 sz N b n2 b2 fu (nI k)) (rdTg T.tkd c lv) := by
    intro fu
    induction fu with
    | zero => intro k h; omega
    | succ fu ih =>
      intro k h1 h2 h3
      have hkm : k < m := by omega
      have e56 : (a5 (Int32.toNatClampNeg (nI k)) = 56) = (T.tkd k = 56) := Mo_kd hk hkm (p := 56) (by omega)
      rw [F_Mo_readTargets_0, Mo_kind hk hkm, Option.bind_some]
      by_cases g : k = c + 1
      · subst g
        rw [if_pos (e56.mpr h56), show nI (c + 1) + 1 = nI (c + 2) from nI_add' (c + 1) 1, show (2 : Int32) = nI 2 from rfl, Mo_take hk hc (by omega)]
        unfold rdTg
        by_cases c2 : T.tkd (c + 2) = 2
        · rw [if_pos c2, if_neg (fun x => x c2), Option.bind_some]
          dsimp only
          have hc3 : c + 3 < m := hk.go hc (by omega)
          rw [if_neg (show ¬ (1 : Int32) = 0 by decide), show nI (c + 2 + 1) = nI (c + 3) from rfl, show (50 : Int32) = nI 50 from rfl, Mo_enter hk hc3 (by omega) (by omega)]
          by_cases c3 : T.tkd (c + 3) = 50
          · rw [if_pos c3, if_neg (show ¬ lv = 60 by omega), if_neg (fun x => x c3), Option.bind_some]
            dsimp only
            have hc4 : c + 4 < m := hk.go hc3 (by omega)
            have e51 : (a5 (Int32.toNatClampNeg (nI (c + 4))) = 51) = (T.tkd (c + 4) = 51) := Mo_kd hk hc4 (p := 51) (by omega)
            rw [if_neg (show ¬ (1 : Int32) = 0 by decide), show nI (c + 3 + 1) = nI (c + 4) from rfl, Mo_kind hk hc4, Option.bind_some]
            by_cases c4 : T.tkd (c + 4) = 51
            · have hc5 : c + 5 < m := hk.go hc4 (by omega)
              rw [if_pos (e51.mpr c4), if_pos c4, show (51 : Int32) = nI 51 from rfl, Mo_leave hk hc4 (by omega), if_pos c4]
              refine ⟨hc5, by omega, sz, N, b, 0, 0, ?_, hO0⟩
              show some ((1, nI (c + 4 + 1), bad, nI (lv + 1) - 1, sz, N, b), 0, 0) = _
              rw [nI_p1]
            · rw [if_neg (fun x => c4 (e51.mp x)), if_neg c4]
              have h4 := Mo_sev hT hk hr (q1 := q1) (q2 := q2) (q3 := q3) (q4 := q4) (q5 := q5) (q6 := q6) (q7 := q7) (bad := bad) (sz := sz) (lv := lv + 1) hv hN hc4 (by omega)
              have h5 := rdSev_fact hT (lv := lv + 1) (by omega) FU 0 (c + 4) hc4
              cases e : rdSev T.tkd FU 0 (c + 4) (lv + 1) with
              | inl j =>
                rw [e] at h4
                obtain ⟨hj, lv', sz', N', b', c', s, eX, hO⟩ := h4
                exact ⟨hj, lv', sz', N', b', c', s, bw_ok (c' := 0) (s' := 0) eX rfl, hO⟩
              | inr q =>
                obtain ⟨j, lv2⟩ := q
                rw [e] at h4 h5
                obtain ⟨_, _, h5⟩ := h5
                subst h5
                obtain ⟨hj, hlv2, N1, b1, c1, s1, eX, hO⟩ := h4
                show MoE m N bad _ (if T.tkd j = 51 then .inr (j + 1, lv) else .inl j)
                by_cases g : T.tkd j = 51
                · rw [if_pos g]
                  refine ⟨hk.go hj (by omega), by omega, 0, N1, b1, c1, s1, bw_ok (c' := 0) (s' := 0) eX ?_, hO⟩
                  show (if (1 : Int32) = 0 then _ else _) = _
                  rw [if_neg (by decide), show (51 : Int32) = nI 51 from rfl, Mo_leave hk hj (by omega), if_pos g]
                  show some ((1, nI (j + 1), bad, nI (lv + 1) - 1, 0, N1, b1), 0, 0) = _
                  rw [nI_p1]
                · rw [if_neg g]
                  refine ⟨hj, nI (lv + 1) - 1, 0, N1, b1, c1, s1, bw_ok (c' := 0) (s' := 0) eX ?_, hO⟩
                  show (if (1 : Int32) = 0 then _ else _) = _
                  rw [if_neg (by decide), show (51 : Int32) = nI 51 from rfl, Mo_leave hk hj (by omega), if_neg g]
                  rfl
          · rw [if_neg c3, if_pos c3]
            exact ⟨hc3, nI lv, sz, N, b, 0, 0, rfl, hO0⟩
        · rw [if_neg c2, if_pos c2]
          exact ⟨hc, nI lv, sz, N, b, 0, 0, rfl, hO0⟩
      · rw [if_neg (fun h => hno k h2 (by omega) (e56.mp h)), show nI k + 1 = nI (k + 1) from nI_add' k 1]
        exact ih (k + 1) (by omega) (by omega) (by omega)
  unfold F_Mo_readTargets
  exact key FU i (by unfold FU; omega) (Nat.le_refl _) (by omega)
end Md
end
