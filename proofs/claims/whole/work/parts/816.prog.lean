section
/-- the reference's reading of a statement -/
def stAny (K : Nat → Nat) (SN : Nat → Nat → Bool) (i : Nat) (bl fs : List Nat) : Sum Nat (Nat × List Nat × List Nat) :=
  if K i = 19 then stFun K SN i bl fs
  else if K i = 10 ∨ K i = 14 then stIf K i bl fs
  else if K i = 15 then stFor K i bl fs
  else if K i = 22 then stTry i bl fs
  else if K i = 11 then stElif K i bl fs
  else if K i = 12 then stElse i 10 12 bl fs
  else if K i = 23 then stElse i 22 23 bl fs
  else if K i = 13 then stEnd i bl fs
  else if K i = 16 ∨ K i = 17 ∨ K i = 18 then (if (K i = 16 ∨ K i = 17) ∧ lpN bl = 0 then .inl i else if K (i + 1) = 55 then .inr (i + 2, bl, fs) else .inl (i + 1))
  else if K i = 20 ∨ K i = 21 then stVals K i bl fs
  else if K i = 52 then stRows K i bl fs
  else stWork K i bl fs
/-- the reference's reading of a program -/
def rdP (K : Nat → Nat) (SN : Nat → Nat → Bool) : Nat → Nat → List Nat → List Nat → Sum Nat Nat
  | 0, _, _, _ => .inl 0
  | fu + 1, i, bl, fs => if K i = 0 then (if bl = [] then .inr i else .inl i) else match stAny K SN i bl fs with
    | .inl j => .inl j
    | .inr (i', bl', fs') => rdP K SN fu i' bl' fs'
section Stm
variable {T : Tks} {sm : Int32 → Int32 → Int32 → Bool} {m : Nat}
theorem stm_any (hT : TkOK T m) {i : Nat} {bl fs : List Nat} {s : Rs} (hR : SR T m i bl fs s) (h0 : T.tkd i ≠ 0) : StR T sm m i s (stAny T.tkd (sameT T sm) i bl fs) := by
  unfold stAny
  by_cases c1 : T.tkd i = 19
  · rw [if_pos c1]; exact stm_fun hT hR c1
  rw [if_neg c1]
  by_cases c2 : T.tkd i = 10 ∨ T.tkd i = 14
  · rw [if_pos c2]; exact stm_if hT hR c2
  rw [if_neg c2]
  by_cases c3 : T.tkd i = 15
  · rw [if_pos c3]; exact stm_for hT hR c3
  rw [if_neg c3]
  by_cases c4 : T.tkd i = 22
  · rw [if_pos c4]; exact stm_try hT hR c4
  rw [if_neg c4]
  by_cases c5 : T.tkd i = 11
  · rw [if_pos c5]; exact stm_elif hT hR c5
  rw [if_neg c5]
  by_cases c6 : T.tkd i = 12
  · rw [if_pos c6]; exact stm_else hT hR c6
  rw [if_neg c6]
  by_cases c7 : T.tkd i = 23
  · rw [if_pos c7]; exact stm_catch hT hR c7
  rw [if_neg c7]
  by_cases c8 : T.tkd i = 13
  · rw [if_pos c8]; exact stm_end hT hR c8
  rw [if_neg c8]
  by_cases c9 : T.tkd i = 16 ∨ T.tkd i = 17 ∨ T.tkd i = 18
  · rw [if_pos c9]; exact stm_word hT hR c9
  rw [if_neg c9]
  by_cases c10 : T.tkd i = 20 ∨ T.tkd i = 21
  · rw [if_pos c10]; exact stm_vals hT hR c10
  rw [if_neg c10]
  by_cases c11 : T.tkd i = 52
  · rw [if_pos c11]; exact stm_rows hT hR c11
  rw [if_neg c11]
  exact stm_work hT hR (fun x => by unfold wordK at x; omega) c11 h0
/-- what the reading of an expression leaves -/
theorem rdE_fact (hT : TkOK T m) {i lv : Nat} (hi : i < m) (hlv : lv ≤ 60) : match rdE T.tkd i lv with | .inl j => j < m | .inr (j, lv') => i ≤ j ∧ j < m ∧ lv' = lv := by
  have hle := hT.le
  have hI : Mx.MI m T.tkd 1 0 0 0 i lv [] := ⟨hi, by omega, fun h => absurd h (by decide), by omega, by omega, hlv, by show 0 + 0 + 0 ≤ lv; omega, fun e he => absurd he List.not_mem_nil⟩
  have h1 := RErun hT.kd (n2 := 27) (b2 := fun i => nI (rkL.getD i 0)) ⟨rfl, fun _ _ => rfl⟩ (q1 := 0) (q2 := 0) (q3 := 0) (q4 := 0) (q5 := 0) (q6 := 0) (q7 := 0) (bad := 0) FU (N := 600) (b := fun _ => 0) hI (Vec.nil (by omega) (by omega)) (Nat.le_refl _) (by unfold FU; omega)
  have h2 := Mx.lo_run (K := T.tkd) (lv0 := lv) FU (1, 0, 0, 0, i, lv, []) ⟨by show lv = lv + 0 + 0 + 0; omega, fun h => absurd h (by decide)⟩
  unfold rdE
  cases e : Mx.run T.tkd FU (1, 0, 0, 0, i, lv, []) with
  | inl j => rw [e] at h1; exact h1.1
  | inr q =>
    obtain ⟨j, lv'⟩ := q
    rw [e] at h1 h2
    have h3 : i ≤ j := run_ge (fu := FU) hT (mx := (1, 0, 0, 0, i, lv, [])) hI e
    exact ⟨h3, h1.1, h2⟩
theorem rdSev_fact (hT : TkOK T m) {lv : Nat} (hlv : lv ≤ 60) : ∀ (fu n i : Nat), i < m → match rdSev T.tkd fu n i lv with | .inl j => j < m | .inr (j, lv') => i ≤ j ∧ j < m ∧ lv' = lv
  | 0, n, i, hi => by show 0 < m; omega
  | fu + 1, n, i, hi => by
    have h1 := rdE_fact hT hi hlv
    rw [rdSev]
    cases e : rdE T.tkd i lv with
    | inl j => rw [e] at h1; exact h1
    | inr q =>
      obtain ⟨j, lv'⟩ := q
      rw [e] at h1
      obtain ⟨h2, h3, h4⟩ := h1
      subst h4
      show match (if T.tkd j = 54 then (if n + 1 = 8 then .inl j else rdSev T.tkd fu (n + 1) (j + 1) lv') else .inr (j, lv') : Sum Nat (Nat × Nat)) with | .inl j => j < m | .inr (j, lv2) => i ≤ j ∧ j < m ∧ lv2 = lv'
      by_cases c : T.tkd j = 54
      · rw [if_pos c]
        by_cases d : n + 1 = 8
        · rw [if_pos d]; exact h3
        · rw [if_neg d]
          have h5 := rdSev_fact hT hlv fu (n + 1) (j + 1) (hT.go h3 (by omega))
          cases e2 : rdSev T.tkd fu (n + 1) (j + 1) lv' with
          | inl j2 => rw [e2] at h5; exact h5
          | inr q2 =>
            obtain ⟨j2, lv2⟩ := q2
            rw [e2] at h5
            exact ⟨by have := h5.1; omega, h5.2⟩
      · rw [if_neg c]; exact ⟨h2, h3, rfl⟩
theorem rdNm_ge {K : Nat → Nat} {SN : Nat → Nat → Bool} {a : Nat} : ∀ (fu n : Nat), match rdNm K SN a fu n with | .inl _ => True | .inr j => a ≤ j
  | 0, n => trivial
  | fu + 1, n => by
    rw [rdNm]
    by_cases c : K (a + 2 * n) = 2 ∧ ((List.range n).any fun k => SN (a + 2 * k) (a + 2 * n)) = false
    · rw [if_pos c]
      by_cases d : K (a + 2 * n + 1) = 54
      · rw [if_pos d]
        by_cases e : n = 7
        · rw [if_pos e]; trivial
        · rw [if_neg e]; exact rdNm_ge fu (n + 1)
      · rw [if_neg d]
        show a ≤ a + 2 * n + 1
        omega
    · rw [if_neg c]; trivial
theorem tE_lt (hT : TkOK T m) : ∀ (fu n k : Nat), k < m → match tE T.tkd fu n k with | .inl e => e < m | .inr c => c + 2 < m
  | 0, n, k, hk => hk
  | fu + 1, n, k, hk => by
    rw [tE]
    by_cases a : T.tkd k ≠ 2 ∧ T.tkd k ≠ 49
    · rw [if_pos a]; exact hk
    · rw [if_neg a]
      have h1 : k + 1 < m := hT.go hk (by omega)
      by_cases b : T.tkd (k + 1) = 53
      · rw [if_pos b]
        have h2 : k + 1 + 1 < m := hT.go h1 (by omega)
        by_cases c : T.tkd (k + 2) = 56
        · rw [if_pos c]; exact hT.go h2 (by rw [show k + 1 + 1 = k + 2 by omega, c]; omega)
        · rw [if_neg c]; exact h2
      · rw [if_neg b]
        by_cases c : T.tkd (k + 1) = 54
        · rw [if_pos c]
          by_cases d : n = 8
          · rw [if_pos d]; exact h1
          · rw [if_neg d]; exact tE_lt hT fu (n + 1) (k + 2) (hT.go h1 (by omega))
        · rw [if_neg c]; exact h1
def Gt (i : Nat) : Sum Nat (Nat × List Nat × List Nat) → Prop
  | .inl _ => True
  | .inr (i', _, _) => i < i'
theorem gt_ite {i : Nat} {p : Prop} [Decidable p] {x y : Sum Nat (Nat × List Nat × List Nat)} (h1 : p → Gt i x) (h2 : ¬ p → Gt i y) : Gt i (if p then x else y) := by
  by_cases c : p
  · rw [if_pos c]; exact h1 c
  · rw [if_neg c]; exact h2 c
theorem rdCond_gt (hT : TkOK T m) {i lv : Nat} (hi : i < m) (hlv : lv ≤ 60) : match rdCond T.tkd i lv with | .inl _ => True | .inr j => i < j := by
  unfold rdCond
  by_cases c : T.tkd i = 50 ∧ lv ≠ 60
  · rw [if_pos c]
    have h1 := rdE_fact hT (i := i + 1) (lv := lv + 1) (hT.go hi (by omega)) (by omega)
    cases e : rdE T.tkd (i + 1) (lv + 1) with
    | inl j => trivial
    | inr q =>
      obtain ⟨j, lv'⟩ := q
      rw [e] at h1
      show match (if T.tkd j = 51 then .inr (j + 1) else .inl j : Sum Nat Nat) with | .inl _ => True | .inr j => i < j
      by_cases d : T.tkd j = 51
      · rw [if_pos d]; show i < j + 1; have := h1.1; omega
      · rw [if_neg d]; trivial
  · rw [if_neg c]; trivial
theorem stFb_gt {K : Nat → Nat} {SN : Nat → Nat → Bool} {fs : List Nat} {res : Bool} {i nm : Nat} (h : i < nm) : Gt i (stFb K SN fs res nm) := by
  unfold stFb
  refine gt_ite (fun _ => trivial) fun _ => gt_ite (fun _ => gt_ite (fun _ => trivial) fun _ => trivial) fun _ => gt_ite (fun _ => trivial) fun _ => gt_ite (fun _ => by show i < nm + 3; omega) fun _ => ?_
  have h1 := rdNm_ge (K := K) (SN := SN) (a := nm + 2) FU 0
  cases e : rdNm K SN (nm + 2) FU 0 with
  | inl j => trivial
  | inr j =>
    rw [e] at h1
    have h1 : nm + 2 ≤ j := h1
    exact gt_ite (fun _ => by show i < j + 1; omega) fun _ => trivial
theorem stWork_gt (hT : TkOK T m) {i : Nat} {bl fs : List Nat} (hi : i < m) (hbl : bl.length ≤ 60) : Gt i (stWork T.tkd i bl fs) := by
  unfold stWork
  have h1 := rdE_fact hT hi hbl
  cases e : rdE T.tkd i bl.length with
  | inl j => trivial
  | inr q =>
    obtain ⟨j, lv'⟩ := q
    rw [e] at h1
    obtain ⟨h2, h3, _⟩ := h1
    show Gt i (stWk T.tkd i j bl fs)
    unfold stWk
    refine gt_ite (fun c56 => gt_ite (fun _ => ?_) fun _ => trivial) fun _ => gt_ite (fun _ => by show i < j + 1; omega) fun _ => trivial
    have h4 := rdE_fact hT (i := j + 1) (lv := bl.length) (hT.go h3 (by omega)) hbl
    cases e2 : rdE T.tkd (j + 1) bl.length with
    | inl k => trivial
    | inr q2 =>
      obtain ⟨k, lv2⟩ := q2
      rw [e2] at h4
      exact gt_ite (fun _ => by show i < k + 1; have := h4.1; omega) fun _ => trivial
theorem any_gt (hT : TkOK T m) {SN : Nat → Nat → Bool} {i : Nat} {bl fs : List Nat} (hi : i < m) (hbl : bl.length ≤ 60) : Gt i (stAny T.tkd SN i bl fs) := by
  unfold stAny
  have go1 : 1 < T.tkd i → i + 1 < m := fun h => hT.go hi h
  refine gt_ite (fun c => ?_) fun _ => gt_ite (fun c => ?_) fun _ => gt_ite (fun c => ?_) fun _ => gt_ite (fun c => ?_) fun _ => gt_ite (fun c => ?_) fun _ => gt_ite (fun c => ?_) fun _ => gt_ite (fun c => ?_) fun _ => gt_ite (fun c => ?_) fun _ => gt_ite (fun c => ?_) fun _ => gt_ite (fun c => ?_) fun _ => gt_ite (fun c => ?_) fun _ => ?_
  · unfold stFun
    refine gt_ite (fun _ => trivial) fun _ => gt_ite (fun _ => ?_) fun _ => gt_ite (fun _ => stFb_gt (by omega)) fun _ => stFb_gt (by omega)
    have h1 := rdNm_ge (K := T.tkd) (SN := SN) (a := i + 2) FU 0
    cases e : rdNm T.tkd SN (i + 2) FU 0 with
    | inl j => trivial
    | inr j =>
      rw [e] at h1
      have h1 : i + 2 ≤ j := h1
      exact gt_ite (fun _ => trivial) fun _ => gt_ite (fun _ => trivial) fun _ => stFb_gt (by omega)
  · unfold stIf
    refine gt_ite (fun _ => trivial) fun c60 => ?_
    have h1 := rdCond_gt hT (i := i + 1) (lv := bl.length + 1) (go1 (by omega)) (by omega)
    cases e : rdCond T.tkd (i + 1) (bl.length + 1) with
    | inl j => trivial
    | inr j => rw [e] at h1; show i < j; have h1 : i + 1 < j := h1; omega
  · unfold stFor
    refine gt_ite (fun _ => trivial) fun c60 => gt_ite (fun _ => trivial) fun c1 => gt_ite (fun _ => trivial) fun c2 => gt_ite (fun _ => trivial) fun c3 => ?_
    have c1' : T.tkd (i + 1) = 50 ∧ bl.length + 1 ≠ 60 := Decidable.of_not_not c1
    have c2' : T.tkd (i + 2) = 2 := Decidable.of_not_not c2
    have c3' : T.tkd (i + 3) = 56 := Decidable.of_not_not c3
    have g1 := go1 (by omega)
    have g2 := hT.go g1 (by omega)
    have g3 := hT.go g2 (by rw [show i + 1 + 1 = i + 2 by omega]; omega)
    have g4 := hT.go g3 (by rw [show i + 1 + 1 + 1 = i + 3 by omega]; omega)
    have h1 := rdE_fact hT (i := i + 4) (lv := bl.length + 2) (by omega) (by omega)
    cases e : rdE T.tkd (i + 4) (bl.length + 2) with
    | inl j => trivial
    | inr q =>
      obtain ⟨j, lv'⟩ := q
      rw [e] at h1
      exact gt_ite (fun _ => by show i < j + 1; have := h1.1; omega) fun _ => trivial
  · unfold stTry
    exact gt_ite (fun _ => trivial) fun _ => by show i < i + 1; omega
  · unfold stElif
    refine gt_ite (fun _ => ?_) fun _ => trivial
    have h1 := rdCond_gt hT (i := i + 1) (lv := bl.length) (go1 (by omega)) hbl
    cases e : rdCond T.tkd (i + 1) bl.length with
    | inl j => trivial
    | inr j => rw [e] at h1; show i < j; have h1 : i + 1 < j := h1; omega
  · unfold stElse
    exact gt_ite (fun _ => by show i < i + 1; omega) fun _ => trivial
  · unfold stElse
    exact gt_ite (fun _ => by show i < i + 1; omega) fun _ => trivial
  · unfold stEnd
    exact gt_ite (fun _ => trivial) fun _ => by show i < i + 1; omega
  · exact gt_ite (fun _ => trivial) fun _ => gt_ite (fun _ => by show i < i + 2; omega) fun _ => trivial
  · unfold stVals
    have h1 := rdSev_fact hT hbl FU 0 (i + 1) (go1 (by omega))
    cases e : rdSev T.tkd FU 0 (i + 1) bl.length with
    | inl j => trivial
    | inr q =>
      obtain ⟨j, lv'⟩ := q
      rw [e] at h1
      exact gt_ite (fun _ => by show i < j + 1; have := h1.1; omega) fun _ => trivial
  · unfold stRows
    refine gt_ite (fun _ => trivial) fun c60 => ?_
    have h0 := tE_ge (K := T.tkd) 9 1 (i + 1)
    cases e : tE T.tkd 9 1 (i + 1) with
    | inl e1 =>
      have h1 := stWork_gt hT (fs := fs) hi hbl
      show Gt i (match stWork T.tkd i bl fs with
        | .inl j => .inl (max j e1)
        | .inr x => .inr x)
      cases e2 : stWork T.tkd i bl fs with
      | inl j => trivial
      | inr x => rw [e2] at h1; exact h1
    | inr c0 =>
      rw [e] at h0
      have h0 : i + 1 ≤ c0 := h0
      show Gt i (stTgt T.tkd c0 bl fs)
      unfold stTgt
      refine gt_ite (fun _ => trivial) fun d1 => gt_ite (fun _ => trivial) fun d2 => gt_ite (fun _ => gt_ite (fun _ => by show i < c0 + 6; omega) fun _ => trivial) fun d3 => ?_
      have d1' : T.tkd (c0 + 2) = 2 := Decidable.of_not_not d1
      have d2' : T.tkd (c0 + 3) = 50 := Decidable.of_not_not d2
      have hm : c0 + 4 < m := by
        have a2 := tE_lt hT 9 1 (i + 1) (go1 (by omega))
        rw [e] at a2
        have a3 := hT.go a2 (by omega)
        exact hT.go a3 (by rw [show c0 + 2 + 1 = c0 + 3 by omega]; omega)
      · have h1 := rdSev_fact hT (lv := bl.length + 1) (by omega) FU 0 (c0 + 4) hm
        cases e2 : rdSev T.tkd FU 0 (c0 + 4) (bl.length + 1) with
        | inl j => trivial
        | inr q =>
          obtain ⟨j, lv'⟩ := q
          rw [e2] at h1
          exact gt_ite (fun _ => gt_ite (fun _ => by show i < j + 2; have := h1.1; omega) fun _ => trivial) fun _ => trivial
  · exact stWork_gt hT hi hbl
end Stm
end
