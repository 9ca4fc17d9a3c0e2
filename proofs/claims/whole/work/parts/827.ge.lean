section
section Ge
variable {T : Tks} {m : Nat}
theorem rdE_ge (hT : TkOK T m) {i lv : Nat} (hi : i < m) (hlv : lv ≤ 60) : match rdE T.tkd i lv with | .inl j => i ≤ j ∧ j < m | .inr (j, lv') => i < j ∧ j < m ∧ lv' = lv := by
  have h1 := expr_run (sm := fun _ _ _ => false) (B := (0, fm_0 18 0 0, [], [], [])) (lv := lv) hT ⟨rfl, rfl, Or.inl rfl, fun h => absurd (show (18 : Int32) = 20 from h) (by decide), fun h => absurd (show (18 : Int32) = 20 from h) (by decide)⟩ hi hlv (fun h => absurd (show (18 : Int32) = 20 from h) (by decide)) (fun h => absurd (show (18 : Int32) = 52 from h) (by decide)) (Nat.zero_le _)
  cases e : rdE T.tkd i lv with
  | inl j => rw [e] at h1; exact ⟨h1.2.1, h1.1⟩
  | inr q =>
    obtain ⟨j, lv'⟩ := q
    rw [e] at h1
    obtain ⟨h2, h3, _, _, t, ρ, s', hv, _⟩ := h1
    exact ⟨hv.lt, h3, h2⟩
theorem rdSev_ge (hT : TkOK T m) {lv : Nat} (hlv : lv ≤ 60) : ∀ (fu n i : Nat), i < m → m - i < fu → match rdSev T.tkd fu n i lv with | .inl j => i ≤ j ∧ j < m | .inr (j, lv') => i < j ∧ j < m ∧ lv' = lv
  | 0, n, i, hi, h => by omega
  | fu + 1, n, i, hi, hf => by
    have h1 := rdE_ge hT hi hlv
    rw [rdSev]
    cases e : rdE T.tkd i lv with
    | inl j => rw [e] at h1; exact h1
    | inr q =>
      obtain ⟨j, lv'⟩ := q
      rw [e] at h1
      obtain ⟨h2, h3, h4⟩ := h1
      subst h4
      show match (if T.tkd j = 54 then (if n + 1 = 8 then .inl j else rdSev T.tkd fu (n + 1) (j + 1) lv') else .inr (j, lv') : Sum Nat (Nat × Nat)) with | .inl j => i ≤ j ∧ j < m | .inr (j, lv2) => i < j ∧ j < m ∧ lv2 = lv'
      by_cases c : T.tkd j = 54
      · rw [if_pos c]
        by_cases d : n + 1 = 8
        · rw [if_pos d]; exact ⟨by omega, h3⟩
        · rw [if_neg d]
          have h5 := rdSev_ge hT hlv fu (n + 1) (j + 1) (hT.go h3 (by omega)) (by omega)
          cases e2 : rdSev T.tkd fu (n + 1) (j + 1) lv' with
          | inl j2 => rw [e2] at h5; exact ⟨by have := h5.1; omega, h5.2⟩
          | inr q2 =>
            obtain ⟨j2, lv2⟩ := q2
            rw [e2] at h5
            exact ⟨by have := h5.1; omega, h5.2⟩
      · rw [if_neg c]; exact ⟨h2, h3, rfl⟩
theorem rdCond_ge (hT : TkOK T m) {i lv : Nat} (hi : i < m) (hlv : lv ≤ 60) : match rdCond T.tkd i lv with | .inl j => i ≤ j | .inr j => i < j := by
  unfold rdCond
  by_cases c : T.tkd i = 50 ∧ lv ≠ 60
  · rw [if_pos c]
    have h1 := rdE_ge hT (i := i + 1) (lv := lv + 1) (hT.go hi (by omega)) (by omega)
    cases e : rdE T.tkd (i + 1) (lv + 1) with
    | inl j => rw [e] at h1; show i ≤ j; have := h1.1; omega
    | inr q =>
      obtain ⟨j, lv'⟩ := q
      rw [e] at h1
      show match (if T.tkd j = 51 then .inr (j + 1) else .inl j : Sum Nat Nat) with | .inl j => i ≤ j | .inr j => i < j
      have := h1.1
      by_cases d : T.tkd j = 51
      · rw [if_pos d]; show i < j + 1; omega
      · rw [if_neg d]; show i ≤ j; omega
  · rw [if_neg c]; exact Nat.le_refl i
theorem rdWk_ge (hT : TkOK T m) {i lv : Nat} (hi : i < m) (hlv : lv ≤ 60) : match rdWk T.tkd i lv with | .inl j => i ≤ j ∧ j < m | .inr (j, lv') => i < j ∧ j < m ∧ lv' = lv := by
  unfold rdWk
  have h1 := rdE_ge hT hi hlv
  cases e : rdE T.tkd i lv with
  | inl j => rw [e] at h1; exact h1
  | inr q =>
    obtain ⟨j, lv'⟩ := q
    rw [e] at h1
    obtain ⟨a1, a2, a3⟩ := h1
    subst a3
    show match (if T.tkd j = 56 then (if isTg T.tkd i j = true then rdE T.tkd (j + 1) lv' else .inl j) else .inr (j, lv') : Sum Nat (Nat × Nat)) with | .inl j => i ≤ j ∧ j < m | .inr (j, lv2) => i < j ∧ j < m ∧ lv2 = lv'
    by_cases c : T.tkd j = 56
    · rw [if_pos c]
      by_cases d : isTg T.tkd i j = true
      · rw [if_pos d]
        have h2 := rdE_ge hT (i := j + 1) (lv := lv') (hT.go a2 (by omega)) hlv
        cases e2 : rdE T.tkd (j + 1) lv' with
        | inl k => rw [e2] at h2; exact ⟨by have := h2.1; omega, h2.2⟩
        | inr q2 => obtain ⟨k, lv2⟩ := q2; rw [e2] at h2; exact ⟨by have := h2.1; omega, h2.2⟩
      · rw [if_neg d]; exact ⟨by omega, a2⟩
    · rw [if_neg c]; exact ⟨a1, a2, rfl⟩
theorem rdTg_ge (hT : TkOK T m) {c lv : Nat} (hc : c + 2 < m) (hlv : lv < 60) : match rdTg T.tkd c lv with | .inl j => c ≤ j | .inr (j, lv') => c ≤ j ∧ lv' = lv := by
  have hm := hT.le
  unfold rdTg
  by_cases c2 : T.tkd (c + 2) ≠ 2
  · rw [if_pos c2]; show c ≤ c + 2; omega
  · rw [if_neg c2]
    have g2 : T.tkd (c + 2) = 2 := Decidable.of_not_not c2
    have h3 := hT.go hc (by omega)
    by_cases c3 : T.tkd (c + 3) ≠ 50
    · rw [if_pos c3]; show c ≤ c + 3; omega
    · rw [if_neg c3]
      have g3 : T.tkd (c + 3) = 50 := Decidable.of_not_not c3
      have h4 := hT.go h3 (by rw [show c + 2 + 1 = c + 3 by omega]; omega)
      by_cases c4 : T.tkd (c + 4) = 51
      · rw [if_pos c4]; exact ⟨by omega, rfl⟩
      · rw [if_neg c4]
        have h5 := rdSev_ge hT (lv := lv + 1) (by omega) FU 0 (c + 4) h4 (by unfold FU; omega)
        cases e : rdSev T.tkd FU 0 (c + 4) (lv + 1) with
        | inl j => rw [e] at h5; show c ≤ j; have := h5.1; omega
        | inr q =>
          obtain ⟨j, lv2⟩ := q
          rw [e] at h5
          have := h5.1
          show match (if T.tkd j = 51 then .inr (j + 1, lv) else .inl j : Sum Nat (Nat × Nat)) with | .inl j => c ≤ j | .inr (j, lv') => c ≤ j ∧ lv' = lv
          by_cases g : T.tkd j = 51
          · rw [if_pos g]; exact ⟨by omega, rfl⟩
          · rw [if_neg g]; show c ≤ j; omega
/-- a function's name is one -/
theorem stFb_fs {K : Nat → Nat} {SN : Nat → Nat → Bool} {fs : List Nat} {res : Bool} {nm : Nat} : match stFb K SN fs res nm with | .inl _ => True | .inr (_, bl', fs') => bl' = [19] ∧ fs' = fs ++ [nm] ∧ K nm = 2 := by
  unfold stFb
  by_cases c1 : K nm ≠ 2
  · rw [if_pos c1]; trivial
  · rw [if_neg c1]
    have h2 : K nm = 2 := Decidable.of_not_not c1
    by_cases c2 : fs.any (fun q => SN q nm) = true
    · rw [if_pos c2]
      by_cases c3 : res = false ∧ K (nm - 1) = 19
      · rw [if_pos c3]; trivial
      · rw [if_neg c3]; trivial
    · rw [if_neg c2]
      by_cases c3 : K (nm + 1) ≠ 50
      · rw [if_pos c3]; trivial
      · rw [if_neg c3]
        by_cases c4 : K (nm + 2) = 51
        · rw [if_pos c4]; exact ⟨rfl, rfl, h2⟩
        · rw [if_neg c4]
          cases rdNm K SN (nm + 2) FU 0 with
          | inl j => trivial
          | inr j =>
            show match (if K j = 51 then .inr (j + 1, [19], fs ++ [nm]) else .inl j : Sum Nat (Nat × List Nat × List Nat)) with | .inl _ => True | .inr (_, bl', fs') => bl' = [19] ∧ fs' = fs ++ [nm] ∧ K nm = 2
            by_cases c5 : K j = 51
            · rw [if_pos c5]; exact ⟨rfl, rfl, h2⟩
            · rw [if_neg c5]; trivial
theorem ge_ite {i : Nat} {p : Prop} [Decidable p] {x y : Sum Nat (Nat × List Nat × List Nat)} (h1 : p → (match x with | .inl j => i ≤ j | .inr _ => True)) (h2 : ¬ p → (match y with | .inl j => i ≤ j | .inr _ => True)) : match (if p then x else y) with | .inl j => i ≤ j | .inr _ => True := by
  by_cases c : p
  · rw [if_pos c]; exact h1 c
  · rw [if_neg c]; exact h2 c
end Ge
section Lb
variable {n : Nat} {x : Nat → Nat}
theorem rdNm_lb (ht : TextIs n x) {SN : Nat → Nat → Bool} {a : Nat} : ∀ (fu j : Nat), (cutE n x).length - (a + 2 * j) < fu → a + 2 * j < (cutE n x).length → match rdNm (tkT n x).tkd SN a fu j with | .inl e => a ≤ e | .inr e => a ≤ e
  | 0, j, h, _ => by omega
  | fu + 1, j, h, hj => by
    rw [rdNm]
    by_cases c : (tkT n x).tkd (a + 2 * j) = 2 ∧ ((List.range j).any fun k => SN (a + 2 * k) (a + 2 * j)) = false
    · rw [if_pos c]
      have h1 := (tkOK ht).go hj (by omega)
      by_cases d : (tkT n x).tkd (a + 2 * j + 1) = 54
      · rw [if_pos d]
        have h2 := (tkOK ht).go h1 (by omega)
        by_cases e : j = 7
        · rw [if_pos e]; show a ≤ a + 2 * j + 1; omega
        · rw [if_neg e]; exact rdNm_lb ht fu (j + 1) (by omega) (by omega)
      · rw [if_neg d]; show a ≤ a + 2 * j + 1; omega
    · rw [if_neg c]; show a ≤ a + 2 * j; omega
theorem rdNm_lt (ht : TextIs n x) {SN : Nat → Nat → Bool} {a : Nat} : ∀ (fu j : Nat), (cutE n x).length - (a + 2 * j) < fu → a + 2 * j < (cutE n x).length → match rdNm (tkT n x).tkd SN a fu j with | .inl e => e < (cutE n x).length | .inr e => e < (cutE n x).length
  | 0, j, h, _ => by omega
  | fu + 1, j, h, hj => by
    rw [rdNm]
    by_cases c : (tkT n x).tkd (a + 2 * j) = 2 ∧ ((List.range j).any fun k => SN (a + 2 * k) (a + 2 * j)) = false
    · rw [if_pos c]
      have h1 := (tkOK ht).go hj (by omega)
      by_cases d : (tkT n x).tkd (a + 2 * j + 1) = 54
      · rw [if_pos d]
        have h2 := (tkOK ht).go h1 (by omega)
        by_cases e : j = 7
        · rw [if_pos e]; exact h1
        · rw [if_neg e]; exact rdNm_lt ht fu (j + 1) (by omega) (by omega)
      · rw [if_neg d]; exact h1
    · rw [if_neg c]; exact hj
theorem stFb_lb (ht : TextIs n x) {SN : Nat → Nat → Bool} {fs : List Nat} {res : Bool} {i nm : Nat} (h : i ≤ nm) (hm : nm < (cutE n x).length) : match stFb (tkT n x).tkd SN fs res nm with | .inl j => i ≤ j | .inr _ => True := by
  have hle := (tkOK ht).le
  unfold stFb
  refine ge_ite (fun _ => h) fun c1 => ge_ite (fun _ => ge_ite (fun _ => by show i ≤ nm + 1; omega) fun _ => h) fun _ => ge_ite (fun _ => by show i ≤ nm + 1; omega) fun c2 => ge_ite (fun _ => trivial) fun _ => ?_
  have c1' : (tkT n x).tkd nm = 2 := Decidable.of_not_not c1
  have c2' : (tkT n x).tkd (nm + 1) = 50 := Decidable.of_not_not c2
  have g1 := (tkOK ht).go hm (by omega)
  have g2 := (tkOK ht).go g1 (by omega)
  have h1 := rdNm_lb ht (SN := SN) (a := nm + 2) FU 0 (by unfold FU; omega) g2
  cases e : rdNm (tkT n x).tkd SN (nm + 2) FU 0 with
  | inl j => rw [e] at h1; show i ≤ j; have h1 : nm + 2 ≤ j := h1; omega
  | inr j =>
    rw [e] at h1
    have h1 : nm + 2 ≤ j := h1
    exact ge_ite (fun _ => trivial) fun _ => by show i ≤ j; omega
theorem stFun_lb (ht : TextIs n x) {SN : Nat → Nat → Bool} {i : Nat} {bl fs : List Nat} (hi : i < (cutE n x).length) (h19 : (tkT n x).tkd i = 19) : match stFun (tkT n x).tkd SN i bl fs with | .inl j => i ≤ j | .inr _ => True := by
  have hle := (tkOK ht).le
  have g1 := (tkOK ht).go hi (by omega)
  unfold stFun
  refine ge_ite (fun _ => Nat.le_refl i) fun _ => ge_ite (fun c52 => ?_) fun _ => ge_ite (fun c => ?_) fun _ => stFb_lb ht (by omega) g1
  · have g2 := (tkOK ht).go g1 (by omega)
    have h1 := rdNm_lb ht (SN := SN) (a := i + 2) FU 0 (by unfold FU; omega) g2
    have h2 := rdNm_lt ht (SN := SN) (a := i + 2) FU 0 (by unfold FU; omega) g2
    cases e : rdNm (tkT n x).tkd SN (i + 2) FU 0 with
    | inl j => rw [e] at h1; show i ≤ j; have h1 : i + 2 ≤ j := h1; omega
    | inr j =>
      rw [e] at h1 h2
      have h1 : i + 2 ≤ j := h1
      have h2 : j < (cutE n x).length := h2
      refine ge_ite (fun _ => by show i ≤ j; omega) fun c53 => ge_ite (fun _ => by show i ≤ j + 1; omega) fun c56 => ?_
      have c53' : (tkT n x).tkd j = 53 := Decidable.of_not_not c53
      have c56' : (tkT n x).tkd (j + 1) = 56 := Decidable.of_not_not c56
      have g3 := (tkOK ht).go h2 (by omega)
      exact stFb_lb ht (by omega) ((tkOK ht).go g3 (by omega))
  · have g2 := (tkOK ht).go g1 (by omega)
    exact stFb_lb ht (by omega) ((tkOK ht).go g2 (by have := c.2; rw [show i + 1 + 1 = i + 2 by omega]; omega))
end Lb
end
