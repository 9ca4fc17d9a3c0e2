section
/-! the tokens of a text -/
theorem kOK_of {k : Nat} (h : k < 5 ∨ (10 ≤ k ∧ k < 24) ∨ (30 ≤ k ∧ k < 57)) : kOK k := by
  show kOKb k = true
  unfold kOKb
  simp only [Bool.and_eq_true, Bool.or_eq_true, decide_eq_true_eq]
  omega
section Tx
variable {n : Nat} {x : Nat → Nat}
theorem tok_ok (ht : TextIs n x) {st : Nat} : kOK (tok n x st).1 := by
  unfold tok
  by_cases c : st < n
  · have hx := ht.byte st c
    rw [if_pos c]
    by_cases c1 : isLet (x st) = true
    · rw [if_pos c1]
      show kOK (nameTok n x st (nmEnd n x (st + 1)))
      unfold nameTok
      cases hw : wordIx n x st (nmEnd n x (st + 1) - st) with
      | some w =>
        have := List.mem_of_find?_eq_some hw
        rw [List.mem_range] at this
        show kOK (10 + w)
        exact kOK_of (Or.inr (Or.inl ⟨by omega, by omega⟩))
      | none =>
        refine kOK_of (Or.inl ?_)
        by_cases d : nmEnd n x (st + 1) - st ≤ 255
        · show (if nmEnd n x (st + 1) - st ≤ 255 then 2 else 1) < 5
          rw [if_pos d]; omega
        · show (if nmEnd n x (st + 1) - st ≤ 255 then 2 else 1) < 5
          rw [if_neg d]; omega
    · rw [if_neg c1]
      by_cases c2 : isDig (x st) = true
      · rw [if_pos c2]
        refine kOK_of (Or.inl ?_)
        show numTok n x st < 5
        unfold numTok; split <;> omega
      · rw [if_neg c2]
        by_cases c3 : x st = 34
        · rw [if_pos c3]
          refine kOK_of (Or.inl ?_)
          show txTok n x st (txEnd n x (st + 1)) < 5
          unfold txTok; split <;> omega
        · rw [if_neg c3]
          show kOK (sgK (sgIx (x st) (ltr n x (st + 1))))
          cases ho : sgIx (x st) (ltr n x (st + 1)) with
          | none => exact kOK_of (Or.inl (by show 1 < 5; omega))
          | some s =>
            have hs2 := sgIx_lt hx ho
            show kOK (30 + s)
            exact kOK_of (Or.inr (Or.inr ⟨by omega, by omega⟩))
  · rw [if_neg c]; exact kOK_of (Or.inl (by show 0 < 5; omega))
/-- the text's tokens: kinds, places, ends -/
def cutE (n : Nat) (x : Nat → Nat) : List (Nat × Nat × Nat) := cutL n x (n + 2) 0 0
def tkT (n : Nat) (x : Nat → Nat) : Tks := (fun i => nI ((cutE n x).getD i (0, 0, 0)).2.1, fun i => nI (((cutE n x).getD i (0, 0, 0)).2.2 - ((cutE n x).getD i (0, 0, 0)).2.1), fun i => ((cutE n x).getD i (0, 0, 0)).1)
/-- the tokens from v on are what is cut from p on -/
def Suf (n : Nat) (x : Nat → Nat) (v f p : Nat) : Prop := p ≤ n ∧ n + 1 - p < f ∧ (cutE n x).drop v = cutL n x f p v
/-- the v-th token, cut from p on -/
def cutK (n : Nat) (x : Nat → Nat) (v p : Nat) : Nat := if v = 16384 ∧ (tok n x (skp n x p)).1 ≠ 0 then 1 else (tok n x (skp n x p)).1
theorem Suf.at {v f p : Nat} (h : Suf n x v f p) : (cutE n x).getD v (0, 0, 0) = (cutK n x v p, skp n x p, (tok n x (skp n x p)).2) := by
  obtain ⟨h1, h2, h3⟩ := h
  match f, h2, h3 with
  | f + 1, h2, h3 =>
    have e : (cutE n x)[v]? = ((cutE n x).drop v)[0]? := by rw [List.getElem?_drop, Nat.add_zero]
    rw [List.getD_eq_getElem?_getD, e, h3, cutL]
    rfl
theorem Suf.next (ht : TextIs n x) {v f p : Nat} (h : Suf n x v f p) : (cutK n x v p ≤ 1 ∧ (cutE n x).length ≤ v + 1) ∨ (1 < cutK n x v p ∧ cutK n x v p = (tok n x (skp n x p)).1 ∧ v ≠ 16384 ∧ skp n x p < (tok n x (skp n x p)).2 ∧ (tok n x (skp n x p)).2 ≤ n ∧ ∃ f', Suf n x (v + 1) f' (tok n x (skp n x p)).2) := by
  have h4 := ht.le
  obtain ⟨h1, h2, h3⟩ := h
  match f, h2, h3 with
  | f + 1, h2, h3 =>
    rw [cutL] at h3
    have hd : (cutE n x).drop (v + 1) = ((cutE n x).drop v).drop 1 := by rw [List.drop_drop]
    obtain ⟨k1, k2⟩ := sk_st (x := x) (show p ≤ 65536 by omega) h4
    obtain ⟨t1, t2, t3, t4, t5⟩ := tok_end ht (st := skp n x p) k2
    by_cases c : cutK n x v p ≤ 1
    · refine Or.inl ⟨c, ?_⟩
      unfold cutK at c
      rw [if_pos c] at h3
      have := congrArg List.length h3
      rw [List.length_drop, List.length_singleton] at this
      omega
    · have hk : ¬ (v = 16384 ∧ (tok n x (skp n x p)).1 ≠ 0) := by
        intro h
        unfold cutK at c
        rw [if_pos h] at c
        omega
      have hk2 : cutK n x v p = (tok n x (skp n x p)).1 := by
        unfold cutK; rw [if_neg hk]
      rw [hk2] at c ⊢
      refine Or.inr ⟨by omega, rfl, fun e => hk ⟨e, by omega⟩, (t3 (by omega)).1, t4 (by omega) (by omega), f, t4 (by omega) (by omega), ?_, ?_⟩
      · have := (t3 (by omega)).1; omega
      · rw [hd, h3]
        rw [if_neg (show ¬ (if v = 16384 ∧ (tok n x (skp n x p)).1 ≠ 0 then 1 else (tok n x (skp n x p)).1) ≤ 1 from fun h => by rw [if_neg hk] at h; omega)]
        rfl
theorem cut_suf (ht : TextIs n x) : ∀ v, v < (cutE n x).length → ∃ f p, Suf n x v f p
  | 0, _ => ⟨n + 2, 0, Nat.zero_le _, by omega, rfl⟩
  | v + 1, h => by
    obtain ⟨f, p, hs⟩ := cut_suf ht v (by omega)
    rcases hs.next ht with ⟨_, a⟩ | ⟨_, _, _, _, _, f', a⟩
    · omega
    · exact ⟨f', _, a⟩
theorem cut_pos : 0 < (cutE n x).length := by
  unfold cutE
  rw [cutL, List.length_cons]
  omega
theorem cut_mono (ht : TextIs n x) : ∀ d v, v + d + 1 < (cutE n x).length → ((cutE n x).getD v (0, 0, 0)).2.1 < ((cutE n x).getD (v + d + 1) (0, 0, 0)).2.1
  | 0, v, h => by
    have h4 := ht.le
    obtain ⟨f, p, hs⟩ := cut_suf ht v (by omega)
    rcases hs.next ht with ⟨_, a⟩ | ⟨_, _, _, a1, a2, f', a⟩
    · omega
    · rw [hs.at, a.at]
      have := (sk_st (x := x) (show (tok n x (skp n x p)).2 ≤ 65536 by omega) h4).1
      show skp n x p < skp n x (tok n x (skp n x p)).2
      omega
  | d + 1, v, h => by
    have h1 := cut_mono ht d v (by omega)
    have h2 := cut_mono ht 0 (v + d + 1) (by omega)
    exact Nat.lt_trans h1 h2
theorem cut_pl (ht : TextIs n x) (v : Nat) : ((cutE n x).getD v (0, 0, 0)).2.1 ≤ 65536 := by
  have h4 := ht.le
  by_cases h : v < (cutE n x).length
  · obtain ⟨f, p, hs⟩ := cut_suf ht v h
    rw [hs.at]
    exact (sk_st (x := x) (show p ≤ 65536 by have := hs.1; omega) h4).2
  · rw [List.getD_eq_getElem?_getD, List.getElem?_eq_none (by omega)]
    exact Nat.zero_le _
theorem tkOK (ht : TextIs n x) : TkOK (tkT n x) (cutE n x).length := by
  refine ⟨fun i => ?_, fun i => ?_, fun i j hi hj h => ?_, cut_pos, ?_, fun i hi => ?_, ?_⟩
  · show kOK ((cutE n x).getD i (0, 0, 0)).1
    by_cases h : i < (cutE n x).length
    · obtain ⟨f, p, hs⟩ := cut_suf ht i h
      rw [hs.at]
      show kOK (cutK n x i p)
      unfold cutK
      by_cases c : i = 16384 ∧ (tok n x (skp n x p)).1 ≠ 0
      · rw [if_pos c]; exact kOK_of (Or.inl (by omega))
      · rw [if_neg c]; exact tok_ok ht
    · rw [List.getD_eq_getElem?_getD, List.getElem?_eq_none (by omega)]
      exact kOK_of (Or.inl (by show 0 < 5; omega))
  · show nI ((cutE n x).getD i (0, 0, 0)).2.1 ≠ -1
    have := cut_pl ht i
    rw [ne_eq, nI_ne1 (by omega)]
    exact id
  · have h : nI ((cutE n x).getD i (0, 0, 0)).2.1 = nI ((cutE n x).getD j (0, 0, 0)).2.1 := h
    have a := cut_pl ht i
    have b := cut_pl ht j
    rw [nI_eq' (by omega) (by omega)] at h
    rcases Nat.lt_trichotomy i j with c | c | c
    · have := cut_mono ht (j - i - 1) i (by omega)
      rw [show i + (j - i - 1) + 1 = j by omega] at this
      omega
    · exact c
    · have := cut_mono ht (i - j - 1) j (by omega)
      rw [show j + (i - j - 1) + 1 = i by omega] at this
      omega
  · have := cutL_len (n := n) (x := x) (n + 2) 0 0 (by omega)
    exact this
  · obtain ⟨f, p, hs⟩ := cut_suf ht i (by omega)
    show 1 < ((cutE n x).getD i (0, 0, 0)).1
    rw [hs.at]
    rcases hs.next ht with ⟨_, a⟩ | ⟨a, _⟩
    · omega
    · exact a
  · have hp := cut_pos (n := n) (x := x)
    obtain ⟨f, p, hs⟩ := cut_suf ht ((cutE n x).length - 1) (by omega)
    show ((cutE n x).getD ((cutE n x).length - 1) (0, 0, 0)).1 ≤ 1
    rw [hs.at]
    rcases hs.next ht with ⟨a, _⟩ | ⟨a, _, _, _, _, f', b⟩
    · exact a
    · exfalso
      obtain ⟨b1, b2, b3⟩ := b
      rw [show (cutE n x).length - 1 + 1 = (cutE n x).length by omega, List.drop_length] at b3
      match f', b2, b3 with
      | f' + 1, _, b3 =>
        rw [cutL] at b3
        cases b3
end Tx
end
