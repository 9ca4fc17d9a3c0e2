section
/-! the reference's saying -/
def VecB (N : Nat) (b : Nat → Int32) (l : List Int32) : Prop := Vec N b l ∧ N ≤ 2 ^ 19
theorem VecB.add {N : Nat} {b : Nat → Int32} {l : List Int32} (h : VecB N b l) (hl : l.length < 2 ^ 18) (v : Int32) : ∃ N' b' c s, F_Nm_add v (nI l.length) N b = some ((N', b'), c, s) ∧ VecB N' b' (l ++ [v]) ∧ Grow N N' c s := by
  obtain ⟨N', b', c, s, e, g1, g2, g3⟩ := Nm_add h.1 (by omega) v
  refine ⟨N', b', c, s, e, ⟨g1, ?_⟩, g2⟩
  have := h.2
  rcases g3 with g | ⟨g, g'⟩ <;> omega
/-- F goes on as K, with w behind the list l -/
def GoA {γ : Type} (F : Option (γ × Nat × Nat)) (K : Int32 → Nat → (Nat → Int32) → Option (γ × Nat × Nat)) (N : Nat) (l w : List Int32) : Prop :=
  ∃ N' b' c s, VecB N' b' (l ++ w) ∧ Grow N N' c s ∧ ∀ R c' s', K (nI (l ++ w).length) N' b' = some (R, c', s') → F = some (R, c + c', s + s')
theorem GoA.nil {γ : Type} {F : Option (γ × Nat × Nat)} {K : Int32 → Nat → (Nat → Int32) → Option (γ × Nat × Nat)} {N : Nat} {b : Nat → Int32} {l : List Int32} (h : VecB N b l) (e : F = K (nI l.length) N b) : GoA F K N l [] := by
  refine ⟨N, b, 0, 0, by rw [List.append_nil]; exact h, Grow.rfl, fun R c' s' hh => ?_⟩
  rw [List.append_nil] at hh
  rw [e, hh, Nat.zero_add, Nat.zero_add]
theorem GoA.trans {γ : Type} {F : Option (γ × Nat × Nat)} {K K2 : Int32 → Nat → (Nat → Int32) → Option (γ × Nat × Nat)} {N : Nat} {l w1 w2 : List Int32} (h : GoA F K N l w1) (g : ∀ N1 b1, VecB N1 b1 (l ++ w1) → GoA (K (nI (l ++ w1).length) N1 b1) K2 N1 (l ++ w1) w2) : GoA F K2 N l (w1 ++ w2) := by
  obtain ⟨N1, b1, c1, s1, h1, h2, h3⟩ := h
  obtain ⟨N2, b2, c2, s2, g1, g2, g3⟩ := g N1 b1 h1
  refine ⟨N2, b2, c1 + c2, s1 + s2, by rw [← List.append_assoc]; exact g1, h2.trans g2, fun R c' s' hh => ?_⟩
  rw [← List.append_assoc] at hh
  rw [h3 R _ _ (g3 R c' s' hh), Nat.add_assoc, Nat.add_assoc]
/-- F ends with w behind the list l -/
def Apd (F : Option ((Int32 × Nat × (Nat → Int32)) × Nat × Nat)) (N : Nat) (l w : List Int32) : Prop := ∃ N' b' c s, VecB N' b' (l ++ w) ∧ Grow N N' c s ∧ F = some ((nI (l ++ w).length, N', b'), c, s)
theorem GoA.apd {F : Option ((Int32 × Nat × (Nat → Int32)) × Nat × Nat)} {N : Nat} {l w : List Int32} (h : GoA F (fun z N b => some ((z, N, b), 0, 0)) N l w) : Apd F N l w := by
  obtain ⟨N1, b1, c1, s1, h1, h2, h3⟩ := h
  exact ⟨N1, b1, c1, s1, h1, h2, h3 _ 0 0 rfl⟩
theorem Apd.goes {γ : Type} {F : Option ((Int32 × Nat × (Nat → Int32)) × Nat × Nat)} {N : Nat} {l w : List Int32} (h : Apd F N l w) (k : Int32 × Nat × (Nat → Int32) → Option (γ × Nat × Nat)) : GoA (bw F k) (fun z N b => k (z, N, b)) N l w := by
  obtain ⟨N1, b1, c1, s1, h1, h2, h3⟩ := h
  exact ⟨N1, b1, c1, s1, h1, h2, fun R c' s' hh => bw_ok h3 hh⟩
theorem sin_k {α : Type} {i : Nat} {m : Option α} (h : i < 85) : sin i m = m := if_pos h
theorem Mo_say2 {i : Nat} (hi : i < 85) : ∀ (n fu k N : Nat) (b : Nat → Int32) (l : List Int32), k + n = (gB i).length → n < fu → (gB i).length ≤ 100 → l.length + n < 2 ^ 18 → VecB N b l → Apd (F_Mo_say_2 i fu (nI k) (nI l.length) N b) N l ((List.range' k n).map (fun j => sch i (nI j)))
  | 0, fu + 1, k, N, b, l, hk, hf, hg, hl, hv => by
    refine ⟨N, b, 0, 0, by rw [List.range'_zero, List.map_nil, List.append_nil]; exact hv, Grow.rfl, ?_⟩
    rw [F_Mo_say_2, sin_k hi, if_pos (show nI (gB i).length ≤ nI k by rw [nI_le' (by omega) (by omega)]; omega), List.range'_zero, List.map_nil, List.append_nil]
  | n + 1, fu + 1, k, N, b, l, hk, hf, hg, hl, hv => by
    obtain ⟨N1, b1, c1, s1, e1, v1, g1⟩ := hv.add (by omega) (sch i (nI k))
    have hlen : (l ++ [sch i (nI k)]).length = l.length + 1 := by rw [List.length_append]; rfl
    obtain ⟨N2, b2, c2, s2, v2, g2, e2⟩ := Mo_say2 hi n fu (k + 1) N1 b1 (l ++ [sch i (nI k)]) (by omega) (by omega) hg (by rw [hlen]; omega) v1
    rw [List.append_assoc] at v2 e2
    refine ⟨N2, b2, c1 + c2, s1 + s2, v2, g1.trans g2, ?_⟩
    rw [F_Mo_say_2, sin_k hi, if_neg (show ¬ nI (gB i).length ≤ nI k by rw [nI_le' (by omega) (by omega)]; omega), sin_k hi, inb_ok (by omega) (by omega)]
    refine bw_ok e1 ?_
    dsimp only
    rw [show nI k + 1 = nI (k + 1) from nI_add' k 1, show nI l.length + 1 = nI (l.length + 1) from nI_add' _ 1, ← hlen]
    exact e2
section Sy
variable {q1 q2 q3 q4 q5 q6 q7 q8 q9 : Int32}
theorem Mo_say {i N : Nat} {b : Nat → Int32} {l : List Int32} (hi : i < 85) (hg : (gB i).length ≤ 100) (hl : l.length + 100 < 2 ^ 18) (hv : VecB N b l) : Apd (F_Mo_say i q1 q2 q3 q4 q5 q6 q7 q8 q9 (nI l.length) N b) N l (sW i) := by
  have := Mo_say2 hi (gB i).length FU 0 N b l (Nat.zero_add _) (by unfold FU; omega) hg (by omega) hv
  unfold sW
  rw [List.range_eq_range']
  exact this
/-- what the array of characters says from s on -/
theorem Mo_sayTk9 {n N4 N7 i e : Nat} {a4 a7 : Nat → Int32} {x : Nat → Nat} {z7 z4 : Int32} (h4 : ∀ j, j < n → a4 j = nI (x j)) (hn4 : n ≤ N4) (hn : n ≤ 2 ^ 17) (hi : i < N7) (hi2 : i < 2 ^ 20) (h7 : a7 i = nI e) (he : e ≤ n) : ∀ (k fu s N : Nat) (b : Nat → Int32) (l : List Int32), s + k = e → k < fu → l.length + k < 2 ^ 18 → VecB N b l → Apd (F_Mo_sayToken_9 (nI i) z7 N7 a7 z4 N4 a4 fu (nI s) (nI l.length) N b) N l ((List.range' s k).map (fun j => nI (x j)))
  | 0, fu + 1, s, N, b, l, hk, hf, hl, hv => by
    refine ⟨N, b, 0, 0, by rw [List.range'_zero, List.map_nil, List.append_nil]; exact hv, Grow.rfl, ?_⟩
    rw [F_Mo_sayToken_9, Nm_at hi (by omega), Option.bind_some, nI_clamp' (by omega), h7, if_pos (show nI e ≤ nI s by rw [nI_le' (by omega) (by omega)]; omega), List.range'_zero, List.map_nil, List.append_nil]
  | k + 1, fu + 1, s, N, b, l, hk, hf, hl, hv => by
    obtain ⟨N1, b1, c1, s1, e1, v1, g1⟩ := hv.add (by omega) (nI (x s))
    have hlen : (l ++ [nI (x s)]).length = l.length + 1 := by rw [List.length_append]; rfl
    obtain ⟨N2, b2, c2, s2, v2, g2, e2⟩ := Mo_sayTk9 (z7 := z7) (z4 := z4) h4 hn4 hn hi hi2 h7 he k fu (s + 1) N1 b1 (l ++ [nI (x s)]) (by omega) (by omega) (by rw [hlen]; omega) v1
    rw [List.append_assoc] at v2 e2
    refine ⟨N2, b2, c1 + c2, s1 + s2, v2, g1.trans g2, ?_⟩
    rw [F_Mo_sayToken_9, Nm_at hi (by omega), Option.bind_some, nI_clamp' (show i < 2 ^ 31 by omega), h7, if_neg (show ¬ nI e ≤ nI s by rw [nI_le' (by omega) (by omega)]; omega), Nm_at (show s < N4 by omega) (by omega), Option.bind_some, nI_clamp' (show s < 2 ^ 31 by omega), h4 s (by omega)]
    refine bw_ok e1 ?_
    dsimp only
    rw [show nI s + 1 = nI (s + 1) from nI_add' s 1, show nI l.length + 1 = nI (l.length + 1) from nI_add' _ 1, ← hlen]
    exact e2
end Sy
/-- the text of token i -/
def txX (n : Nat) (x : Nat → Nat) (i : Nat) : List Int32 := (List.range' ((cutE n x).getD i (0, 0, 0)).2.1 (((cutE n x).getD i (0, 0, 0)).2.2 - ((cutE n x).getD i (0, 0, 0)).2.1)).map (fun j => nI (x j))
section Tk
variable {q1 q2 q3 q4 q5 q6 q7 q8 q9 : Int32}
variable {n : Nat} {x : Nat → Nat} {N6 N7 N4 : Nat} {a6 a7 a4 : Nat → Int32}
theorem txX_len {i : Nat} : (txX n x i).length = ((cutE n x).getD i (0, 0, 0)).2.2 - ((cutE n x).getD i (0, 0, 0)).2.1 := by
  unfold txX
  rw [List.length_map, List.length_range']
theorem cut_in (ht : TextIs n x) {i : Nat} (hi : i + 1 < (cutE n x).length) : ((cutE n x).getD i (0, 0, 0)).2.1 ≤ ((cutE n x).getD i (0, 0, 0)).2.2 ∧ ((cutE n x).getD i (0, 0, 0)).2.2 ≤ n := by
  have hT := tkOK ht
  have h1 : 1 < ((cutE n x).getD i (0, 0, 0)).1 := hT.last i hi
  obtain ⟨f, p, hs⟩ := cut_suf ht i (by omega)
  have hat := hs.at
  rw [hat] at h1 ⊢
  dsimp only at h1 ⊢
  have hk : (tok n x (skp n x p)).1 ≠ 0 ∧ (tok n x (skp n x p)).1 ≠ 1 := by
    unfold cutK at h1
    by_cases c : i = 16384 ∧ (tok n x (skp n x p)).1 ≠ 0
    · rw [if_pos c] at h1; omega
    · rw [if_neg c] at h1; omega
  have hp : skp n x p ≤ 65536 := by
    have := cut_pl ht i
    rw [hat] at this
    exact this
  obtain ⟨g1, _, _, g4, _⟩ := tok_end ht hp
  exact ⟨g1, g4 hk.2 hk.1⟩
theorem Mo_sayTk (ht : TextIs n x) (hx : TxA n x N6 a6 N7 a7 N4 a4) {i N : Nat} {b : Nat → Int32} {l : List Int32} {z6 z7 z4 : Int32} (hi : i + 1 < (cutE n x).length) (hl : l.length + 65536 < 2 ^ 18) (hv : VecB N b l) : Apd (F_Mo_sayToken (nI i) q1 q2 q3 q4 q5 q6 q7 q8 q9 z6 N6 a6 z7 N7 a7 z4 N4 a4 (nI l.length) N b) N l (txX n x i) := by
  have hle := (tkOK ht).le
  have hn := ht.1
  have h6 := hx.n6; have h7 := hx.n7
  obtain ⟨g1, g2⟩ := cut_in ht hi
  unfold F_Mo_sayToken
  rw [Nm_at (by omega) (by omega), Option.bind_some, nI_clamp' (by omega), hx.pl i (by omega)]
  exact Mo_sayTk9 hx.ch hx.n4 (by omega) (by omega) (by omega) (hx.en i (by omega)) g2 _ FU _ N b l (by omega) (by unfold FU; omega) (by omega) hv
end Tk
end

section
theorem sW74 : sW 74 = [40] := by decide
theorem sW75 : sW 75 = [41] := by decide
theorem sW81 : sW 81 = [32, 32] := by decide
theorem sW82 : sW 82 = [10] := by decide
theorem sW83 : sW 83 = [32] := by decide
theorem sW84 : sW 84 = [59, 10] := by decide
theorem gB74 : (gB 74).length ≤ 100 := by decide
theorem gB75 : (gB 75).length ≤ 100 := by decide
theorem gB81 : (gB 81).length ≤ 100 := by decide
theorem gB82 : (gB 82).length ≤ 100 := by decide
theorem gB83 : (gB 83).length ≤ 100 := by decide
theorem gB84 : (gB 84).length ≤ 100 := by decide
theorem GoA.cast {γ : Type} {F : Option (γ × Nat × Nat)} {K : Int32 → Nat → (Nat → Int32) → Option (γ × Nat × Nat)} {N : Nat} {l w w' : List Int32} (h : GoA F K N l w) (e : w = w') : GoA F K N l w' := by rw [← e]; exact h
section Sy
variable {T : Tks} {m N5 N34 N35 : Nat} {a5 a34 a35 : Nat → Int32} {mk ex : Nat → Nat} {tx : Nat → List Int32}
variable {n2 : Nat} {b2 : Nat → Int32}
variable {q1 q2 q3 q4 q5 q6 q7 q8 q9 q0 z6 z7 z4 z34 z35 : Int32} {N6 N7 N4 : Nat} {a6 a7 a4 : Nat → Int32}
theorem tk167 (hm : m ≤ 20000) (h35 : MkIs m N35 a35 ex) (hb2 : ∀ i, ex i ≤ 17000) {i : Nat} (hi : i < m) {v6 : Int32} {K : Int32 → Int32 → Nat → (Nat → Int32) → Option ((Int32 × Nat × (Nat → Int32)) × Nat × Nat)} : ∀ (r fu j N : Nat) (b : Nat → Int32) (l : List Int32), j + r = ex i → r < fu → l.length + r + 101 < 2 ^ 18 → VecB N b l → GoA (F_Mo_sayTokens_167 q1 q2 q3 q4 q5 q6 q7 q8 q9 z35 N35 a35 (nI i) K fu (nI j) v6 (nI l.length) N b) (fun z N b => K (nI (i + 1)) z N b) N l (List.replicate r 41)
  | 0, fu + 1, j, N, b, l, hj, hf, hl, hv => by
    have := h35.1; have := h35.2.1; have := hb2 i
    refine GoA.nil hv ?_
    rw [F_Mo_sayTokens_167, Nm_at (by omega) (by omega), Option.bind_some, nI_clamp' (by omega), h35.2.2 i hi, if_pos (show nI (ex i) ≤ nI j by rw [nI_le' (by omega) (by omega)]; omega), show nI i + 1 = nI (i + 1) from nI_add' i 1]
  | r + 1, fu + 1, j, N, b, l, hj, hf, hl, hv => by
    have := h35.1; have := h35.2.1; have := hb2 i
    rw [F_Mo_sayTokens_167, Nm_at (by omega) (by omega), Option.bind_some, nI_clamp' (by omega), h35.2.2 i hi, if_neg (show ¬ nI (ex i) ≤ nI j by rw [nI_le' (by omega) (by omega)]; omega)]
    refine ((Apd.goes (Mo_say (by decide) gB75 (by omega) hv) _).trans (fun N1 b1 v1 => ?_)).cast (w := sW 75 ++ List.replicate r 41) (by rw [sW75]; rfl)
    have hlen : (l ++ sW 75).length = l.length + 1 := by rw [List.length_append, sW75]; rfl
    dsimp only
    rw [show nI j + 1 = nI (j + 1) from nI_add' j 1]
    exact tk167 hm h35 hb2 hi r fu (j + 1) N1 b1 _ (by omega) (by omega) (by omega) v1
theorem tk126 (hk : KdIs m N5 a5 T.tkd) (hm : m ≤ 20000) (h35 : MkIs m N35 a35 ex) (hb2 : ∀ i, ex i ≤ 17000) (hTk : ∀ i, i + 1 < m → ∀ N b l, l.length + 65536 < 2 ^ 18 → VecB N b l → Apd (F_Mo_sayToken (nI i) q1 q2 q3 q4 q5 q6 q7 q8 q9 z6 N6 a6 z7 N7 a7 z4 N4 a4 (nI l.length) N b) N l (tx i)) (hTl : ∀ i, i + 1 < m → (tx i).length ≤ 65536) {i N : Nat} (hi : i + 1 < m) {two : Bool} {K : Int32 → Int32 → Nat → (Nat → Int32) → Option ((Int32 × Nat × (Nat → Int32)) × Nat × Nat)} {b : Nat → Int32} {l : List Int32} (hl : l.length ≤ 65538) (hv : VecB N b l) : GoA (F_Mo_sayTokens_126 q1 q2 q3 q4 q5 q6 q7 q8 q9 a5 z6 N6 a6 z7 N7 a7 z4 N4 a4 z35 N35 a35 (nI i) K (if two = true then 1 else 0) (nI l.length) N b) (fun z N b => K (nI (i + 1)) z N b) N l (tx i ++ ((if two = true ∨ T.tkd i = 56 ∨ T.tkd i = 54 ∨ T.tkd i = 55 then [32] else []) ++ List.replicate (ex i) 41)) := by
  have hbx := hb2 i
  have htl := hTl i hi
  have e56 : (a5 (Int32.toNatClampNeg (nI i)) = 56) = (T.tkd i = 56) := Mo_kd hk (show i < m by omega) (p := 56) (by omega)
  have e54 : (a5 (Int32.toNatClampNeg (nI i)) = 54) = (T.tkd i = 54) := Mo_kd hk (show i < m by omega) (p := 54) (by omega)
  have e55 : (a5 (Int32.toNatClampNeg (nI i)) = 55) = (T.tkd i = 55) := Mo_kd hk (show i < m by omega) (p := 55) (by omega)
  unfold F_Mo_sayTokens_126
  refine GoA.trans (Apd.goes (hTk i hi N b l (by omega) hv) _) (fun N1 b1 v1 => ?_)
  have hl1 : (l ++ tx i).length ≤ 65538 + 65536 := by rw [List.length_append]; omega
  have hsay : ∀ v6 : Int32, GoA (bw (F_Mo_say 83 q1 q2 q3 q4 q5 q6 q7 q8 q9 (nI (l ++ tx i).length) N1 b1) fun (r : Int32 × Nat × (Nat → Int32)) => F_Mo_sayTokens_167 q1 q2 q3 q4 q5 q6 q7 q8 q9 z35 N35 a35 (nI i) K FU 0 v6 r.1 r.2.1 r.2.2) (fun z N b => K (nI (i + 1)) z N b) N1 (l ++ tx i) ([32] ++ List.replicate (ex i) 41) := by
    intro v6
    refine ((Apd.goes (Mo_say (by decide) gB83 (by omega) v1) _).trans (fun N2 b2 v2 => ?_)).cast (w := sW 83 ++ List.replicate (ex i) 41) (by rw [sW83])
    have hlen : ((l ++ tx i) ++ sW 83).length = (l ++ tx i).length + 1 := by rw [List.length_append (as := l ++ tx i), sW83]; rfl
    exact tk167 hm h35 hb2 (by omega) (ex i) FU 0 N2 b2 _ (Nat.zero_add _) (by unfold FU; omega) (by omega) v2
  dsimp only
  cases two with
  | true =>
    rw [if_pos rfl, if_neg (show ¬ (1 : Int32) = 0 by decide), if_pos (Or.inl rfl)]
    exact hsay 1
  | false =>
    rw [show (if false = true then (1 : Int32) else 0) = 0 from rfl, if_pos rfl]
    simp only [e56, e54, e55]
    by_cases k56 : T.tkd i = 56
    · rw [if_pos k56, if_pos (Or.inr (Or.inl k56))]
      exact hsay 0
    · rw [if_neg k56]
      by_cases k54 : T.tkd i = 54
      · rw [if_pos k54, if_pos (Or.inr (Or.inr (Or.inl k54)))]
        exact hsay 0
      · rw [if_neg k54]
        by_cases k55 : T.tkd i = 55
        · rw [if_pos k55, if_pos (Or.inr (Or.inr (Or.inr k55)))]
          exact hsay 0
        · rw [if_neg k55, if_neg (fun h => by
            rcases h with h | h | h | h
            · cases h
            · exact k56 h
            · exact k54 h
            · exact k55 h)]
          exact tk167 hm h35 hb2 (by omega) (ex i) FU 0 N1 b1 _ (Nat.zero_add _) (by unfold FU; omega) (by omega) v1
theorem tk98 (hk : KdIs m N5 a5 T.tkd) (hm : m ≤ 20000) (h34 : MkIs m N34 a34 mk) (h35 : MkIs m N35 a35 ex) (hb1 : ∀ i, mk i ≤ 2) (hb2 : ∀ i, ex i ≤ 17000) (hTk : ∀ i, i + 1 < m → ∀ N b l, l.length + 65536 < 2 ^ 18 → VecB N b l → Apd (F_Mo_sayToken (nI i) q1 q2 q3 q4 q5 q6 q7 q8 q9 z6 N6 a6 z7 N7 a7 z4 N4 a4 (nI l.length) N b) N l (tx i)) (hTl : ∀ i, i + 1 < m → (tx i).length ≤ 65536) {i N : Nat} (hi : i + 1 < m) {two : Bool} {K : Int32 → Int32 → Nat → (Nat → Int32) → Option ((Int32 × Nat × (Nat → Int32)) × Nat × Nat)} {b : Nat → Int32} {l : List Int32} (hl : l.length ≤ 65537) (hv : VecB N b l) : GoA (F_Mo_sayTokens_98 q1 q2 q3 q4 q5 q6 q7 q8 q9 a5 a34 z6 N6 a6 z7 N7 a7 z4 N4 a4 z35 N35 a35 (nI i) K (if two = true then 1 else 0) (nI l.length) N b) (fun z N b => K (nI (i + 1)) z N b) N l ((if mk i % 2 = 0 then (if two = true ∨ T.tkd i = 56 then [32] else []) ++ (tx i ++ (if two = true ∨ T.tkd i = 56 ∨ T.tkd i = 54 ∨ T.tkd i = 55 then [32] else [])) else []) ++ List.replicate (ex i) 41) := by
  have hbx := hb2 i
  have e56 : (a5 (Int32.toNatClampNeg (nI i)) = 56) = (T.tkd i = 56) := Mo_kd hk (show i < m by omega) (p := 56) (by omega)
  have hmk : (a34 (Int32.toNatClampNeg (nI i)) - a34 (Int32.toNatClampNeg (nI i)) / 2 * 2 = 0) = (mk i % 2 = 0) := by
    rw [nI_clamp' (by omega), h34.2.2 i (by omega)]
    have := hb1 i
    have hc : mk i = 0 ∨ mk i = 1 ∨ mk i = 2 := by omega
    rcases hc with h | h | h <;> (rw [h]; decide)
  unfold F_Mo_sayTokens_98
  simp only [e56, hmk]
  by_cases c : mk i % 2 = 0
  · rw [if_pos c, if_pos c]
    have hsay : GoA (bw (F_Mo_say 83 q1 q2 q3 q4 q5 q6 q7 q8 q9 (nI l.length) N b) fun (r : Int32 × Nat × (Nat → Int32)) => F_Mo_sayTokens_126 q1 q2 q3 q4 q5 q6 q7 q8 q9 a5 z6 N6 a6 z7 N7 a7 z4 N4 a4 z35 N35 a35 (nI i) K (if two = true then 1 else 0) r.1 r.2.1 r.2.2) (fun z N b => K (nI (i + 1)) z N b) N l ([32] ++ (tx i ++ ((if two = true ∨ T.tkd i = 56 ∨ T.tkd i = 54 ∨ T.tkd i = 55 then [32] else []) ++ List.replicate (ex i) 41))) := by
      refine ((Apd.goes (Mo_say (by decide) gB83 (by omega) hv) _).trans (fun N2 b2 v2 => ?_)).cast (w := sW 83 ++ _) (by rw [sW83])
      have hlen : (l ++ sW 83).length = l.length + 1 := by rw [List.length_append, sW83]; rfl
      exact tk126 hk hm h35 hb2 hTk hTl hi (by omega) v2
    have hno := tk126 hk hm h35 hb2 hTk hTl hi (two := two) (K := K) (z35 := z35) (by omega : l.length ≤ 65538) hv
    cases two with
    | true =>
      rw [if_pos rfl] at hsay ⊢
      rw [if_neg (show ¬ (1 : Int32) = 0 by decide), if_pos (show true = true ∨ T.tkd i = 56 from Or.inl rfl)]
      refine hsay.cast ?_
      simp only [List.append_assoc]
    | false =>
      rw [show (if false = true then (1 : Int32) else 0) = 0 from rfl] at hsay hno ⊢
      rw [if_pos rfl]
      by_cases k56 : T.tkd i = 56
      · rw [if_pos k56, if_pos (show false = true ∨ T.tkd i = 56 from Or.inr k56)]
        refine hsay.cast ?_
        simp only [List.append_assoc]
      · rw [if_neg k56, if_neg (show ¬ (false = true ∨ T.tkd i = 56) from fun h => h.elim (fun h => by cases h) k56)]
        refine hno.cast ?_
        simp only [List.append_assoc, List.nil_append]
  · rw [if_neg c, if_neg c, List.nil_append]
    exact tk167 hm h35 hb2 (by omega) (ex i) FU 0 N b _ (Nat.zero_add _) (by unfold FU; omega) (by omega) hv
end Sy
end

section
/-- the lists are the same, or both too long -/
def CutL (l' l : List Int32) : Prop := l' = l ∨ (65536 < l'.length ∧ 65536 < l.length)
theorem CutL.app {l' l : List Int32} (h : CutL l' l) (w : List Int32) : CutL (l' ++ w) (l ++ w) := by
  rcases h with h | ⟨h1, h2⟩
  · exact Or.inl (by rw [h])
  · exact Or.inr ⟨by rw [List.length_append]; omega, by rw [List.length_append]; omega⟩
section Sy
variable {T : Tks} {m N5 N34 N35 : Nat} {a5 a34 a35 : Nat → Int32} {mk ex : Nat → Nat} {tx : Nat → List Int32}
variable {n2 : Nat} {b2 : Nat → Int32}
variable {q1 q2 q3 q4 q5 q6 q7 q8 q9 q0 z6 z7 z4 z34 z35 : Int32} {N6 N7 N4 : Nat} {a6 a7 a4 : Nat → Int32}
theorem tk51 (hk : KdIs m N5 a5 T.tkd) (hm : m ≤ 16385) (hr : RkIs n2 b2) {i p N : Nat} (hi : i < m) (hp : p ≤ m) {K : Int32 → Int32 → Nat → (Nat → Int32) → Option ((Int32 × Nat × (Nat → Int32)) × Nat × Nat)} {b : Nat → Int32} {z : Int32} : F_Mo_sayTokens_51 (nI p) q1 q2 q3 q4 q5 q6 q7 q8 q9 q0 N5 a5 a34 n2 b2 z6 N6 a6 z7 N7 a7 z4 N4 a4 z35 N35 a35 (nI i) K z N b = F_Mo_sayTokens_98 q1 q2 q3 q4 q5 q6 q7 q8 q9 a5 a34 z6 N6 a6 z7 N7 a7 z4 N4 a4 z35 N35 a35 (nI i) K (if bopB T p i = true then 1 else 0) z N b := by
  have hkl := hk.lt i
  have e38 : (a5 (Int32.toNatClampNeg (nI i)) = 38) = (T.tkd i = 38) := Mo_kd hk hi (p := 38) (by omega)
  have hrk : F_Mo_rankOf (a5 (Int32.toNatClampNeg (nI i))) q1 q2 q3 q4 q5 q6 q7 q8 q9 n2 b2 = some (nI (rkM (T.tkd i))) := by
    rw [Mo_a5 hk hi]
    exact Mo_rank hr hkl
  have hle : rkM (T.tkd i) ≤ 8 := by
    unfold rkM
    split
    · omega
    · have : ∀ j, j < 27 → rkL.getD j 0 ≤ 8 := by decide
      exact this _ (by omega)
  have no : bopB T p i = false → (if bopB T p i = true then (1 : Int32) else 0) = 0 := fun h => by rw [h]; rfl
  unfold F_Mo_sayTokens_51
  rw [hrk, Option.bind_some]
  simp only [e38]
  by_cases c1 : rkM (T.tkd i) = 0
  · rw [if_pos (show nI (rkM (T.tkd i)) ≤ 0 by rw [c1]; decide), no (bopB_k (Or.inl c1))]
  · rw [if_neg (show ¬ nI (rkM (T.tkd i)) ≤ 0 by rw [show (0 : Int32) = nI 0 from Eq.refl _, nI_le' (by omega) (by omega)]; omega), Option.bind_some]
    by_cases c2 : 8 ≤ rkM (T.tkd i)
    · rw [if_pos (show (8 : Int32) ≤ nI (rkM (T.tkd i)) by rw [show (8 : Int32) = nI 8 from Eq.refl _, nI_le' (by omega) (by omega)]; omega), no (bopB_k (Or.inr (Or.inl c2)))]
    · rw [if_neg (show ¬ (8 : Int32) ≤ nI (rkM (T.tkd i)) by rw [show (8 : Int32) = nI 8 from Eq.refl _, nI_le' (by omega) (by omega)]; omega)]
      by_cases c3 : T.tkd i = 38
      · rw [if_pos c3, no (bopB_k (Or.inr (Or.inr (Or.inl c3))))]
      · rw [if_neg c3]
        by_cases c4 : i ≤ p
        · rw [if_pos (show nI i ≤ nI p by rw [nI_le' (by omega) (by omega)]; exact c4), no (bopB_k (Or.inr (Or.inr (Or.inr (Or.inr c4)))))]
        · rw [if_neg (show ¬ nI i ≤ nI p by rw [nI_le' (by omega) (by omega)]; exact c4), show nI i - 1 = nI (i - 1) by rw [show (1 : Int32) = nI 1 from Eq.refl _, nI_sub' (by omega)]]
          by_cases c5 : eO (T.tkd (i - 1))
          · rw [Mo_eO1 hk (by omega) c5, Option.bind_some, if_neg (show ¬ (1 : Int32) = 0 by decide), (bopB_iff T p i).mpr ⟨by omega, by omega, c3, by omega, c5⟩, if_pos rfl]
          · rw [Mo_eO0 hk (by omega) c5, Option.bind_some, if_pos rfl, no (bopB_k (Or.inr (Or.inr (Or.inr (Or.inl c5)))))]
/-- one token -/
theorem tk2 (hk : KdIs m N5 a5 T.tkd) (hm : m ≤ 16385) (h34 : MkIs m N34 a34 mk) (h35 : MkIs m N35 a35 ex) (hb1 : ∀ i, mk i ≤ 2) (hb2 : ∀ i, ex i ≤ 17000) (hr : RkIs n2 b2) (hTk : ∀ i, i + 1 < m → ∀ N b l, l.length + 65536 < 2 ^ 18 → VecB N b l → Apd (F_Mo_sayToken (nI i) q1 q2 q3 q4 q5 q6 q7 q8 q9 z6 N6 a6 z7 N7 a7 z4 N4 a4 (nI l.length) N b) N l (tx i)) (hTl : ∀ i, i + 1 < m → (tx i).length ≤ 65536) {i p q fu N : Nat} (hi : i < q) (hq : q + 1 ≤ m) (hp : p ≤ m) {b : Nat → Int32} {l : List Int32} (hl : l.length ≤ 65536) (hv : VecB N b l) : GoA (F_Mo_sayTokens_2 (nI p) (nI q) q1 q2 q3 q4 q5 q6 q7 q8 q9 q0 N5 a5 z34 N34 a34 n2 b2 z6 N6 a6 z7 N7 a7 z4 N4 a4 z35 N35 a35 (fu + 1) (nI i) (nI l.length) N b) (fun z N b => F_Mo_sayTokens_2 (nI p) (nI q) q1 q2 q3 q4 q5 q6 q7 q8 q9 q0 N5 a5 z34 N34 a34 n2 b2 z6 N6 a6 z7 N7 a7 z4 N4 a4 z35 N35 a35 fu (nI (i + 1)) z N b) N l (sayT T tx p mk ex i) := by
  have h341 := h34.1; have h342 := h34.2.1
  have hmk := hb1 i
  have key : ∀ N1 b1 l1, l1.length ≤ 65537 → VecB N1 b1 l1 → GoA (F_Mo_sayTokens_51 (nI p) q1 q2 q3 q4 q5 q6 q7 q8 q9 q0 N5 a5 a34 n2 b2 z6 N6 a6 z7 N7 a7 z4 N4 a4 z35 N35 a35 (nI i) (F_Mo_sayTokens_2 (nI p) (nI q) q1 q2 q3 q4 q5 q6 q7 q8 q9 q0 N5 a5 z34 N34 a34 n2 b2 z6 N6 a6 z7 N7 a7 z4 N4 a4 z35 N35 a35 fu) (nI l1.length) N1 b1) (fun z N b => F_Mo_sayTokens_2 (nI p) (nI q) q1 q2 q3 q4 q5 q6 q7 q8 q9 q0 N5 a5 z34 N34 a34 n2 b2 z6 N6 a6 z7 N7 a7 z4 N4 a4 z35 N35 a35 fu (nI (i + 1)) z N b) N1 l1 ((if mk i % 2 = 0 then spB T p i ++ tx i ++ spA T p i else []) ++ List.replicate (ex i) 41) := by
    intro N1 b1 l1 hl1 hv1
    rw [tk51 hk hm hr (by omega) hp]
    refine (tk98 hk (by omega) h34 h35 hb1 hb2 hTk hTl (by omega) (two := bopB T p i) hl1 hv1).cast ?_
    rw [show spB T p i = if bopB T p i = true ∨ T.tkd i = 56 then [32] else [] from rfl, show spA T p i = if bopB T p i = true ∨ T.tkd i = 56 ∨ T.tkd i = 54 ∨ T.tkd i = 55 then [32] else [] from rfl, List.append_assoc (if bopB T p i = true ∨ T.tkd i = 56 then [32] else [])]
  rw [F_Mo_sayTokens_2, if_neg (show ¬ nI q ≤ nI i by rw [nI_le' (by omega) (by omega)]; omega), if_neg (show ¬ (65536 : Int32) < nI l.length by rw [show (65536 : Int32) = nI 65536 from Eq.refl _, nI_lt' (by omega) (by omega)]; omega), Mo_at hk (by omega), Option.bind_some, Nm_at (by omega) (by omega), Option.bind_some, nI_clamp' (by omega), h34.2.2 i (by omega)]
  by_cases c : 2 ≤ mk i
  · rw [if_neg (show ¬ nI (mk i) ≤ 1 by rw [show (1 : Int32) = nI 1 from Eq.refl _, nI_le' (by omega) (by omega)]; omega)]
    refine ((Apd.goes (Mo_say (by decide) gB74 (by omega) hv) _).trans (fun N1 b1 v1 => ?_)).cast (w := sW 74 ++ ((if mk i % 2 = 0 then spB T p i ++ tx i ++ spA T p i else []) ++ List.replicate (ex i) 41)) (by
      unfold sayT
      rw [sW74, if_pos c]
      simp only [List.append_assoc])
    have hlen : (l ++ sW 74).length = l.length + 1 := by rw [List.length_append, sW74]; rfl
    exact key N1 b1 _ (by omega) v1
  · rw [if_pos (show nI (mk i) ≤ 1 by rw [show (1 : Int32) = nI 1 from Eq.refl _, nI_le' (by omega) (by omega)]; omega)]
    refine (key N b l (by omega) hv).cast ?_
    unfold sayT
    rw [if_neg c, List.nil_append]
/-- F ends with the list l', which is l or both are too long -/
def EndL (F : Option ((Int32 × Nat × (Nat → Int32)) × Nat × Nat)) (N B : Nat) (l : List Int32) : Prop := ∃ l' N' b' c s, CutL l' l ∧ l'.length ≤ B ∧ VecB N' b' l' ∧ Grow N N' c s ∧ F = some ((nI l'.length, N', b'), c, s)
theorem sayT_len {i p : Nat} (h1 : (tx i).length ≤ 65536) (h2 : ex i ≤ 17000) : (sayT T tx p mk ex i).length ≤ 82540 := by
  have e1 : (spB T p i).length ≤ 1 := by unfold spB; split <;> decide
  have e2 : (spA T p i).length ≤ 1 := by unfold spA; split <;> decide
  have e3 : (if 2 ≤ mk i then ([40] : List Int32) else []).length ≤ 1 := by split <;> decide
  have e4 : (if mk i % 2 = 0 then spB T p i ++ tx i ++ spA T p i else []).length ≤ 65538 := by
    split
    · rw [List.length_append, List.length_append]; omega
    · exact Nat.zero_le _
  unfold sayT
  rw [List.length_append, List.length_append, List.length_replicate]
  omega
/-- tokens -/
theorem tkL (hk : KdIs m N5 a5 T.tkd) (hm : m ≤ 16385) (h34 : MkIs m N34 a34 mk) (h35 : MkIs m N35 a35 ex) (hb1 : ∀ i, mk i ≤ 2) (hb2 : ∀ i, ex i ≤ 17000) (hr : RkIs n2 b2) (hTk : ∀ i, i + 1 < m → ∀ N b l, l.length + 65536 < 2 ^ 18 → VecB N b l → Apd (F_Mo_sayToken (nI i) q1 q2 q3 q4 q5 q6 q7 q8 q9 z6 N6 a6 z7 N7 a7 z4 N4 a4 (nI l.length) N b) N l (tx i)) (hTl : ∀ i, i + 1 < m → (tx i).length ≤ 65536) {p q : Nat} (hq : q + 1 ≤ m) (hp : p ≤ m) : ∀ (r fu i N : Nat) (b : Nat → Int32) (l : List Int32), i + r = q → r < fu → l.length ≤ 200000 → VecB N b l → EndL (F_Mo_sayTokens_2 (nI p) (nI q) q1 q2 q3 q4 q5 q6 q7 q8 q9 q0 N5 a5 z34 N34 a34 n2 b2 z6 N6 a6 z7 N7 a7 z4 N4 a4 z35 N35 a35 fu (nI i) (nI l.length) N b) N 200000 (l ++ Say T tx p mk ex i q)
  | 0, fu + 1, i, N, b, l, hi, hf, hl, hv => by
    have hi : i = q := hi
    subst hi
    refine ⟨l, N, b, 0, 0, Or.inl (by rw [Say.nil, List.append_nil]), hl, hv, Grow.rfl, ?_⟩
    rw [F_Mo_sayTokens_2, if_pos (show nI i ≤ nI i by rw [nI_le' (by omega) (by omega)]; omega)]
  | r + 1, fu + 1, i, N, b, l, hi, hf, hl, hv => by
    by_cases c : 65536 < l.length
    · refine ⟨l, N, b, 0, 0, Or.inr ⟨c, by rw [List.length_append]; omega⟩, hl, hv, Grow.rfl, ?_⟩
      rw [F_Mo_sayTokens_2, if_neg (show ¬ nI q ≤ nI i by rw [nI_le' (by omega) (by omega)]; omega), if_pos (show (65536 : Int32) < nI l.length by rw [show (65536 : Int32) = nI 65536 from Eq.refl _, nI_lt' (by omega) (by omega)]; omega)]
    · obtain ⟨N1, b1, c1, s1, v1, g1, e1⟩ := tk2 hk hm h34 h35 hb1 hb2 hr hTk hTl (i := i) (p := p) (q := q) (fu := fu) (q0 := q0) (z34 := z34) (z35 := z35) (by omega) hq hp (by omega) hv
      have hlen := sayT_len (T := T) (mk := mk) (p := p) (hTl i (by omega)) (hb2 i)
      obtain ⟨l', N2, b2', c2, s2, k1, k2, k3, k4, k5⟩ := tkL hk hm h34 h35 hb1 hb2 hr hTk hTl hq hp r fu (i + 1) N1 b1 _ (by omega) (by omega) (by rw [List.length_append]; omega) v1
      refine ⟨l', N2, b2', c1 + c2, s1 + s2, ?_, k2, k3, g1.trans k4, e1 _ _ _ k5⟩
      rw [Say.cons (by omega), ← List.append_assoc]
      exact k1
end Sy
end

section
/-- F ends at token q with the list l', which is l or both are too long -/
def EndQ (F : Option ((Int32 × Int32 × Nat × (Nat → Int32)) × Nat × Nat)) (N B q : Nat) (l : List Int32) : Prop := ∃ l' N' b' c s, CutL l' l ∧ l'.length ≤ B ∧ VecB N' b' l' ∧ Grow N N' c s ∧ F = some ((nI q, nI l'.length, N', b'), c, s)
section Sy
variable {T : Tks} {m N5 N34 N35 : Nat} {a5 a34 a35 : Nat → Int32} {mk ex : Nat → Nat} {tx : Nat → List Int32}
variable {n2 : Nat} {b2 : Nat → Int32}
variable {q1 q2 q3 q4 q5 q6 q7 q8 q9 q0 z6 z7 z4 z34 z35 : Int32} {N6 N7 N4 : Nat} {a6 a7 a4 : Nat → Int32}
/-- indent -/
theorem Mo_ind2 {d : Nat} (hd : d ≤ 17000) : ∀ (r fu k N : Nat) (b : Nat → Int32) (l : List Int32), k + r = d → r < fu → l.length + 2 * r + 100 < 2 ^ 18 → VecB N b l → Apd (F_Mo_indent_2 (nI d) q1 q2 q3 q4 q5 q6 q7 q8 q9 fu (nI k) (nI l.length) N b) N l (indW r)
  | 0, fu + 1, k, N, b, l, hk, hf, hl, hv => by
    refine ⟨N, b, 0, 0, by rw [indW, List.append_nil]; exact hv, Grow.rfl, ?_⟩
    rw [F_Mo_indent_2, if_pos (show nI d ≤ nI k by rw [nI_le' (by omega) (by omega)]; omega), indW, List.append_nil]
  | r + 1, fu + 1, k, N, b, l, hk, hf, hl, hv => by
    obtain ⟨N1, b1, c1, s1, v1, g1, e1⟩ := Mo_say (q1 := q1) (q2 := q2) (q3 := q3) (q4 := q4) (q5 := q5) (q6 := q6) (q7 := q7) (q8 := q8) (q9 := q9) (i := 81) (by decide) gB81 (by omega) hv
    have hlen : (l ++ sW 81).length = l.length + 2 := by rw [List.length_append, sW81]; rfl
    obtain ⟨N2, b2, c2, s2, v2, g2, e2⟩ := Mo_ind2 hd r fu (k + 1) N1 b1 _ (by omega) (by omega) (by omega) v1
    rw [List.append_assoc] at v2 e2
    refine ⟨N2, b2, c1 + c2, s1 + s2, v2, g1.trans g2, ?_⟩
    rw [F_Mo_indent_2, if_neg (show ¬ nI d ≤ nI k by rw [nI_le' (by omega) (by omega)]; omega)]
    refine bw_ok e1 ?_
    dsimp only
    rw [show nI k + 1 = nI (k + 1) from nI_add' k 1]
    exact e2
theorem indW_len : ∀ d, (indW d).length = 2 * d
  | 0 => rfl
  | d + 1 => by rw [indW, List.length_append, sW81, indW_len d]; show 2 + 2 * d = _; omega
theorem Mo_ind {d N : Nat} {b : Nat → Int32} {l : List Int32} (hd : d ≤ 17000) (hl : l.length ≤ 70000) (hv : VecB N b l) : Apd (F_Mo_indent (nI d) q1 q2 q3 q4 q5 q6 q7 q8 q9 (nI l.length) N b) N l (indW d) :=
  Mo_ind2 hd d FU 0 N b l (Nat.zero_add _) (by unfold FU; omega) (by omega) hv
theorem ln33 (hTk : ∀ i, i + 1 < m → ∀ N b l, l.length + 65536 < 2 ^ 18 → VecB N b l → Apd (F_Mo_sayToken (nI i) q1 q2 q3 q4 q5 q6 q7 q8 q9 z6 N6 a6 z7 N7 a7 z4 N4 a4 (nI l.length) N b) N l (tx i)) (hTl : ∀ i, i + 1 < m → (tx i).length ≤ 65536) {p N : Nat} {b : Nat → Int32} {l : List Int32} (hp : p + 1 < m) (hl : l.length ≤ 105000) (hv : VecB N b l) : EndQ (F_Mo_sayLine_33 (nI p) q1 q2 q3 q4 q5 q6 q7 q8 q9 z6 N6 a6 z7 N7 a7 z4 N4 a4 (nI l.length) N b) N 200100 (p + 1) (l ++ (tx p ++ sW 82)) := by
  obtain ⟨N1, b1, c1, s1, v1, g1, e1⟩ := hTk p hp N b l (by omega) hv
  have htl := hTl p hp
  have hl1 : (l ++ tx p).length = l.length + (tx p).length := List.length_append
  obtain ⟨N2, b2, c2, s2, v2, g2, e2⟩ := Mo_say (q1 := q1) (q2 := q2) (q3 := q3) (q4 := q4) (q5 := q5) (q6 := q6) (q7 := q7) (q8 := q8) (q9 := q9) (i := 82) (by decide) gB82 (by omega) v1
  have hl2 : ((l ++ tx p) ++ sW 82).length = (l ++ tx p).length + 1 := by rw [List.length_append (as := l ++ tx p), sW82]; rfl
  refine ⟨(l ++ tx p) ++ sW 82, N2, b2, c1 + (c2 + 0), s1 + (s2 + 0), Or.inl (List.append_assoc ..), by omega, v2, g1.trans g2, ?_⟩
  unfold F_Mo_sayLine_33
  refine bw_ok e1 (bw_ok e2 ?_)
  dsimp only
  rw [show nI p + 1 = nI (p + 1) from nI_add' p 1]
theorem ln178 (hk : KdIs m N5 a5 T.tkd) (hT : TkOK T m) (h34 : MkIs m N34 a34 mk) (h35 : MkIs m N35 a35 ex) (hb1 : ∀ i, mk i ≤ 2) (hb2 : ∀ i, ex i ≤ 17000) (hr : RkIs n2 b2) (hTk : ∀ i, i + 1 < m → ∀ N b l, l.length + 65536 < 2 ^ 18 → VecB N b l → Apd (F_Mo_sayToken (nI i) q1 q2 q3 q4 q5 q6 q7 q8 q9 z6 N6 a6 z7 N7 a7 z4 N4 a4 (nI l.length) N b) N l (tx i)) (hTl : ∀ i, i + 1 < m → (tx i).length ≤ 65536) {p q N : Nat} {b : Nat → Int32} {l : List Int32} (hpq : p ≤ q) (hq : q + 1 ≤ m) (hl : l.length ≤ 200000) (hv : VecB N b l) : EndQ (F_Mo_sayLine_178 q1 q2 q3 q4 q5 q6 q7 q8 q9 q0 N5 a5 z6 N6 a6 z7 N7 a7 z4 N4 a4 z34 N34 a34 n2 b2 z35 N35 a35 (nI p) (nI q) (nI l.length) N b) N 200100 (q + 1) (l ++ (Say T tx p mk ex p q ++ sW 84)) := by
  have hle := hT.le
  obtain ⟨l1, N1, b1, c1, s1, k1, k2, k3, k4, k5⟩ := tkL hk hle h34 h35 hb1 hb2 hr hTk hTl (q0 := q0) (z34 := z34) (z35 := z35) (p := p) (q := q) hq (by omega) (q - p) FU p N b l (by omega) (by unfold FU; omega) hl hv
  obtain ⟨N2, b2', c2, s2, v2, g2, e2⟩ := Mo_say (q1 := q1) (q2 := q2) (q3 := q3) (q4 := q4) (q5 := q5) (q6 := q6) (q7 := q7) (q8 := q8) (q9 := q9) (i := 84) (by decide) gB84 (by omega) k3
  have hl2 : (l1 ++ sW 84).length = l1.length + 2 := by rw [List.length_append, sW84]; rfl
  refine ⟨l1 ++ sW 84, N2, b2', c1 + (c2 + 0), s1 + (s2 + 0), ?_, by omega, v2, k4.trans g2, ?_⟩
  · rw [← List.append_assoc]
    exact k1.app _
  · unfold F_Mo_sayLine_178 F_Mo_sayTokens
    refine bw_ok k5 (bw_ok e2 ?_)
    dsimp only
    rw [show nI q + 1 = nI (q + 1) from nI_add' q 1]
theorem ln161 (hk : KdIs m N5 a5 T.tkd) (hT : TkOK T m) (h34 : MkIs m N34 a34 mk) (h35 : MkIs m N35 a35 ex) (hb1 : ∀ i, mk i ≤ 2) (hb2 : ∀ i, ex i ≤ 17000) (hr : RkIs n2 b2) (hTk : ∀ i, i + 1 < m → ∀ N b l, l.length + 65536 < 2 ^ 18 → VecB N b l → Apd (F_Mo_sayToken (nI i) q1 q2 q3 q4 q5 q6 q7 q8 q9 z6 N6 a6 z7 N7 a7 z4 N4 a4 (nI l.length) N b) N l (tx i)) (hTl : ∀ i, i + 1 < m → (tx i).length ≤ 65536) {p q N : Nat} {b : Nat → Int32} {l : List Int32} (hpq : p + 1 ≤ q) (hq : q + 1 ≤ m) (hl : l.length ≤ 105000) (hv : VecB N b l) : EndQ (F_Mo_sayLine_161 (nI p) q1 q2 q3 q4 q5 q6 q7 q8 q9 q0 N5 a5 z6 N6 a6 z7 N7 a7 z4 N4 a4 (nI l.length) N b z34 N34 a34 n2 b2 z35 N35 a35 (nI q)) N 200100 (q + 1) (l ++ (tx p ++ (sW 83 ++ (Say T tx (p + 1) mk ex (p + 1) q ++ sW 84)))) := by
  obtain ⟨N1, b1, c1, s1, v1, g1, e1⟩ := hTk p (by omega) N b l (by omega) hv
  have htl := hTl p (by omega)
  have hl1 : (l ++ tx p).length = l.length + (tx p).length := List.length_append
  obtain ⟨N2, b2', c2, s2, v2, g2, e2⟩ := Mo_say (q1 := q1) (q2 := q2) (q3 := q3) (q4 := q4) (q5 := q5) (q6 := q6) (q7 := q7) (q8 := q8) (q9 := q9) (i := 83) (by decide) gB83 (by omega) v1
  have hl2 : ((l ++ tx p) ++ sW 83).length = (l ++ tx p).length + 1 := by rw [List.length_append (as := l ++ tx p), sW83]; rfl
  obtain ⟨l3, N3, b3, c3, s3, k1, k2, k3, k4, k5⟩ := ln178 hk hT h34 h35 hb1 hb2 hr hTk hTl (q0 := q0) (z34 := z34) (z35 := z35) hpq hq (by omega) v2
  refine ⟨l3, N3, b3, c1 + (c2 + c3), s1 + (s2 + s3), ?_, k2, k3, g1.trans (g2.trans k4), ?_⟩
  · simp only [List.append_assoc] at k1 ⊢
    exact k1
  · unfold F_Mo_sayLine_161
    refine bw_ok e1 (bw_ok e2 ?_)
    dsimp only
    rw [show nI p + 1 = nI (p + 1) from nI_add' p 1]
    exact k5
theorem ln106 (hk : KdIs m N5 a5 T.tkd) (hT : TkOK T m) (h34 : MkIs m N34 a34 mk) (h35 : MkIs m N35 a35 ex) (hb1 : ∀ i, mk i ≤ 2) (hb2 : ∀ i, ex i ≤ 17000) (hr : RkIs n2 b2) (hTk : ∀ i, i + 1 < m → ∀ N b l, l.length + 65536 < 2 ^ 18 → VecB N b l → Apd (F_Mo_sayToken (nI i) q1 q2 q3 q4 q5 q6 q7 q8 q9 z6 N6 a6 z7 N7 a7 z4 N4 a4 (nI l.length) N b) N l (tx i)) (hTl : ∀ i, i + 1 < m → (tx i).length ≤ 65536) {p c N : Nat} {b : Nat → Int32} {l : List Int32} (hpq : p + 1 ≤ c) (hq : c + 2 ≤ m) (hl : l.length ≤ 105000) (hv : VecB N b l) : EndQ (F_Mo_sayLine_106 (nI p) q1 q2 q3 q4 q5 q6 q7 q8 q9 q0 N5 a5 z6 N6 a6 z7 N7 a7 z4 N4 a4 (nI l.length) N b z34 N34 a34 n2 b2 z35 N35 a35 (nI c)) N 200100 (c + 1) (l ++ (tx p ++ (sW 83 ++ (Say T tx (p + 1) mk ex (p + 1) (c + 1) ++ sW 82)))) := by
  have hle := hT.le
  obtain ⟨N1, b1, c1, s1, v1, g1, e1⟩ := hTk p (by omega) N b l (by omega) hv
  have htl := hTl p (by omega)
  have hl1 : (l ++ tx p).length = l.length + (tx p).length := List.length_append
  obtain ⟨N2, b2', c2, s2, v2, g2, e2⟩ := Mo_say (q1 := q1) (q2 := q2) (q3 := q3) (q4 := q4) (q5 := q5) (q6 := q6) (q7 := q7) (q8 := q8) (q9 := q9) (i := 83) (by decide) gB83 (by omega) v1
  have hl2 : ((l ++ tx p) ++ sW 83).length = (l ++ tx p).length + 1 := by rw [List.length_append (as := l ++ tx p), sW83]; rfl
  obtain ⟨l3, N3, b3, c3, s3, k1, k2, k3, k4, k5⟩ := tkL hk hle h34 h35 hb1 hb2 hr hTk hTl (q0 := q0) (z34 := z34) (z35 := z35) (p := p + 1) (q := c + 1) (by omega) (by omega) (c - p) FU (p + 1) N2 b2' _ (by omega) (by unfold FU; omega) (by omega) v2
  obtain ⟨N4', b4, c4, s4, v4, g4, e4⟩ := Mo_say (q1 := q1) (q2 := q2) (q3 := q3) (q4 := q4) (q5 := q5) (q6 := q6) (q7 := q7) (q8 := q8) (q9 := q9) (i := 82) (by decide) gB82 (by omega) k3
  have hl4 : (l3 ++ sW 82).length = l3.length + 1 := by rw [List.length_append, sW82]; rfl
  refine ⟨l3 ++ sW 82, N4', b4, c1 + (c2 + (c3 + (c4 + 0))), s1 + (s2 + (s3 + (s4 + 0))), ?_, by omega, v4, g1.trans (g2.trans (k4.trans g4)), ?_⟩
  · have := k1.app (sW 82)
    simp only [List.append_assoc] at this ⊢
    exact this
  · unfold F_Mo_sayLine_106 F_Mo_sayTokens
    refine bw_ok e1 (bw_ok e2 ?_)
    dsimp only
    rw [show nI p + 1 = nI (p + 1) from nI_add' p 1, show nI c + 1 = nI (c + 1) from nI_add' c 1]
    refine bw_ok k5 (bw_ok e4 ?_)
    rfl
theorem FHd.cl {a nm' c : Nat} {R Q : Tr Lb} (h : FHd T a nm' c R Q) (hc : c + 1 < 2 ^ 17) : clos T.tkd FU (nm' + 1) 0 = some c := by
  obtain ⟨f1, f2, f3, f4, n, f5, f6, f7⟩ := h
  have hly : Lay T.tkd (nm' + 1 + 1) c := by
    match n, f5, f6 with
    | 0, _, hcn => rw [if_pos rfl] at hcn; subst hcn; exact Lay.nil
    | n + 1, hQ, hcn =>
      rw [if_neg (by omega)] at hcn
      have := hQ.lay
      rw [show nm' + 2 + 2 * n + 1 = c by omega] at this
      exact this
  exact Lay.cl (Or.inl f4) hly (Or.inl f7) hc
/-- a line: its indent and the rest of it -/
theorem Mo_ln (hk : KdIs m N5 a5 T.tkd) (hT : TkOK T m) (h34 : MkIs m N34 a34 mk) (h35 : MkIs m N35 a35 ex) (hb1 : ∀ i, mk i ≤ 2) (hb2 : ∀ i, ex i ≤ 17000) (hr : RkIs n2 b2) (hTk : ∀ i, i + 1 < m → ∀ N b l, l.length + 65536 < 2 ^ 18 → VecB N b l → Apd (F_Mo_sayToken (nI i) q1 q2 q3 q4 q5 q6 q7 q8 q9 z6 N6 a6 z7 N7 a7 z4 N4 a4 (nI l.length) N b) N l (tx i)) (hTl : ∀ i, i + 1 < m → (tx i).length ≤ 65536) {p d q e N : Nat} {w : List Int32} {b : Nat → Int32} {l : List Int32} (h : Ln T tx mk ex p d q e w) (hq : q + 1 ≤ m) (hl : l.length ≤ 105000) (hv : VecB N b l) : ∃ d0 v, w = indW d0 ++ v ∧ ((T.tkd p = 12 ∨ T.tkd p = 11 ∨ T.tkd p = 23 ∨ T.tkd p = 13) → d = d0 + 1) ∧ (¬ (T.tkd p = 12 ∨ T.tkd p = 11 ∨ T.tkd p = 23 ∨ T.tkd p = 13) → d = d0) ∧ (((opb (T.tkd p) ∨ T.tkd p = 12 ∨ T.tkd p = 11 ∨ T.tkd p = 23) → e = d0 + 1) ∧ (¬ (opb (T.tkd p) ∨ T.tkd p = 12 ∨ T.tkd p = 11 ∨ T.tkd p = 23) → e = d0)) ∧ EndQ (F_Mo_sayLine (nI p) q1 q2 q3 q4 q5 q6 q7 q8 q9 q0 N5 a5 z6 N6 a6 z7 N7 a7 z4 N4 a4 (nI l.length) N b z34 N34 a34 n2 b2 z35 N35 a35) N 200100 q (l ++ v) := by
  have hle := hT.le
  have ek : ∀ k, k < 57 → p < m → (a5 (Int32.toNatClampNeg (nI p)) = nI k) = (T.tkd p = k) := fun k hk' hp => Mo_kd hk hp hk'
  have main : p < m → ∀ v, ((T.tkd p = 12 ∨ T.tkd p = 22 ∨ T.tkd p = 23 ∨ T.tkd p = 13) → EndQ (F_Mo_sayLine_33 (nI p) q1 q2 q3 q4 q5 q6 q7 q8 q9 z6 N6 a6 z7 N7 a7 z4 N4 a4 (nI l.length) N b) N 200100 q (l ++ v)) → (T.tkd p = 19 → ∃ nm', F_Mo_nameOf (nI p) q1 q2 q3 q4 q5 q6 q7 q8 q9 q0 N5 a5 = some (nI nm') ∧ ∃ c, F_Mo_closing (nI (nm' + 1)) q1 q2 q3 q4 q5 q6 q7 q8 q9 q0 N5 a5 = some (nI c) ∧ EndQ (F_Mo_sayLine_106 (nI p) q1 q2 q3 q4 q5 q6 q7 q8 q9 q0 N5 a5 z6 N6 a6 z7 N7 a7 z4 N4 a4 (nI l.length) N b z34 N34 a34 n2 b2 z35 N35 a35 (nI c)) N 200100 q (l ++ v)) → ((T.tkd p = 10 ∨ T.tkd p = 11 ∨ T.tkd p = 14 ∨ T.tkd p = 15) → ∃ c, F_Mo_closing (nI (p + 1)) q1 q2 q3 q4 q5 q6 q7 q8 q9 q0 N5 a5 = some (nI c) ∧ EndQ (F_Mo_sayLine_106 (nI p) q1 q2 q3 q4 q5 q6 q7 q8 q9 q0 N5 a5 z6 N6 a6 z7 N7 a7 z4 N4 a4 (nI l.length) N b z34 N34 a34 n2 b2 z35 N35 a35 (nI c)) N 200100 q (l ++ v)) → (¬ stB (T.tkd p) → ¬ opb (T.tkd p) → ∃ c, F_Mo_stopOf (nI p) q1 q2 q3 q4 q5 q6 q7 q8 q9 q0 N5 a5 = some (nI c) ∧ ((T.tkd p = 20 ∨ T.tkd p = 21) → EndQ (F_Mo_sayLine_161 (nI p) q1 q2 q3 q4 q5 q6 q7 q8 q9 q0 N5 a5 z6 N6 a6 z7 N7 a7 z4 N4 a4 (nI l.length) N b z34 N34 a34 n2 b2 z35 N35 a35 (nI c)) N 200100 q (l ++ v)) ∧ (T.tkd p ≠ 20 → T.tkd p ≠ 21 → EndQ (F_Mo_sayLine_178 q1 q2 q3 q4 q5 q6 q7 q8 q9 q0 N5 a5 z6 N6 a6 z7 N7 a7 z4 N4 a4 z34 N34 a34 n2 b2 z35 N35 a35 (nI p) (nI c) (nI l.length) N b) N 200100 q (l ++ v))) → EndQ (F_Mo_sayLine (nI p) q1 q2 q3 q4 q5 q6 q7 q8 q9 q0 N5 a5 z6 N6 a6 z7 N7 a7 z4 N4 a4 (nI l.length) N b z34 N34 a34 n2 b2 z35 N35 a35) N 200100 q (l ++ v) := by
    intro hp v m1 m2 m3 m4
    have e12 := ek 12 (by omega) hp; have e22 := ek 22 (by omega) hp; have e23 := ek 23 (by omega) hp; have e13 := ek 13 (by omega) hp; have e19 := ek 19 (by omega) hp; have e10 := ek 10 (by omega) hp; have e11 := ek 11 (by omega) hp; have e14 := ek 14 (by omega) hp; have e15 := ek 15 (by omega) hp; have e20 := ek 20 (by omega) hp; have e21 := ek 21 (by omega) hp
    have e12 : (a5 (Int32.toNatClampNeg (nI p)) = 12) = (T.tkd p = 12) := e12
    have e22 : (a5 (Int32.toNatClampNeg (nI p)) = 22) = (T.tkd p = 22) := e22
    have e23 : (a5 (Int32.toNatClampNeg (nI p)) = 23) = (T.tkd p = 23) := e23
    have e13 : (a5 (Int32.toNatClampNeg (nI p)) = 13) = (T.tkd p = 13) := e13
    have e19 : (a5 (Int32.toNatClampNeg (nI p)) = 19) = (T.tkd p = 19) := e19
    have e10 : (a5 (Int32.toNatClampNeg (nI p)) = 10) = (T.tkd p = 10) := e10
    have e11 : (a5 (Int32.toNatClampNeg (nI p)) = 11) = (T.tkd p = 11) := e11
    have e14 : (a5 (Int32.toNatClampNeg (nI p)) = 14) = (T.tkd p = 14) := e14
    have e15 : (a5 (Int32.toNatClampNeg (nI p)) = 15) = (T.tkd p = 15) := e15
    have e20 : (a5 (Int32.toNatClampNeg (nI p)) = 20) = (T.tkd p = 20) := e20
    have e21 : (a5 (Int32.toNatClampNeg (nI p)) = 21) = (T.tkd p = 21) := e21
    have f79 : (T.tkd p = 19 ∨ T.tkd p = 10 ∨ T.tkd p = 11 ∨ T.tkd p = 14 ∨ T.tkd p = 15) → EndQ (F_Mo_sayLine_79 (nI p) q1 q2 q3 q4 q5 q6 q7 q8 q9 q0 N5 a5 z6 N6 a6 z7 N7 a7 z4 N4 a4 (nI l.length) N b z34 N34 a34 n2 b2 z35 N35 a35) N 200100 q (l ++ v) := by
      intro hh
      unfold F_Mo_sayLine_79
      simp only [e19]
      by_cases c : T.tkd p = 19
      · obtain ⟨nm', n1, cc, n2, n3⟩ := m2 c
        rw [if_pos c, n1, Option.bind_some, show nI nm' + 1 = nI (nm' + 1) from nI_add' _ 1, n2, Option.bind_some]
        exact n3
      · obtain ⟨cc, n2, n3⟩ := m3 (by omega)
        rw [if_neg c, show nI p + 1 = nI (p + 1) from nI_add' _ 1, n2, Option.bind_some]
        exact n3
    unfold F_Mo_sayLine
    rw [Mo_at hk hp, Option.bind_some]
    simp only [e12, e22, e23, e13, e19, e10, e11, e14, e15, e20, e21]
    by_cases c1 : T.tkd p = 12
    · rw [if_pos c1]; exact m1 (by omega)
    rw [if_neg c1]
    by_cases c2 : T.tkd p = 22
    · rw [if_pos c2]; exact m1 (by omega)
    rw [if_neg c2]
    by_cases c3 : T.tkd p = 23
    · rw [if_pos c3]; exact m1 (by omega)
    rw [if_neg c3]
    by_cases c4 : T.tkd p = 13
    · rw [if_pos c4]; exact m1 (by omega)
    rw [if_neg c4]
    by_cases c5 : T.tkd p = 19
    · rw [if_pos c5]; exact f79 (by omega)
    rw [if_neg c5]
    by_cases c6 : T.tkd p = 10
    · rw [if_pos c6]; exact f79 (by omega)
    rw [if_neg c6]
    by_cases c7 : T.tkd p = 11
    · rw [if_pos c7]; exact f79 (by omega)
    rw [if_neg c7]
    by_cases c8 : T.tkd p = 14
    · rw [if_pos c8]; exact f79 (by omega)
    rw [if_neg c8]
    by_cases c9 : T.tkd p = 15
    · rw [if_pos c9]; exact f79 (by omega)
    rw [if_neg c9]
    obtain ⟨c, n1, n2', n3⟩ := m4 (by unfold stB; omega) (by unfold opb; omega)
    rw [n1, Option.bind_some]
    by_cases c10 : T.tkd p = 20
    · rw [if_pos c10]; exact n2' (by omega)
    rw [if_neg c10]
    by_cases c11 : T.tkd p = 21
    · rw [if_pos c11]; exact n2' (by omega)
    rw [if_neg c11]
    exact n3 c10 c11
  have hstop : ∀ c, T.tkd c = 55 → p < c → c + 2 ≤ m → Lay T.tkd p c → (∀ i, Top T.tkd p c i → T.tkd i ≠ 55) → F_Mo_stopOf (nI p) q1 q2 q3 q4 q5 q6 q7 q8 q9 q0 N5 a5 = some (nI c) := fun c k1 k2 k3 k4 k5 => by
    unfold F_Mo_stopOf
    exact Mo_st2 hT hk (q1 := q1) (q2 := q2) (q3 := q3) (q4 := q4) (q5 := q5) (q6 := q6) (q7 := q7) (q8 := q8) (q9 := q9) (q0 := q0) k4 k5 (by omega) k1 (c - p) p FU (by omega) (Nat.le_refl _) (by omega) dp_self (by unfold FU; omega)
  have no : ∀ {k : Nat} {P : Prop}, T.tkd p = k → (T.tkd p = k → False) → P := fun h g => (g h).elim
  rcases h with ⟨h1, h2, h3, h4⟩ | ⟨h1, h2, h3, h4, h5⟩ | ⟨h1, h2, h3, h4⟩ | ⟨h1, ⟨c, h2, h3, h4⟩, h5, h6⟩ | ⟨h1, ⟨c, h2, h3, h4⟩, h5, h6, h7⟩ | ⟨⟨nm', c, R, Q, h1, h2⟩, h3, h4⟩ | ⟨h1, ⟨c, h2, h3, h4, h5, h6⟩, h7, h8⟩ | ⟨h1, h1', h1a, h1b, ⟨c, h2, h3, h4, h5, h6⟩, h7, h8⟩
  · subst h2 h3
    refine ⟨d, tx p ++ sW 82, by rw [h4, List.append_assoc], fun x => by omega, fun _ => rfl, ⟨fun _ => by omega, fun x => absurd (Or.inl (by unfold opb; omega)) x⟩, main (by omega) _ (fun _ => ln33 hTk hTl (by omega) hl hv) (fun x => by omega) (fun x => by omega) (fun _ x => absurd (show opb (T.tkd p) by unfold opb; omega) x)⟩
  · subst h2
    refine ⟨d - 1, tx p ++ sW 82, by rw [h5, List.append_assoc], fun x => by omega, fun x => by omega, ⟨fun _ => by omega, fun x => absurd (Or.inr (by omega)) x⟩, main (by omega) _ (fun _ => ln33 hTk hTl (by omega) hl hv) (fun x => by omega) (fun x => by omega) (fun x _ => absurd (show stB (T.tkd p) by unfold stB; omega) x)⟩
  · subst h2
    refine ⟨e, tx p ++ sW 82, by rw [h4, List.append_assoc], fun x => by omega, fun x => by omega, ⟨fun x => by unfold opb at x; omega, fun _ => by omega⟩, main (by omega) _ (fun _ => ln33 hTk hTl (by omega) hl hv) (fun x => by omega) (fun x => by omega) (fun x _ => absurd (show stB (T.tkd p) by unfold stB; omega) x)⟩
  · subst h4 h5
    refine ⟨d, tx p ++ (sW 83 ++ (Say T tx (p + 1) mk ex (p + 1) (c + 1) ++ sW 82)), by rw [h6]; simp only [List.append_assoc], fun x => by omega, fun _ => rfl, ⟨fun _ => by omega, fun x => absurd (Or.inl (by unfold opb; omega)) x⟩, main (by omega) _ (fun x => by omega) (fun x => by omega) (fun _ => ⟨c, Mo_cl hk h2 (by omega) (by omega), ln106 hk hT h34 h35 hb1 hb2 hr hTk hTl (by omega) (by omega) hl hv⟩) (fun _ x => absurd (show opb (T.tkd p) by unfold opb; omega) x)⟩
  · subst h4
    refine ⟨d - 1, tx p ++ (sW 83 ++ (Say T tx (p + 1) mk ex (p + 1) (c + 1) ++ sW 82)), by rw [h7]; simp only [List.append_assoc], fun x => by omega, fun x => by omega, ⟨fun _ => by omega, fun x => absurd (Or.inr (by omega)) x⟩, main (by omega) _ (fun x => by omega) (fun x => by omega) (fun _ => ⟨c, Mo_cl hk h2 (by omega) (by omega), ln106 hk hT h34 h35 hb1 hb2 hr hTk hTl (by omega) (by omega) hl hv⟩) (fun x _ => absurd (show stB (T.tkd p) by unfold stB; omega) x)⟩
  · subst h2 h3
    have h19 := h1.1
    obtain ⟨y1, y2⟩ := h1.le
    refine ⟨d, tx p ++ (sW 83 ++ (Say T tx (p + 1) mk ex (p + 1) (c + 1) ++ sW 82)), by rw [h4]; simp only [List.append_assoc], fun x => by omega, fun _ => rfl, ⟨fun _ => by omega, fun x => absurd (Or.inl (by unfold opb; omega)) x⟩, main (by omega) _ (fun x => by omega) (fun _ => ⟨nm', Mo_name hT hk h1 (by omega) y2, c, Mo_cl hk (h1.cl (by omega)) (by omega) (by omega), ln106 hk hT h34 h35 hb1 hb2 hr hTk hTl (by omega) (by omega) hl hv⟩) (fun x => by omega) (fun _ x => absurd (show opb (T.tkd p) by unfold opb; omega) x)⟩
  · subst h6 h7
    rw [Nat.add_sub_cancel] at h8
    refine ⟨e, tx p ++ (sW 83 ++ (Say T tx (p + 1) mk ex (p + 1) c ++ sW 84)), by rw [h8]; simp only [List.append_assoc], fun x => by omega, fun _ => rfl, ⟨fun x => by unfold opb at x; omega, fun _ => by omega⟩, main (by omega) _ (fun x => by omega) (fun x => by omega) (fun x => by omega) (fun _ _ => ⟨c, hstop c h2 h3 (by omega) h4 h5, fun _ => ln161 hk hT h34 h35 hb1 hb2 hr hTk hTl (by omega) (by omega) hl hv, fun x y => by omega⟩)⟩
  · subst h6 h7
    rw [Nat.add_sub_cancel] at h8
    have h1 : ¬ (T.tkd p = 11 ∨ T.tkd p = 12 ∨ T.tkd p = 13 ∨ T.tkd p = 23) := h1
    have h1' : ¬ (T.tkd p = 19 ∨ T.tkd p = 10 ∨ T.tkd p = 14 ∨ T.tkd p = 15 ∨ T.tkd p = 22) := h1'
    refine ⟨e, Say T tx p mk ex p c ++ sW 84, by rw [h8]; simp only [List.append_assoc], fun x => by omega, fun _ => rfl, ⟨fun x => by unfold opb at x; omega, fun _ => by omega⟩, main (by omega) _ (fun x => by omega) (fun x => by omega) (fun x => by omega) (fun _ _ => ⟨c, hstop c h2 h3 (by omega) h4 h5, fun x => by omega, fun _ _ => ln178 hk hT h34 h35 hb1 hb2 hr hTk hTl (by omega) (by omega) (by omega) hv⟩)⟩
end Sy
end

section
theorem CutL.then {l1 L1 l' w : List Int32} (h : CutL l1 L1) (g : CutL l' (l1 ++ w)) : CutL l' (L1 ++ w) := by
  rcases h with h | ⟨h1, h2⟩
  · rw [← h]; exact g
  · refine Or.inr ⟨?_, by rw [List.length_append]; omega⟩
    rcases g with g | ⟨g, _⟩
    · rw [g, List.length_append]; omega
    · exact g
section Sy
variable {T : Tks} {m N5 N34 N35 : Nat} {a5 a34 a35 : Nat → Int32} {mk ex : Nat → Nat} {tx : Nat → List Int32}
variable {n2 : Nat} {b2 : Nat → Int32}
variable {q1 q3 q4 q5 q6 q7 q8 q9 q0 z6 z7 z4 z34 z35 z37 : Int32} {N6 N7 N4 N37 : Nat} {a6 a7 a4 a37 : Nat → Int32}
/-- the reference's lines, from the loop's head -/
def WrL (m : Nat) (q1 q3 q4 q5 q6 q7 q8 q9 z6 z7 z4 z34 z35 z37 : Int32) (N5 N6 N7 N4 N34 N35 N37 : Nat) (a5 a6 a7 a4 a34 a35 a37 : Nat → Int32) (n2 : Nat) (b2 : Nat → Int32) (fu p d N : Nat) (b : Nat → Int32) (l w : List Int32) : Prop :=
  ∃ (l' : List Int32) (N' : Nat) (b' : Nat → Int32) (c s : Nat) (v2 v1 : Int32), CutL l' (l ++ w) ∧ VecB N' b' l' ∧ Grow N N' c s ∧ l'.length ≤ 200100 ∧ ∀ R c' s', F_Mo_write_148 z37 N37 a37 v2 v1 (nI l'.length) N' b' = some (R, c', s') → F_Mo_write_30 q1 q3 q4 q5 q6 q7 q8 q9 z4 (nI m) z6 z7 N5 a5 N6 a6 N7 a7 N4 a4 z34 N34 a34 n2 b2 z35 N35 a35 z37 N37 a37 fu (nI p) (nI d) (nI l.length) N b = some (R, c + c', s + s')
theorem Mo_wr30 (hk : KdIs m N5 a5 T.tkd) (hT : TkOK T m) (h34 : MkIs m N34 a34 mk) (h35 : MkIs m N35 a35 ex) (hb1 : ∀ i, mk i ≤ 2) (hb2 : ∀ i, ex i ≤ 17000) (hr : RkIs n2 b2) (hTk : ∀ i, i + 1 < m → ∀ N b l, l.length + 65536 < 2 ^ 18 → VecB N b l → Apd (F_Mo_sayToken (nI i) q1 0 q3 q4 q5 q6 q7 q8 q9 z6 N6 a6 z7 N7 a7 z4 N4 a4 (nI l.length) N b) N l (tx i)) (hTl : ∀ i, i + 1 < m → (tx i).length ≤ 65536) : ∀ (n fu p d N : Nat) (b : Nat → Int32) (l w : List Int32), WrP T tx mk ex n p d (m - 1) 0 w → n < fu → d ≤ p → l.length ≤ 200100 → VecB N b l → WrL m q1 q3 q4 q5 q6 q7 q8 q9 z6 z7 z4 z34 z35 z37 N5 N6 N7 N4 N34 N35 N37 a5 a6 a7 a4 a34 a35 a37 n2 b2 fu p d N b l w
  | 0, fu + 1, p, d, N, b, l, w, ⟨h1, h2, h3⟩, hf, hd, hl, hv => by
    have hle := hT.le
    have hpos := hT.pos
    subst h1 h2 h3
    refine ⟨l, N, b, 0, 0, nI (m - 1), nI 0, Or.inl (List.append_nil _).symm, hv, Grow.rfl, hl, fun R c' s' hh => ?_⟩
    rw [F_Mo_write_30, show nI m - 1 = nI (m - 1) by rw [show (1 : Int32) = nI 1 from Eq.refl _, nI_sub' (by omega)], if_pos (show nI (m - 1) ≤ nI (m - 1) by rw [nI_le' (by omega) (by omega)]; omega), hh, Nat.zero_add, Nat.zero_add]
  | n + 1, fu + 1, p, d, N, b, l, w, ⟨p', d', w1, w2, h1, h2, h3, h4⟩, hf, hd, hl, hv => by
    have hle := hT.le
    have hpos := hT.pos
    have hpm := h3.le
    have esub : nI m - 1 = nI (m - 1) := by rw [show (1 : Int32) = nI 1 from Eq.refl _, nI_sub' (by omega)]
    have hgt : ¬ nI (m - 1) ≤ nI p := by rw [nI_le' (by omega) (by omega)]; omega
    by_cases c : 65536 < l.length
    · refine ⟨l, N, b, 0, 0, nI p, nI d, Or.inr ⟨c, by rw [List.length_append]; omega⟩, hv, Grow.rfl, hl, fun R c' s' hh => ?_⟩
      rw [F_Mo_write_30, esub, if_neg hgt, if_pos (show (65536 : Int32) < nI l.length by rw [show (65536 : Int32) = nI 65536 from Eq.refl _, nI_lt' (by omega) (by omega)]; omega), hh, Nat.zero_add, Nat.zero_add]
    · have hpx : p < m := by omega
      have hin : ∀ d0 w0, d0 ≤ 17000 → w0 = indW d0 → ∃ N1 b1 c1 s1, VecB N1 b1 (l ++ w0) ∧ Grow N N1 c1 s1 ∧ F_Mo_indent (nI d0) q1 0 q3 q4 q5 q6 q7 q8 q9 (nI l.length) N b = some ((nI (l ++ w0).length, N1, b1), c1, s1) := fun d0 w0 hd0 e => by
        subst e
        exact Mo_ind (q1 := q1) (q2 := 0) (q3 := q3) (q4 := q4) (q5 := q5) (q6 := q6) (q7 := q7) (q8 := q8) (q9 := q9) hd0 (by omega) hv
      obtain ⟨d0, v, k1, k2, k3, ⟨k4, k5⟩, _⟩ := Mo_ln hk hT h34 h35 hb1 hb2 hr hTk hTl (q0 := nI m) (z34 := z34) (z35 := z35) h1 (by omega) (by omega : l.length ≤ 105000) hv
      have hd0 : d0 ≤ d ∧ d ≤ d0 + 1 := by
        by_cases e : T.tkd p = 12 ∨ T.tkd p = 11 ∨ T.tkd p = 23 ∨ T.tkd p = 13
        · have := k2 e; omega
        · have := k3 e; omega
      have hde : d' ≤ d0 + 1 := by
        by_cases e : opb (T.tkd p) ∨ T.tkd p = 12 ∨ T.tkd p = 11 ∨ T.tkd p = 23
        · have := k4 e; omega
        · have := k5 e; omega
      obtain ⟨N1, b1, c1, s1, v1, g1, e1⟩ := hin d0 (indW d0) (by omega) rfl
      have hl1 : (l ++ indW d0).length ≤ 105000 := by rw [List.length_append, indW_len]; omega
      obtain ⟨d0', v', k1', k2', k3', _, l2, N2, b2', c2, s2, y1, y2, y3, y4, y5⟩ := Mo_ln hk hT h34 h35 hb1 hb2 hr hTk hTl (q0 := nI m) (z34 := z34) (z35 := z35) h1 (by omega) hl1 v1
      have hdd : d0' = d0 := by
        by_cases e : T.tkd p = 12 ∨ T.tkd p = 11 ∨ T.tkd p = 23 ∨ T.tkd p = 13
        · have := k2 e; have := k2' e; omega
        · have := k3 e; have := k3' e; omega
      subst hdd
      have hvv : v' = v := List.append_cancel_left (k1'.symm.trans k1)
      subst hvv
      obtain ⟨l3, N3, b3, c3, s3, v2, v1', x1, x2, x3, x4, x5⟩ := Mo_wr30 hk hT h34 h35 hb1 hb2 hr hTk hTl n fu p' d' N2 b2' l2 w2 h3 (by omega) (by omega) y2 y3
      refine ⟨l3, N3, b3, c1 + (c2 + c3), s1 + (s2 + s3), v2, v1', ?_, x2, g1.trans (y4.trans x3), x4, fun R c' s' hh => ?_⟩
      · rw [h4, k1]
        have := y1.then x1
        simp only [List.append_assoc] at this ⊢
        exact this
      · have hgo := x5 R c' s' hh
        have hkl := hk.lt p
        have ek : ∀ k, k < 57 → (a5 (Int32.toNatClampNeg (nI p)) = nI k) = (T.tkd p = k) := fun k hk' => Mo_kd hk hpx hk'
        have e12 : (a5 (Int32.toNatClampNeg (nI p)) = 12) = (T.tkd p = 12) := ek 12 (by omega)
        have e11 : (a5 (Int32.toNatClampNeg (nI p)) = 11) = (T.tkd p = 11) := ek 11 (by omega)
        have e23 : (a5 (Int32.toNatClampNeg (nI p)) = 23) = (T.tkd p = 23) := ek 23 (by omega)
        have e13 : (a5 (Int32.toNatClampNeg (nI p)) = 13) = (T.tkd p = 13) := ek 13 (by omega)
        have hplus : nI d0' + 1 = nI (d0' + 1) := nI_add' _ 1
        have key : ∀ v4 : Int32, (v4 = 0 ↔ ¬ (T.tkd p = 12 ∨ T.tkd p = 11 ∨ T.tkd p = 23 ∨ T.tkd p = 13)) → F_Mo_write_107 q1 q3 q4 q5 q6 q7 q8 q9 z4 (nI m) z6 z7 N5 a5 N6 a6 N7 a7 N4 a4 z34 N34 a34 n2 b2 z35 N35 a35 (nI p) (nI l.length) N b (F_Mo_write_30 q1 q3 q4 q5 q6 q7 q8 q9 z4 (nI m) z6 z7 N5 a5 N6 a6 N7 a7 N4 a4 z34 N34 a34 n2 b2 z35 N35 a35 z37 N37 a37 fu) v4 (nI d0') = some (R, c1 + (c2 + (c3 + c')), s1 + (s2 + (s3 + s'))) := by
          intro v4 hv4
          unfold F_Mo_write_107
          refine bw_ok e1 (bw_ok y5 ?_)
          dsimp only
          rw [Mo_a5 hk hpx]
          unfold nm
          dsimp only
          have e13' : (nI (T.tkd p) = 13) = (T.tkd p = 13) := by rw [← e13, Mo_a5 hk hpx]
          simp only [e13']
          by_cases o : opb (T.tkd p)
          · rw [if_neg (fun h => (opb_one hkl).mp h o), hplus, ← k4 (Or.inl o)]
            exact hgo
          · rw [if_pos ((opb_one hkl).mpr o)]
            by_cases z : v4 = 0
            · have hz := hv4.mp z
              rw [if_pos z, ← k5 (fun h => by
                rcases h with h | h | h | h
                · exact o h
                · exact hz (Or.inl h)
                · exact hz (Or.inr (Or.inl h))
                · exact hz (Or.inr (Or.inr (Or.inl h))))]
              exact hgo
            · rw [if_neg z]
              have hz : T.tkd p = 12 ∨ T.tkd p = 11 ∨ T.tkd p = 23 ∨ T.tkd p = 13 := by
                by_cases hh : T.tkd p = 12 ∨ T.tkd p = 11 ∨ T.tkd p = 23 ∨ T.tkd p = 13
                · exact hh
                · exact absurd (hv4.mpr hh) z
              by_cases k13 : T.tkd p = 13
              · rw [if_pos k13, ← k5 (fun h => by
                  rcases h with h | h
                  · exact o h
                  · omega)]
                exact hgo
              · rw [if_neg k13, hplus, ← k4 (Or.inr (by omega))]
                exact hgo
        have key1 : (T.tkd p = 12 ∨ T.tkd p = 11 ∨ T.tkd p = 23 ∨ T.tkd p = 13) → F_Mo_write_88 q1 q3 q4 q5 q6 q7 q8 q9 z4 (nI m) z6 z7 N5 a5 N6 a6 N7 a7 N4 a4 z34 N34 a34 n2 b2 z35 N35 a35 (nI p) (nI d) (nI l.length) N b (F_Mo_write_30 q1 q3 q4 q5 q6 q7 q8 q9 z4 (nI m) z6 z7 N5 a5 N6 a6 N7 a7 N4 a4 z34 N34 a34 n2 b2 z35 N35 a35 z37 N37 a37 fu) = some (R, c1 + (c2 + (c3 + c')), s1 + (s2 + (s3 + s'))) := by
          intro hb
          have := k2 hb
          unfold F_Mo_write_88
          rw [show nI d - 1 = nI d0' by rw [show (1 : Int32) = nI 1 from Eq.refl _, nI_sub' (by omega)]; congr 1; omega]
          exact key 1 ⟨fun h => absurd h (by decide), fun h => absurd hb h⟩
        rw [show c1 + (c2 + c3) + c' = c1 + (c2 + (c3 + c')) by omega, show s1 + (s2 + s3) + s' = s1 + (s2 + (s3 + s')) by omega]
        rw [F_Mo_write_30, esub, if_neg hgt, if_neg (show ¬ (65536 : Int32) < nI l.length by rw [show (65536 : Int32) = nI 65536 from Eq.refl _, nI_lt' (by omega) (by omega)]; omega), Mo_at hk hpx, Option.bind_some]
        simp only [e12, e11, e23, e13]
        by_cases c1' : T.tkd p = 12
        · rw [if_pos c1']; exact key1 (by omega)
        rw [if_neg c1']
        by_cases c2' : T.tkd p = 11
        · rw [if_pos c2']; exact key1 (by omega)
        rw [if_neg c2']
        by_cases c3' : T.tkd p = 23
        · rw [if_pos c3']; exact key1 (by omega)
        rw [if_neg c3']
        by_cases c4' : T.tkd p = 13
        · rw [if_pos c4']; exact key1 (by omega)
        rw [if_neg c4']
        have hnb : ¬ (T.tkd p = 12 ∨ T.tkd p = 11 ∨ T.tkd p = 23 ∨ T.tkd p = 13) := by omega
        rw [k3 hnb]
        exact key 0 ⟨fun _ => hnb, fun _ => rfl⟩
/-- **the reference's writing** -/
theorem Mo_wr (hk : KdIs m N5 a5 T.tkd) (hT : TkOK T m) (h34 : MkIs m N34 a34 mk) (h35 : MkIs m N35 a35 ex) (hb1 : ∀ i, mk i ≤ 2) (hb2 : ∀ i, ex i ≤ 17000) (hr : RkIs n2 b2) (hTk : ∀ i, i + 1 < m → ∀ N b l, l.length + 65536 < 2 ^ 18 → VecB N b l → Apd (F_Mo_sayToken (nI i) q1 0 q3 q4 q5 q6 q7 q8 q9 z6 N6 a6 z7 N7 a7 z4 N4 a4 (nI l.length) N b) N l (tx i)) (hTl : ∀ i, i + 1 < m → (tx i).length ≤ 65536) {w : List Int32} (hq : q1 ≠ 0) (h : ∃ n, WrP T tx mk ex n 0 0 (m - 1) 0 w) {N N37 : Nat} {b a37 : Nat → Int32} {l0 l37 : List Int32} {z38 z37 q2 z4' z5' z6' z7' : Int32} (hv : VecB N b l0) (h37 : Vec N37 a37 l37) (hs37 : z37 = nI l37.length) : ∃ (l' : List Int32) (N' N37' : Nat) (b' a37' : Nat → Int32) (c s c1 s1 c2 s2 : Nat), F_Mo_write q1 q2 q3 q4 q5 q6 q7 q8 q9 z4' z4 z5' (nI m) z6' z6 z7' z7 z38 N5 a5 N b N6 a6 N7 a7 N4 a4 z34 N34 a34 n2 b2 z35 N35 a35 z37 N37 a37 = some ((if w.length ≤ 65536 then nI w.length else -1, nI l'.length, nI (if w.length ≤ 65536 then w else l37).length, N', b', N37', a37'), c, s) ∧ VecB N' b' l' ∧ Grow N N' c1 s1 ∧ Vec N37' a37' (if w.length ≤ 65536 then w else l37) ∧ Grow N37 N37' c2 s2 ∧ (N37' = N37 ∨ N37' ≤ 131072) ∧ c = c1 + c2 ∧ s = s1 + s2 := by
  have hle := hT.le
  obtain ⟨n, h⟩ := h
  have hn := h.le
  have h0 : VecB N b [] := ⟨hv.1.clear, hv.2⟩
  obtain ⟨l', N', b', c1, s1, v2, v1, x1, x2, x3, x4, x5⟩ := Mo_wr30 hk hT h34 h35 hb1 hb2 hr hTk hTl (z34 := z34) (z35 := z35) (z37 := z37) (N37 := N37) (a37 := a37) n FU 0 0 N b [] w h (by unfold FU; omega) (Nat.le_refl _) (by decide) h0
  rw [List.nil_append] at x1
  unfold F_Mo_write
  rw [if_neg hq]
  by_cases c : l'.length ≤ 65536
  · have hw : l' = w := by
      rcases x1 with x | ⟨x, _⟩
      · exact x
      · omega
    subst hw
    obtain ⟨N2, a2, c2, s2, e2, y2, g2, o2⟩ := Nm_become (z := z37) x2.1 (by omega) h37
    refine ⟨l', N', N2, b', a2, c1 + (c2 + 0), s1 + (s2 + 0), c1, s1, c2, s2, ?_, x2, x3, by rw [if_pos c]; exact y2, g2, by omega, by omega, by omega⟩
    refine x5 _ _ _ ?_
    unfold F_Mo_write_148
    rw [if_pos (show nI l'.length ≤ 65536 by rw [show (65536 : Int32) = nI 65536 from Eq.refl _, nI_le' (by omega) (by omega)]; omega), if_pos c, if_pos c]
    exact bw_ok e2 rfl
  · have hw : ¬ w.length ≤ 65536 := by
      rcases x1 with x | ⟨_, x⟩
      · rw [← x]; exact c
      · omega
    refine ⟨l', N', N37, b', a37, c1 + 0, s1 + 0, c1, s1, 0, 0, ?_, x2, x3, by rw [if_neg hw]; exact h37, Grow.rfl, Or.inl rfl, by omega, by omega⟩
    refine x5 _ _ _ ?_
    unfold F_Mo_write_148
    rw [if_neg (show ¬ nI l'.length ≤ 65536 by rw [show (65536 : Int32) = nI 65536 from Eq.refl _, nI_le' (by omega) (by omega)]; omega), if_neg hw, if_neg hw, hs37]
end Sy
end
