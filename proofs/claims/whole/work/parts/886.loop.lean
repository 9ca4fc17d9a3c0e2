section
theorem rowCap {N : Nat} {b : Nat → Int32} {l : List Nat} (h : RowV N b l) : N ≤ 65536 ∧ Nat.log2 N ≤ 20 := by
  obtain ⟨j, hj, e⟩ := h.cap
  have := (p2_9 j hj).1
  have hN : N ≤ 65536 := by omega
  refine ⟨hN, ?_⟩
  by_cases h0 : N = 0
  · rw [h0]; decide
  · have := (Nat.log2_lt h0 (k := 21)).mpr (by omega)
    omega
theorem lgB {N : Nat} (hN : N ≤ 1000000) : Nat.log2 N ≤ 20 := by
  by_cases h0 : N = 0
  · rw [h0]; decide
  · have := (Nat.log2_lt h0 (k := 21)).mpr (by omega)
    omega
theorem ndB {N : Nat} (h : ndCap N) : ndC N ≤ 20 ∧ ndS N ≤ 344071 := by
  unfold ndC ndS
  rcases h with e | ⟨j, hj, e⟩
  · rw [if_pos e, if_pos e]; omega
  · have := (p2_9 j hj).1
    by_cases c : N = 114695
    · rw [if_pos c, if_pos c]; omega
    · rw [if_neg c, if_neg c]
      exact ⟨lgB (by omega), by omega⟩
theorem capB {b N : Nat} (h : Cap b N) (hb : b ≤ 1000000) : N ≤ b ∧ Nat.log2 N ≤ 20 := ⟨h.2, lgB (by have := h.2; omega)⟩
theorem p2_10x : ∀ j, j ≤ 10 → 2 ^ j ≤ 1024 := by
  intro j h
  have : j < 11 := by omega
  revert j; decide
theorem waB {N : Nat} (h : ∃ j, j ≤ 10 ∧ N = 64 * 2 ^ j) : N ≤ 65536 ∧ Nat.log2 N ≤ 20 := by
  obtain ⟨j, hj, e⟩ := h
  have := p2_10x j hj
  exact ⟨by omega, lgB (by omega)⟩
theorem capAB {C : NC} (h : CapA 0 C) : NC.lg C ≤ 160 ∧ NC.sm C ≤ 524288 := by
  obtain ⟨h1, h2, h3, h4, h5, h6, h7, h8⟩ := h
  unfold NC.lg NC.sm
  have a1 := lgB (show C.1 ≤ 1000000 by have := h1.2.2; omega)
  have a2 := lgB (show C.2.1 ≤ 1000000 by have := h2.2.2; omega)
  have a3 := lgB (show C.2.2.1 ≤ 1000000 by have := h3.2.2; omega)
  have a4 := lgB (show C.2.2.2.1 ≤ 1000000 by have := h4.2.2; omega)
  have a5 := lgB (show C.2.2.2.2.1 ≤ 1000000 by have := h5.2.2; omega)
  have a6 := lgB (show C.2.2.2.2.2.1 ≤ 1000000 by have := h6.2.2; omega)
  have a7 := lgB (show C.2.2.2.2.2.2.1 ≤ 1000000 by have := h7.2.2; omega)
  have a8 := lgB (show C.2.2.2.2.2.2.2 ≤ 1000000 by have := h8.2.2; omega)
  have := h1.2.2; have := h2.2.2; have := h3.2.2; have := h4.2.2; have := h5.2.2; have := h6.2.2; have := h7.2.2; have := h8.2.2
  exact ⟨by omega, by omega⟩
section Law
variable {L : Nat} {xs : Nat → Int32} {n_ou : Nat} {B : Nat → Int32} {n_m2 : Nat} {b_m2 : Nat → Int32}
theorem INV.caps {s : LW} {tp fo sp so : List Nat} (h : INV s tp fo sp so) : phiC s ≤ 34000 ∧ phiS s ≤ 6569674 := by
  obtain ⟨rd1, rd2, rd3, rd4⟩ := h.rd
  have r1 : ndC s.n15 ≤ 20 ∧ ndS s.n15 ≤ 344071 := ndB rd2
  have r2 : s.n16 ≤ 65536 ∧ Nat.log2 s.n16 ≤ 20 := waB rd3
  have r3 : s.n17 ≤ 65536 ∧ Nat.log2 s.n17 ≤ 20 := waB rd4
  have r4 := ndB h.tc
  have r5 := capAB h.nc
  have r6 := h.fr
  have w1 := rowCap h.t1; have w2 := rowCap h.o1; have w3 := rowCap h.p1; have w4 := rowCap h.r1
  have t5 := h.t5; have o5 := h.o5
  have l5 := lgB (show s.n5 ≤ 1000000 by omega); have l6 := lgB (show s.n78 ≤ 1000000 by omega)
  have c1 := capB h.m38 (by omega); have c2 := capB h.m4 (by omega); have c3 := capB h.m9 (by omega); have c4 := capB h.m5 (by omega); have c5 := capB h.m6 (by omega); have c6 := capB h.m7 (by omega); have c7 := capB h.m10 (by omega); have c8 := capB h.m11 (by omega); have c9 := capB h.m12 (by omega); have c10 := capB h.m20 (by omega); have c11 := capB h.m21 (by omega); have c12 := capB h.m22 (by omega); have c13 := capB h.m32 (by omega); have c14 := capB h.m33 (by omega); have c15 := capB h.m34 (by omega); have c16 := capB h.m35 (by omega)
  have e1 : phC s.rw = s.n9 + ndC s.n15 + Nat.log2 s.n16 + Nat.log2 s.n17 := rfl
  have e2 : phS s.rw = 15 * s.n9 + ndS s.n15 + 2 * s.n16 + 2 * s.n17 := rfl
  unfold phiC phiS
  rw [e1, e2]
  exact ⟨by omega, by omega⟩
theorem st_every (hL2 : L ≤ 4000) (hr : RkIs n_m2 b_m2) (hB : ∀ i, i < 309 → B (308 - i) = nI (bnd i)) (hou : 0 < n_ou) {s : LW} {tp fo sp so : List Nat} {i : Nat} (hL : i + 6 ≤ L) (h : INV s tp fo sp so) : LStp L xs n_ou B n_m2 b_m2 i s := by
  by_cases h0 : xs i &&& 15 = 0
  · exact st_feed hL hL2 h h0
  by_cases h1 : xs i &&& 15 = 1
  · exact st_endc hL hL2 h hou h1
  by_cases h2 : xs i &&& 15 = 2
  · exact st_read hL hL2 h hr hB h2
  by_cases h3 : xs i &&& 15 = 3
  · exact st_place hL hL2 h h3
  by_cases h4 : xs i &&& 15 = 4
  · exact st_nodes hL hL2 h h4
  by_cases h5 : xs i &&& 15 = 5
  · exact st_node hL hL2 h h5
  by_cases h6 : xs i &&& 15 = 6
  · exact st_part hL hL2 h h6
  by_cases h7 : xs i &&& 15 = 7
  · exact st_char hL hL2 h h7
  by_cases h8 : xs i &&& 15 = 8
  · exact st_write hL hL2 h hr h8
  by_cases h9 : xs i &&& 15 = 9
  · exact st_written hL hL2 h h9
  by_cases h10 : xs i &&& 15 = 10
  · exact st_rewind hL hL2 h h10
  refine st_other hL hL2 h (fun k hk => ?_)
  match k, hk with
  | 0, _ => exact h0
  | 1, _ => exact h1
  | 2, _ => exact h2
  | 3, _ => exact h3
  | 4, _ => exact h4
  | 5, _ => exact h5
  | 6, _ => exact h6
  | 7, _ => exact h7
  | 8, _ => exact h8
  | 9, _ => exact h9
  | 10, _ => exact h10
  | k + 11, hk => exact absurd hk (by omega)
theorem law_run (hL2 : L ≤ 4000) (hr : RkIs n_m2 b_m2) (hB : ∀ i, i < 309 → B (308 - i) = nI (bnd i)) (hou : 0 < n_ou) : ∀ (n fu i : Nat) (s : LW) (tp fo sp so : List Nat), INV s tp fo sp so → i ≤ L → L < i + 6 * n → n ≤ fu → ∃ (c sl : Nat), LawF L xs n_ou 309 B n_m2 b_m2 fu (nI i) s = some (1, c, sl) ∧ c + phiC s ≤ 34000 + n ∧ sl + phiS s ≤ 6569674 + 6 * n := by
  intro n
  induction n with
  | zero => intro fu i s tp fo sp so h hi hlt; omega
  | succ n ih =>
    intro fu i s tp fo sp so h hi hlt hfu
    obtain ⟨fu, rfl⟩ : ∃ m, fu = m + 1 := ⟨fu - 1, by omega⟩
    have hc := h.caps
    by_cases hL : i + 6 ≤ L
    · obtain ⟨s', tp', fo', sp', so', c, sl, h', hC, hS, hgo⟩ := st_every (xs := xs) hL2 hr hB hou hL h
      obtain ⟨c', sl', e, hC', hS'⟩ := ih fu (i + 6) s' tp' fo' sp' so' h' hL (by omega) (by omega)
      exact ⟨c + c', sl + sl', hgo fu 1 c' sl' e, by omega, by omega⟩
    · exact ⟨0, 0, law_stop (by omega) hL2 hi, by omega, by omega⟩
end Law
end
