section
section Md
variable {T : Tks} {m N5 : Nat} {a5 : Nat → Int32}
variable {q1 q2 q3 q4 q5 q6 q7 q8 q9 q0 : Int32}
theorem Mo_st2 (hT : TkOK T m) (hk : KdIs m N5 a5 T.tkd) {a b : Nat} (hl : Lay T.tkd a b) (hno : ∀ i, Top T.tkd a b i → T.tkd i ≠ 55) (hb : b < m) (h55 : T.tkd b = 55) : ∀ (n i fu : Nat), b - i ≤ n → a ≤ i → i ≤ b → dp T.tkd a i = 0 → b - i < fu → F_Mo_stopOf_2 q1 q2 q3 q4 q5 q6 q7 q8 q9 q0 N5 a5 fu (nI i) = some (nI b) := by
  have hle := hT.le
  have hend : ∀ fu, F_Mo_stopOf_2 q1 q2 q3 q4 q5 q6 q7 q8 q9 q0 N5 a5 (fu + 1) (nI b) = some (nI b) := by
    intro fu
    have e55 : (a5 (Int32.toNatClampNeg (nI b)) = 55) = (T.tkd b = 55) := Mo_kd hk hb (p := 55) (by omega)
    rw [F_Mo_stopOf_2, Mo_at hk hb, Option.bind_some]
    simp only [e55]
    rw [if_pos h55]
  intro n
  induction n with
  | zero =>
    intro i fu h1 h2 h3 h4 h5
    have : i = b := by omega
    subst this
    obtain ⟨f2, rfl⟩ : ∃ f2, fu = f2 + 1 := ⟨fu - 1, by omega⟩
    exact hend f2
  | succ n ih =>
    intro i fu h1 h2 h3 h4 h5
    obtain ⟨f2, rfl⟩ : ∃ f2, fu = f2 + 1 := ⟨fu - 1, by omega⟩
    by_cases hie : i = b
    · subst hie; exact hend f2
    · have ht : Top T.tkd a b i := ⟨h2, by omega, h4⟩
      have e55 : (a5 (Int32.toNatClampNeg (nI i)) = 55) = (T.tkd i = 55) := Mo_kd hk (by omega) (p := 55) (by omega)
      have e50 : (a5 (Int32.toNatClampNeg (nI i)) = 50) = (T.tkd i = 50) := Mo_kd hk (by omega) (p := 50) (by omega)
      have e52 : (a5 (Int32.toNatClampNeg (nI i)) = 52) = (T.tkd i = 52) := Mo_kd hk (by omega) (p := 52) (by omega)
      rw [F_Mo_stopOf_2, Mo_at hk (by omega), Option.bind_some, Option.bind_some, Option.bind_some]
      simp only [e55, e50, e52]
      rw [if_neg (hno i ht)]
      by_cases o : T.tkd i = 50 ∨ T.tkd i = 52
      · obtain ⟨d, g1, g2, g3, g4⟩ := hl.hop ht o (by omega)
        have w := ih (d + 1) f2 (by omega) (by omega) (by omega) g4 (by omega)
        rw [Mo_cl hk g1 (by omega) (by omega), Option.bind_some, show nI d + 1 = nI (d + 1) from nI_add' d 1]
        by_cases o1 : T.tkd i = 50
        · rw [if_pos o1]; exact w
        · rw [if_neg o1, if_pos (o.resolve_left o1)]; exact w
      · have w := ih (i + 1) f2 (by omega) (by omega) (by omega) (hl.step ht (fun x => o (Or.inl x)) (fun x => o (Or.inr x))) (by omega)
        rw [if_neg (fun x => o (Or.inl x)), if_neg (fun x => o (Or.inr x)), show nI i + 1 = nI (i + 1) from nI_add' i 1]
        exact w
theorem Mo_se26 (hT : TkOK T m) (hk : KdIs m N5 a5 T.tkd) : ∀ (n fu i d j e : Nat), Pth T.tkd st13 n i d j e → j < m → d ≤ i → F_Mo_statementEnd_26 q1 q2 q3 q4 q5 q6 q7 q8 q9 q0 N5 a5 (fu + n) (nI (d + 1)) (nI i) = F_Mo_statementEnd_26 q1 q2 q3 q4 q5 q6 q7 q8 q9 q0 N5 a5 fu (nI (e + 1)) (nI j)
  | 0, fu, i, d, j, e, ⟨h1, h2⟩, _, _ => by subst h1 h2; rfl
  | n + 1, fu, i, d, j, e, ⟨h1, i', d', h2, h3⟩, hj, hd => by
    have hle := hT.le
    have hlt := h2.lt
    have hlen := h3.len
    have hkl := hk.lt i
    have him : i < m := by omega
    have ek : ∀ p, p < 57 → (a5 (Int32.toNatClampNeg (nI i)) = nI p) = (T.tkd i = p) := fun p hp => Mo_kd hk him hp
    have e13 : (a5 (Int32.toNatClampNeg (nI i)) = 13) = (T.tkd i = 13) := ek 13 (by omega)
    have e50 : (a5 (Int32.toNatClampNeg (nI i)) = 50) = (T.tkd i = 50) := ek 50 (by omega)
    have e52 : (a5 (Int32.toNatClampNeg (nI i)) = 52) = (T.tkd i = 52) := ek 52 (by omega)
    have pos : ∀ x, x < 2 ^ 30 → (0 : Int32) < nI (x + 1) := fun x hx => by rw [show (0 : Int32) = nI 0 from rfl, nI_lt' (by omega) (by omega)]; omega
    rw [show fu + (n + 1) = fu + n + 1 from rfl, F_Mo_statementEnd_26, Mo_at hk him, Option.bind_some]
    simp only [e50, e52, e13]
    rcases h2 with ⟨ho, c, g1, g2, g3, g4⟩ | ⟨ho, g1, g2⟩ | ⟨ho, g1, g2⟩ | ⟨o1, o2, o3, o4, g1, g2⟩
    · subst g3 g4
      have w := Mo_se26 hT hk n fu (c + 1) d' j e h3 hj (by omega)
      have hgo : F_Mo_statementEnd_50 q1 q2 q3 q4 q5 q6 q7 q8 q9 q0 N5 a5 (nI (d' + 1)) (nI i) (F_Mo_statementEnd_26 q1 q2 q3 q4 q5 q6 q7 q8 q9 q0 N5 a5 (fu + n)) = F_Mo_statementEnd_26 q1 q2 q3 q4 q5 q6 q7 q8 q9 q0 N5 a5 fu (nI (e + 1)) (nI j) := by
        unfold F_Mo_statementEnd_50
        rw [Mo_cl hk g1 (by omega) him, Option.bind_some, if_pos (pos d' (by omega)), show nI c + 1 = nI (c + 1) from nI_add' c 1]
        exact w
      by_cases o1 : T.tkd i = 50
      · rw [if_pos o1]; exact hgo
      · rw [if_neg o1, if_pos (ho.resolve_left o1)]; exact hgo
    · subst g1 g2
      have hno : T.tkd i ≠ 50 ∧ T.tkd i ≠ 52 := by unfold opb at ho; omega
      rw [if_neg hno.1, if_neg hno.2, Mo_a5 hk him]
      unfold nm
      dsimp only
      rw [if_neg (fun x => (opb_one hkl).mp x ho), show nI (d + 1) + 1 = nI (d + 1 + 1) from nI_add' _ 1, if_pos (pos (d + 1) (by omega)), show nI i + 1 = nI (i + 1) from nI_add' i 1]
      exact Mo_se26 hT hk n fu (i + 1) (d + 1) j e h3 hj (by omega)
    · subst g1 g2
      rw [if_neg (by omega), if_neg (by omega), Mo_a5 hk him]
      unfold nm
      dsimp only
      rw [if_pos ((opb_one hkl).mpr (fun x => by unfold opb at x; omega)), if_pos ho, nI_p1, if_pos (pos d' (by omega)), show nI i + 1 = nI (i + 1) from nI_add' i 1]
      exact Mo_se26 hT hk n fu (i + 1) d' j e h3 hj (by omega)
    · subst g1 g2
      rw [if_neg o1, if_neg o2, Mo_a5 hk him]
      unfold nm
      dsimp only
      rw [if_pos ((opb_one hkl).mpr o3), if_neg o4, if_pos (pos d' (by omega)), show nI i + 1 = nI (i + 1) from nI_add' i 1]
      exact Mo_se26 hT hk n fu (i + 1) d' j e h3 hj (by omega)
/-- the end of a statement -/
theorem Mo_se (hT : TkOK T m) (hk : KdIs m N5 a5 T.tkd) {a b : Nat} {t : Tr Lb} (x : SV T 0 a b t) (hb : b ≤ m) : F_Mo_statementEnd (nI a) q1 q2 q3 q4 q5 q6 q7 q8 q9 q0 N5 a5 = some (nI b) := by
  have hle := hT.le
  obtain ⟨h1, _, h3, _⟩ := x.sq (by omega)
  obtain ⟨h4, h5, h6⟩ := h3 rfl
  have ham : a < m := by omega
  have hkl := hk.lt a
  unfold F_Mo_statementEnd
  rw [Mo_at hk ham, Option.bind_some, Mo_a5 hk ham]
  unfold nm
  dsimp only
  by_cases o : opb (T.tkd a)
  · obtain ⟨k1, n, k2⟩ := h5 o
    rw [if_neg (fun x => (opb_one hkl).mp x o)]
    have hlen := k2.len
    have e := Mo_se26 hT hk (q1 := q1) (q2 := q2) (q3 := q3) (q4 := q4) (q5 := q5) (q6 := q6) (q7 := q7) (q8 := q8) (q9 := q9) (q0 := q0) n (FU - n - 2 + 1) (a + 1) 0 (b - 1) 0 k2 (by omega) (Nat.zero_le _)
    have hno : T.tkd a ≠ 50 ∧ T.tkd a ≠ 52 := by unfold opb at o; omega
    have ek : ∀ i p, i < m → p < 57 → (a5 (Int32.toNatClampNeg (nI i)) = nI p) = (T.tkd i = p) := fun i p hi hp => Mo_kd hk hi hp
    have e50 : (a5 (Int32.toNatClampNeg (nI a)) = 50) = (T.tkd a = 50) := ek a 50 ham (by omega)
    have e52 : (a5 (Int32.toNatClampNeg (nI a)) = 52) = (T.tkd a = 52) := ek a 52 ham (by omega)
    have f50 : (a5 (Int32.toNatClampNeg (nI (b - 1))) = 50) = (T.tkd (b - 1) = 50) := ek (b - 1) 50 (by omega) (by omega)
    have f52 : (a5 (Int32.toNatClampNeg (nI (b - 1))) = 52) = (T.tkd (b - 1) = 52) := ek (b - 1) 52 (by omega) (by omega)
    have f13 : (a5 (Int32.toNatClampNeg (nI (b - 1))) = 13) = (T.tkd (b - 1) = 13) := ek (b - 1) 13 (by omega) (by omega)
    have hkl2 := hk.lt (b - 1)
    rw [show FU = (FU - n - 2 + 1 + n) + 1 by unfold FU; omega, F_Mo_statementEnd_26, Mo_at hk ham, Option.bind_some]
    simp only [e50, e52]
    rw [if_neg hno.1, if_neg hno.2, Mo_a5 hk ham]
    unfold nm
    dsimp only
    rw [if_neg (fun x => (opb_one hkl).mp x o), show (0 : Int32) + 1 = nI (0 + 1) from rfl, if_pos (show (0 : Int32) < nI (0 + 1) by decide), show nI a + 1 = nI (a + 1) from nI_add' a 1, e, F_Mo_statementEnd_26, Mo_at hk (show b - 1 < m by omega), Option.bind_some]
    simp only [f50, f52, f13]
    rw [if_neg (by omega), if_neg (by omega), Mo_a5 hk (show b - 1 < m by omega)]
    unfold nm
    dsimp only
    rw [if_pos ((opb_one hkl2).mpr (fun x => by unfold opb at x; omega)), if_pos k1, if_neg (show ¬ (0 : Int32) < nI (0 + 1) - 1 by decide), show nI (b - 1) + 1 = nI (b - 1 + 1) from nI_add' _ 1, show b - 1 + 1 = b by omega]
  · obtain ⟨k1, k2, k3⟩ := h6 o
    rw [if_pos ((opb_one hkl).mpr o)]
    have e := Mo_st2 hT hk (q1 := q1) (q2 := q2) (q3 := q3) (q4 := q4) (q5 := q5) (q6 := q6) (q7 := q7) (q8 := q8) (q9 := q9) (q0 := q0) k2 k3 (by omega) k1 (b - 1 - a) a FU (by omega) (Nat.le_refl _) (by omega) dp_self (by unfold FU; omega)
    unfold F_Mo_stopOf
    rw [e, Option.bind_some, show nI (b - 1) + 1 = nI (b - 1 + 1) from nI_add' _ 1, show b - 1 + 1 = b by omega]
end Md
end
