section
/-! the reference's looks backwards -/
theorem dpt_le (k d : Nat) : dpt k d ≤ d + 1 := by
  unfold dpt
  by_cases o : k = 50 ∨ k = 52
  · rw [if_pos o]; omega
  · rw [if_neg o]
    by_cases c : k = 51 ∨ k = 53
    · rw [if_pos c]; omega
    · rw [if_neg c]; omega
theorem dp_le (K : Nat → Nat) (a i : Nat) (h : a ≤ i) : dp K a i + a ≤ i := by
  obtain ⟨n, rfl⟩ : ∃ n, i = a + n := ⟨i - a, by omega⟩
  clear h
  induction n with
  | zero => rw [Nat.add_zero, dp_self]; omega
  | succ n ih =>
    rw [← Nat.add_assoc, dp_succ (by omega)]
    have := dpt_le (K (a + n)) (dp K a (a + n))
    omega
section Md
variable {T : Tks} {m N5 : Nat} {a5 : Nat → Int32}
variable {n2 : Nat} {b2 : Nat → Int32}
variable {q1 q2 q3 q4 q5 q6 q7 q8 q9 q0 : Int32}
theorem Mo_eO1 (hk : KdIs m N5 a5 T.tkd) {i : Nat} (hi : i < m) (h : eO (T.tkd i)) : F_Mo_endsOperand (nI i) q1 q2 q3 q4 q5 q6 q7 q8 q9 q0 N5 a5 = some 1 := by
  unfold F_Mo_endsOperand
  rw [Mo_at hk hi, Option.bind_some]
  have e : ∀ p, p < 57 → (a5 (Int32.toNatClampNeg (nI i)) = nI p) = (T.tkd i = p) := fun p hp => Mo_kd hk hi hp
  have e2 := e 2 (by omega); have e3 := e 3 (by omega); have e4 := e 4 (by omega); have e13 := e 13 (by omega); have e51 := e 51 (by omega); have e53 := e 53 (by omega); have e48 := e 48 (by omega)
  rw [show nI 2 = (2 : Int32) from rfl] at e2
  rw [show nI 3 = (3 : Int32) from rfl] at e3
  rw [show nI 4 = (4 : Int32) from rfl] at e4
  rw [show nI 13 = (13 : Int32) from rfl] at e13
  rw [show nI 51 = (51 : Int32) from rfl] at e51
  rw [show nI 53 = (53 : Int32) from rfl] at e53
  rw [show nI 48 = (48 : Int32) from rfl] at e48
  simp only [e2, e3, e4, e13, e51, e53, e48]
  unfold eO at h
  rcases h with h | h | h | h | h | h | h <;> simp only [h] <;> rfl
theorem Mo_eO0 (hk : KdIs m N5 a5 T.tkd) {i : Nat} (hi : i < m) (h : ¬ eO (T.tkd i)) : F_Mo_endsOperand (nI i) q1 q2 q3 q4 q5 q6 q7 q8 q9 q0 N5 a5 = some 0 := by
  unfold F_Mo_endsOperand
  rw [Mo_at hk hi, Option.bind_some]
  have e : ∀ p, p < 57 → (a5 (Int32.toNatClampNeg (nI i)) = nI p) = (T.tkd i = p) := fun p hp => Mo_kd hk hi hp
  have e2 := e 2 (by omega); have e3 := e 3 (by omega); have e4 := e 4 (by omega); have e13 := e 13 (by omega); have e51 := e 51 (by omega); have e53 := e 53 (by omega); have e48 := e 48 (by omega)
  rw [show nI 2 = (2 : Int32) from rfl] at e2
  rw [show nI 3 = (3 : Int32) from rfl] at e3
  rw [show nI 4 = (4 : Int32) from rfl] at e4
  rw [show nI 13 = (13 : Int32) from rfl] at e13
  rw [show nI 51 = (51 : Int32) from rfl] at e51
  rw [show nI 53 = (53 : Int32) from rfl] at e53
  rw [show nI 48 = (48 : Int32) from rfl] at e48
  simp only [e2, e3, e4, e13, e51, e53, e48]
  unfold eO at h
  rw [if_neg (by omega), if_neg (by omega), if_neg (by omega), if_neg (by omega), if_neg (by omega), if_neg (by omega), if_neg (by omega)]
/-- one token of the look for an operator -/
theorem Mo_lo_one (hT : TkOK T m) (hk : KdIs m N5 a5 T.tkd) {a b j fu : Nat} {q : Int32} (hb : b ≤ m) (hl : Lay T.tkd a b) (hj : j < b) (haj : a < j) :
    F_Mo_lastOf_8 (nI a) q q1 q2 q3 q4 q5 q6 q7 q8 q9 q0 N5 a5 n2 b2 (fu + 1) (nI j) (nI (dp T.tkd a (j + 1))) = F_Mo_lastOf_69 q q1 q2 q3 q4 q5 q6 q7 q8 q9 q0 N5 a5 n2 b2 (nI j) (F_Mo_lastOf_8 (nI a) q q1 q2 q3 q4 q5 q6 q7 q8 q9 q0 N5 a5 n2 b2 fu) (nI (dp T.tkd a j)) := by
  have hle := hT.le
  have hjm : j < m := by omega
  have e50 : (a5 (Int32.toNatClampNeg (nI j)) = 50) = (T.tkd j = 50) := Mo_kd hk hjm (p := 50) (by omega)
  have e51 : (a5 (Int32.toNatClampNeg (nI j)) = 51) = (T.tkd j = 51) := Mo_kd hk hjm (p := 51) (by omega)
  have e52 : (a5 (Int32.toNatClampNeg (nI j)) = 52) = (T.tkd j = 52) := Mo_kd hk hjm (p := 52) (by omega)
  have e53 : (a5 (Int32.toNatClampNeg (nI j)) = 53) = (T.tkd j = 53) := Mo_kd hk hjm (p := 53) (by omega)
  have hs := dp_succ (K := T.tkd) (a := a) (i := j) (by omega)
  have hc := hl.2.1 j (by omega) hj
  rw [F_Mo_lastOf_8, if_neg (show ¬ nI j ≤ nI a by rw [nI_le' (by omega) (by omega)]; omega), Mo_at hk hjm, Option.bind_some]
  simp only [e50, e51, e52, e53]
  by_cases c : T.tkd j = 51 ∨ T.tkd j = 53
  · have h0 := hc c
    obtain ⟨d, hd⟩ : ∃ d, dp T.tkd a j = d + 1 := ⟨dp T.tkd a j - 1, by omega⟩
    rw [hd, dpt_close c] at hs
    have hn : nI (dp T.tkd a (j + 1)) + 1 = nI (dp T.tkd a j) := by rw [hs, hd]; exact nI_add' d 1
    rw [hn]
    by_cases c1 : T.tkd j = 51
    · rw [if_pos c1]
    · rw [if_neg c1, if_pos (c.resolve_left c1)]
  · rw [if_neg (fun x => c (Or.inl x)), if_neg (fun x => c (Or.inr x))]
    by_cases o : T.tkd j = 50 ∨ T.tkd j = 52
    · rw [dpt_open o] at hs
      rw [hs, nI_p1]
      by_cases o1 : T.tkd j = 50
      · rw [if_pos o1]
      · rw [if_neg o1, if_pos (o.resolve_left o1)]
    · rw [if_neg (fun x => o (Or.inl x)), if_neg (fun x => o (Or.inr x)), hs, dpt_mid (fun x => o (Or.inl x)) (fun x => c (Or.inl x)) (fun x => o (Or.inr x)) (fun x => c (Or.inr x))]
theorem Mo_lo8 (hT : TkOK T m) (hk : KdIs m N5 a5 T.tkd) (hr : RkIs n2 b2) {a b q c : Nat} (hb : b ≤ m) (hl : Lay T.tkd a b) (hq : q ≤ 10) (hac : a ≤ c) (hno : ∀ i, Top T.tkd a b i → c < i → eO (T.tkd (i - 1)) → rkM (T.tkd i) ≠ q) {R : Option Int32}
    (hR : ∀ fu, F_Mo_lastOf_8 (nI a) (nI q) q1 q2 q3 q4 q5 q6 q7 q8 q9 q0 N5 a5 n2 b2 (fu + 1) (nI c) (nI (dp T.tkd a (c + 1))) = R) : ∀ (n fu : Nat), c + n < b → n < fu → F_Mo_lastOf_8 (nI a) (nI q) q1 q2 q3 q4 q5 q6 q7 q8 q9 q0 N5 a5 n2 b2 fu (nI (c + n)) (nI (dp T.tkd a (c + n + 1))) = R
  | 0, fu + 1, _, _ => hR fu
  | n + 1, fu + 1, h1, h2 => by
    have hle := hT.le
    have hkl := hk.lt (c + (n + 1))
    have ih := Mo_lo8 hT hk hr hb hl hq hac hno hR n fu (by omega) (by omega)
    rw [Mo_lo_one hT hk hb hl h1 (by omega)]
    have hdp := dp_le T.tkd a (c + (n + 1)) (by omega)
    have hr8 := rk_le (T.tkd (c + (n + 1)))
    have hK : F_Mo_lastOf_8 (nI a) (nI q) q1 q2 q3 q4 q5 q6 q7 q8 q9 q0 N5 a5 n2 b2 fu (nI (c + (n + 1)) + (-1)) (nI (dp T.tkd a (c + (n + 1)))) = R := by
      rw [show nI (c + (n + 1)) + (-1) = nI (c + n) from (Int32.sub_eq_add_neg _ _).symm.trans (nI_p1 (c + n))]
      exact ih
    unfold F_Mo_lastOf_69
    by_cases d : dp T.tkd a (c + (n + 1)) = 0
    · rw [if_pos (show nI (dp T.tkd a (c + (n + 1))) = 0 by rw [d]; rfl), Mo_a5 hk (by omega), Mo_rank hr hkl, Option.bind_some]
      by_cases e : rkM (T.tkd (c + (n + 1))) = q
      · rw [if_pos (by rw [e])]
        have hne : ¬ eO (T.tkd (c + n)) := fun x => hno (c + (n + 1)) ⟨by omega, h1, d⟩ (by omega) x e
        rw [show nI (c + (n + 1)) - 1 = nI (c + n) from nI_p1 (c + n), Mo_eO0 hk (by omega) hne, Option.bind_some, if_pos rfl]
        exact hK
      · rw [if_neg (show ¬ nI (rkM (T.tkd (c + (n + 1)))) = nI q by rw [nI_eq' (by omega) (by omega)]; exact e)]
        exact hK
    · rw [if_neg (show ¬ nI (dp T.tkd a (c + (n + 1))) = 0 by rw [show (0 : Int32) = nI 0 from rfl, nI_eq' (by omega) (by omega)]; exact d)]
      exact hK
/-- no such operator -/
theorem Mo_lo_no (hT : TkOK T m) (hk : KdIs m N5 a5 T.tkd) (hr : RkIs n2 b2) {a b q : Nat} (hb : b ≤ m) (hl : Lay T.tkd a b) (hab : a < b) (hq : q ≤ 10) (hno : ∀ i, Top T.tkd a b i → a < i → eO (T.tkd (i - 1)) → rkM (T.tkd i) ≠ q) : F_Mo_lastOf (nI a) (nI b) (nI q) q1 q2 q3 q4 q5 q6 q7 q8 q9 q0 N5 a5 n2 b2 = some (-1) := by
  have hle := hT.le
  unfold F_Mo_lastOf
  obtain ⟨n, rfl⟩ : ∃ n, b = a + n + 1 := ⟨b - a - 1, by omega⟩
  have h0 := hl.2.2
  have := Mo_lo8 hT hk hr (q1 := q1) (q2 := q2) (q3 := q3) (q4 := q4) (q5 := q5) (q6 := q6) (q7 := q7) (q8 := q8) (q9 := q9) (q0 := q0) hb hl hq (Nat.le_refl a) hno (R := some (-1)) (fun fu => by rw [F_Mo_lastOf_8, if_pos (show nI a ≤ nI a by rw [nI_le' (by omega) (by omega)]; omega)]) n FU (by omega) (by unfold FU; omega)
  rw [h0] at this
  rw [show nI (a + n + 1) - 1 = nI (a + n) from nI_p1 _]
  exact this
/-- the last such operator -/
theorem Mo_lo_at (hT : TkOK T m) (hk : KdIs m N5 a5 T.tkd) (hr : RkIs n2 b2) {a b q c : Nat} (hb : b ≤ m) (hl : Lay T.tkd a b) (hq : q ≤ 10) (ht : Top T.tkd a b c) (hac : a < c) (hrk : rkM (T.tkd c) = q) (heo : eO (T.tkd (c - 1))) (hno : ∀ i, Top T.tkd a b i → c < i → eO (T.tkd (i - 1)) → rkM (T.tkd i) ≠ q) : F_Mo_lastOf (nI a) (nI b) (nI q) q1 q2 q3 q4 q5 q6 q7 q8 q9 q0 N5 a5 n2 b2 = some (nI c) := by
  have hle := hT.le
  have hkl := hk.lt c
  have hcb := ht.2.1
  unfold F_Mo_lastOf
  obtain ⟨n, rfl⟩ : ∃ n, b = c + n + 1 := ⟨b - c - 1, by omega⟩
  have h0 := hl.2.2
  have := Mo_lo8 hT hk hr (q1 := q1) (q2 := q2) (q3 := q3) (q4 := q4) (q5 := q5) (q6 := q6) (q7 := q7) (q8 := q8) (q9 := q9) (q0 := q0) hb hl hq (Nat.le_of_lt hac) hno (R := some (nI c)) (fun fu => by
    rw [Mo_lo_one hT hk hb hl hcb hac]
    unfold F_Mo_lastOf_69
    obtain ⟨c', rfl⟩ : ∃ c', c = c' + 1 := ⟨c - 1, by omega⟩
    rw [if_pos (show nI (dp T.tkd a (c' + 1)) = 0 by rw [ht.2.2]; rfl), Mo_a5 hk (by omega), Mo_rank hr hkl, Option.bind_some, if_pos (by rw [hrk]), nI_p1, Mo_eO1 hk (i := c') (by omega) heo, Option.bind_some, if_neg (show ¬ (1 : Int32) = 0 by decide)]) n FU (by omega) (by unfold FU; omega)
  rw [h0] at this
  rw [show nI (c + n + 1) - 1 = nI (c + n) from nI_p1 _]
  exact this
end Md
end
