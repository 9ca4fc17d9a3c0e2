section
section Md
variable {T : Tks} {m N5 : Nat} {a5 : Nat → Int32}
variable {n2 : Nat} {b2 : Nat → Int32}
variable {q1 q2 q3 q4 q5 q6 q7 q8 q9 q0 : Int32}
theorem Mo_rb_to (hT : TkOK T m) (hk : KdIs m N5 a5 T.tkd) (hr : RkIs n2 b2) {a b r : Nat} (hb : b ≤ m) (hl : Lay T.tkd a b) (hab : a < b) (hO : OpG T.tkd r a b) : ∀ (v : Nat), v < r → v ≤ 6 → ∀ (fu : Nat) (f : Int32), ∃ f', F_Mo_rankBetween_2 (nI a) (nI b) q1 q2 q3 q4 q5 q6 q7 q8 q0 N5 a5 n2 b2 (fu + v) 1 f = F_Mo_rankBetween_2 (nI a) (nI b) q1 q2 q3 q4 q5 q6 q7 q8 q0 N5 a5 n2 b2 fu (nI (v + 1)) f'
  | 0, _, _, fu, f => ⟨f, rfl⟩
  | v + 1, h1, h2, fu, f => by
    obtain ⟨f', e⟩ := Mo_rb_to hT hk hr hb hl hab hO v (by omega) (by omega) (fu + 1) f
    rw [show fu + (v + 1) = fu + 1 + v by omega, e]
    refine ⟨-1, ?_⟩
    rw [F_Mo_rankBetween_2, if_neg (show ¬ (7 : Int32) ≤ nI (v + 1) by rw [show (7 : Int32) = nI 7 from rfl, nI_le' (by omega) (by omega)]; omega), Mo_lo_no hT hk hr hb hl hab (by omega) (fun i ht hi he e => by have := hO i ht hi he (by omega); omega), Option.bind_some, if_pos (show (-1 : Int32) < 0 by decide), show nI (v + 1) + 1 = nI (v + 1 + 1) from nI_add' _ 1]
/-- an operator of rank 1 to 6 -/
theorem Mo_rb6 (hT : TkOK T m) (hk : KdIs m N5 a5 T.tkd) (hr : RkIs n2 b2) {a b r c : Nat} (hb : b ≤ m) (hl : Lay T.tkd a b) (hO : OpG T.tkd r a b) (hr0 : 0 < r) (hr6 : r ≤ 6) (ht : Top T.tkd a b c) (hac : a < c) (hrk : rkM (T.tkd c) = r) (heo : eO (T.tkd (c - 1))) (hno : ∀ i, Top T.tkd a b i → c < i → eO (T.tkd (i - 1)) → rkM (T.tkd i) ≠ r) : F_Mo_rankBetween (nI a) (nI b) q1 q2 q3 q4 q5 q6 q7 q8 q9 q0 N5 a5 n2 b2 = some (nI r, nI c) := by
  have hle := hT.le
  have hcb := ht.2.1
  obtain ⟨v, rfl⟩ : ∃ v, r = v + 1 := ⟨r - 1, by omega⟩
  obtain ⟨f', e⟩ := Mo_rb_to hT hk hr (q1 := q1) (q2 := q2) (q3 := q3) (q4 := q4) (q5 := q5) (q6 := q6) (q7 := q7) (q8 := q8) (q0 := q0) hb hl (by omega) hO v (by omega) (by omega) (FU - v - 1 + 1) q9
  unfold F_Mo_rankBetween
  rw [show FU - v - 1 + 1 + v = FU by unfold FU; omega] at e
  rw [e, F_Mo_rankBetween_2, if_neg (show ¬ (7 : Int32) ≤ nI (v + 1) by rw [show (7 : Int32) = nI 7 from rfl, nI_le' (by omega) (by omega)]; omega), Mo_lo_at hT hk hr hb hl (by omega) ht hac hrk heo hno, Option.bind_some, if_neg (show ¬ nI c < 0 by rw [nI_nn (by omega)]; exact id)]
/-- an expression of rank 7 or more -/
theorem Mo_rb7 (hT : TkOK T m) (hk : KdIs m N5 a5 T.tkd) (hr : RkIs n2 b2) {a b r c : Nat} (hb : b ≤ m) (hl : Lay T.tkd a b) (hab : a < b) (hO : OpG T.tkd r a b) (hr7 : 7 ≤ r)
    (h : (r = 7 ∧ c = a ∧ (T.tkd a = 40 ∨ T.tkd a = 39 ∨ T.tkd a = 49)) ∨ (¬ (T.tkd a = 40 ∨ T.tkd a = 39 ∨ T.tkd a = 49) ∧ ((r = 8 ∧ Top T.tkd a b c ∧ a < c ∧ rkM (T.tkd c) = 8 ∧ eO (T.tkd (c - 1)) ∧ (∀ i, Top T.tkd a b i → c < i → eO (T.tkd (i - 1)) → rkM (T.tkd i) ≠ 8)) ∨ (r = 9 ∧ c + 1 = b ∧ T.tkd c = 48) ∨ (r = 10 ∧ c + 1 = b ∧ T.tkd c ≠ 48)))) :
    F_Mo_rankBetween (nI a) (nI b) q1 q2 q3 q4 q5 q6 q7 q8 q9 q0 N5 a5 n2 b2 = some (nI r, nI c) := by
  have hle := hT.le
  obtain ⟨f', e⟩ := Mo_rb_to hT hk hr (q1 := q1) (q2 := q2) (q3 := q3) (q4 := q4) (q5 := q5) (q6 := q6) (q7 := q7) (q8 := q8) (q0 := q0) hb hl hab hO 6 (by omega) (by omega) (FU - 6 - 1 + 1) q9
  unfold F_Mo_rankBetween
  rw [show FU - 6 - 1 + 1 + 6 = FU by unfold FU; omega] at e
  have e39 : (a5 (Int32.toNatClampNeg (nI a)) = 39) = (T.tkd a = 39) := Mo_kd hk (by omega) (p := 39) (by omega)
  have e40 : (a5 (Int32.toNatClampNeg (nI a)) = 40) = (T.tkd a = 40) := Mo_kd hk (by omega) (p := 40) (by omega)
  have e49 : (a5 (Int32.toNatClampNeg (nI a)) = 49) = (T.tkd a = 49) := Mo_kd hk (by omega) (p := 49) (by omega)
  rw [e, F_Mo_rankBetween_2, if_pos (show (7 : Int32) ≤ nI (6 + 1) by decide), Mo_at hk (by omega), Option.bind_some]
  simp only [e39, e40, e49]
  rcases h with ⟨h1, h2, h3⟩ | ⟨hs, h⟩
  · subst h1 h2
    by_cases c1 : T.tkd c = 39
    · rw [if_pos c1]; rfl
    · rw [if_neg c1]
      by_cases c2 : T.tkd c = 40
      · rw [if_pos c2]; rfl
      · rw [if_neg c2, if_pos (by omega)]; rfl
  · rw [if_neg (fun x => hs (Or.inr (Or.inl x))), if_neg (fun x => hs (Or.inl x)), if_neg (fun x => hs (Or.inr (Or.inr x)))]
    rcases h with ⟨h1, ht, hac, hrk, heo, hno⟩ | h
    · have hcb := ht.2.1
      have := Mo_lo_at hT hk hr (q1 := q1) (q2 := q2) (q3 := q3) (q4 := q4) (q5 := q5) (q6 := q6) (q7 := q7) (q8 := q8) (q9 := f') (q0 := q0) hb hl (q := 8) (by omega) ht hac hrk heo hno
      rw [show nI 8 = (8 : Int32) from rfl] at this
      rw [this, Option.bind_some, if_neg (show ¬ nI c < 0 by rw [nI_nn (by omega)]; exact id), h1]; rfl
    · have := Mo_lo_no hT hk hr (q1 := q1) (q2 := q2) (q3 := q3) (q4 := q4) (q5 := q5) (q6 := q6) (q7 := q7) (q8 := q8) (q9 := f') (q0 := q0) hb hl hab (q := 8) (by omega) (fun i ht hi he e => by have := hO i ht hi he (by omega); omega)
      rw [show nI 8 = (8 : Int32) from rfl] at this
      have hc1 : nI b - 1 = nI c := by
        rw [show b = c + 1 by omega]; exact nI_p1 c
      have e48 : (a5 (Int32.toNatClampNeg (nI c)) = 48) = (T.tkd c = 48) := Mo_kd hk (by omega) (p := 48) (by omega)
      rw [this, Option.bind_some, if_pos (show (-1 : Int32) < 0 by decide), hc1, Mo_at hk (by omega), Option.bind_some]
      simp only [e48]
      rcases h with ⟨h1, h2, h3⟩ | ⟨h1, h2, h3⟩
      · rw [if_pos h3, h1]; rfl
      · rw [if_neg h3, h1]; rfl
/-- the rank and the root of an expression -/
theorem Mo_rb (hT : TkOK T m) (hk : KdIs m N5 a5 T.tkd) (hr : RkIs n2 b2) {a b r c : Nat} {t : Tr Lb} (x : VR T r a b c t) (hb : b ≤ m) : F_Mo_rankBetween (nI a) (nI b) q1 q2 q3 q4 q5 q6 q7 q8 q9 q0 N5 a5 n2 b2 = some (nI r, nI c) := by
  have hv := x.vv
  obtain ⟨hl, _, hE⟩ := hv.lay
  obtain ⟨hO, hend, hs8, h48, hr0, hr10⟩ := hE rfl
  have hab := hv.lt
  -- an operator between two pieces
  have two : ∀ {r1 t1}, VV T 0 r1 a c t1 → 0 < rkM (T.tkd c) → Lay T.tkd (c + 1) b → c + 1 < b → OpG T.tkd (rkM (T.tkd c) + 1) (c + 1) b → Top T.tkd a b c ∧ a < c ∧ eO (T.tkd (c - 1)) ∧ ∀ i, Top T.tkd a b i → c < i → eO (T.tkd (i - 1)) → rkM (T.tkd i) ≠ rkM (T.tkd c) := by
    intro r1 t1 h1 h2 h3 h4 h5
    have g := h1.lay
    have hlt := h1.lt
    refine ⟨⟨by omega, by omega, g.1.2.2⟩, hlt, (g.2.2 rfl).2.1, fun i ht hci he e => ?_⟩
    obtain ⟨k1, k2, k3, k4, k5, k6⟩ := rk_kd h2
    have hone : Lay T.tkd c (c + 1) := Lay.one k1 k2 k3 k4
    rcases ht.split g.1 with ⟨h, _⟩ | ⟨_, ht⟩
    · omega
    · rcases ht.split hone with ⟨h, _⟩ | ⟨_, ht⟩
      · omega
      · by_cases d : i = c + 1
        · subst d
          rw [Nat.add_sub_cancel] at he
          exact neO h2 he
        · have := h5 i ht (by omega) he (by omega)
          omega
  rcases x with ⟨h1, h2, h3⟩ | ⟨x1, x2, x3, r', l, x4, x, x5⟩ | ⟨x1, x0, x2, r', l, x3, x, x4⟩ | ⟨x1, x2, x3, r1, t1, t2, x4, x, y, x5⟩ | ⟨x1, x2, r1, r2, t1, t2, x3, x4, x, y, x5⟩ | ⟨x1, x3, m1, x2, r1, r2, r3, t1, t2, t3, x4, x5, x6, x, y, w, x7⟩
  · have hs := hs8 (by omega)
    have h48 := h48 h1
    rw [show b - 1 = c by omega] at h48
    exact Mo_rb7 hT hk hr hb hl hab hO (by omega) (Or.inr ⟨by omega, Or.inr (Or.inr ⟨h1, h2, h48⟩)⟩)
  · have hs := hs8 (by omega)
    exact Mo_rb7 hT hk hr hb hl hab hO (by omega) (Or.inr ⟨by omega, Or.inr (Or.inl ⟨x1, x2.symm, x3⟩)⟩)
  · exact Mo_rb7 hT hk hr hb hl hab hO (by omega) (Or.inl ⟨x1, x0, x2⟩)
  · have hr8 := rk_le (T.tkd c)
    have hr7 := rk_not7 (T.tkd c)
    have hR : Lay T.tkd (c + 1) b ∧ c + 1 < b ∧ OpG T.tkd (rkM (T.tkd c) + 1) (c + 1) b := by
      rcases y with ⟨r2, g1, y⟩ | ⟨g1, g2, r3, l, g3, y, _⟩
      · exact ⟨y.lay.1, y.lt, (y.lay.2.2 rfl).1.le (by omega)⟩
      · have hone : Lay T.tkd (c + 1) (c + 1 + 1) := Lay.one (by omega) (by omega) (by omega) (by omega)
        refine ⟨hone.trans y.lay.1, by have := y.lt; omega, OpG.cat hone OpG.one ((y.lay.2.2 rfl).1.le (by omega)) (fun h => ?_)⟩
        rw [Nat.add_sub_cancel] at h
        unfold eO at h; omega
    obtain ⟨k1, k2, k3, k4⟩ := two x (by omega) hR.1 hR.2.1 hR.2.2
    by_cases h6 : r ≤ 6
    · exact Mo_rb6 hT hk hr hb hl hO hr0 h6 k1 k2 x3 k3 (fun i h1 h2 h3 h4 => k4 i h1 h2 h3 (by omega))
    · have h8 : r = 8 := by omega
      have hs := hs8 (by omega)
      exact Mo_rb7 hT hk hr hb hl hab hO (by omega) (Or.inr ⟨by omega, Or.inl ⟨h8, k1, k2, by omega, k3, fun i h1 h2 h3 h4 => k4 i h1 h2 h3 (by omega)⟩⟩)
  · have hk4 : rkM (T.tkd c) = 4 := by rw [x2]; rfl
    obtain ⟨k1, k2, k3, k4⟩ := two x (by omega) y.lay.1 y.lt ((y.lay.2.2 rfl).1.le (by omega))
    exact Mo_rb6 hT hk hr hb hl hO hr0 (by omega) k1 k2 (by omega) k3 (fun i h1 h2 h3 h4 => k4 i h1 h2 h3 (by omega))
  · have hk4 : rkM (T.tkd c) = 4 := by rw [x3]; rfl
    have hm4 : rkM (T.tkd m1) = 4 := by rw [x2]; rfl
    have hone : Lay T.tkd m1 (m1 + 1) := Lay.one (by omega) (by omega) (by omega) (by omega)
    have hL := x.lay.1.trans (hone.trans y.lay.1)
    have hxl := x.lt; have hyl := y.lt; have hwl := w.lt
    have hcone : Lay T.tkd c (c + 1) := Lay.one (by omega) (by omega) (by omega) (by omega)
    refine Mo_rb6 hT hk hr hb hl hO hr0 (by omega) ⟨by omega, by omega, hL.2.2⟩ (by omega) (by omega) (y.lay.2.2 rfl).2.1 (fun i ht hci he e => ?_)
    rcases ht.split hL with ⟨h, _⟩ | ⟨_, ht⟩
    · omega
    · rcases ht.split hcone with ⟨h, _⟩ | ⟨_, ht⟩
      · omega
      · by_cases d : i = c + 1
        · subst d
          rw [Nat.add_sub_cancel] at he
          exact neO (by omega) he
        · have := (w.lay.2.2 rfl).1 i ht (by omega) he (by omega)
          omega
end Md
end
