section
/-! the root of an expression -/
/-- what stands for itself: one token, a call, rows -/
def VIt (T : Tks) (a b : Nat) (t : Tr Lb) : Prop :=
  (b = a + 1 ∧ ((T.tkd a = 2 ∧ t = Tr.nd (T.lb 32 a) .leaf) ∨ (T.tkd a = 3 ∧ t = Tr.nd (T.lb 30 a) .leaf) ∨ (T.tkd a = 4 ∧ t = Tr.nd (T.lb 31 a) .leaf) ∨ (T.tkd a = 13 ∧ t = Tr.nd (T.lb 35 a) .leaf)))
  ∨ (T.tkd a = 2 ∧ T.tkd (a + 1) = 50 ∧ ∃ b', b = b' + 1 ∧ T.tkd b' = 51 ∧ ∃ l, t = Tr.nd (33, T.tpl a, T.tpl (a + 1), T.twd a, nI a) l ∧ ((b' = a + 2 ∧ l = .leaf) ∨ VV T 1 0 (a + 2) b' l))
  ∨ (T.tkd a = 52 ∧ ∃ b', b = b' + 1 ∧ T.tkd b' = 53 ∧ ∃ l, t = Tr.nd (T.lb 36 a) l ∧ ((b' = a + 1 ∧ l = .leaf) ∨ VV T 3 0 (a + 1) b' l))
/-- an expression that no bracket surrounds, by its root c -/
def VR (T : Tks) (r a b c : Nat) (t : Tr Lb) : Prop :=
  (r = 10 ∧ c + 1 = b ∧ VIt T a b t)
  ∨ (r = 9 ∧ b = c + 1 ∧ T.tkd c = 48 ∧ ∃ r' l, 9 ≤ r' ∧ VV T 0 r' a c l ∧ t = Tr.nd (T.lb 38 c) l)
  ∨ (r = 7 ∧ c = a ∧ (T.tkd a = 40 ∨ T.tkd a = 39 ∨ T.tkd a = 49) ∧ ∃ r' l, 7 ≤ r' ∧ VV T 0 r' (a + 1) b l ∧ t = Tr.nd (T.lb 39 a) l)
  ∨ (0 < r ∧ r ≠ 4 ∧ rkM (T.tkd c) = r ∧ ∃ r1 t1 t2, r ≤ r1 ∧ VV T 0 r1 a c t1 ∧ VRt T (VV T) r (c + 1) b t2 ∧ t = Tr.nd (T.lb 40 c) (Tr.app t1 t2))
  ∨ (r = 4 ∧ T.tkd c = 38 ∧ ∃ r1 r2 t1 t2, 5 ≤ r1 ∧ 5 ≤ r2 ∧ VV T 0 r1 a c t1 ∧ VV T 0 r2 (c + 1) b t2 ∧ t = Tr.nd (T.lb 41 c) (Tr.app t1 t2))
  ∨ (r = 4 ∧ T.tkd c = 38 ∧ ∃ m, T.tkd m = 38 ∧ ∃ r1 r2 r3 t1 t2 t3, 5 ≤ r1 ∧ 5 ≤ r2 ∧ 5 ≤ r3 ∧ VV T 0 r1 a m t1 ∧ VV T 0 r2 (m + 1) c t2 ∧ VV T 0 r3 (c + 1) b t3 ∧ t = Tr.nd (41, T.tpl m, T.tpl c, T.twd m, nI m) (Tr.app t1 (Tr.app t2 t3)))
section G
variable {T : Tks}
theorem VV.root {r a b : Nat} {t : Tr Lb} (x : VV T 0 r a b t) : (∃ b', T.tkd a = 50 ∧ b = b' + 1 ∧ T.tkd b' = 51 ∧ r = 10 ∧ ∃ r', VV T 0 r' (a + 1) b' t) ∨ ∃ c, VR T r a b c t := by
  have hlt := x.lt
  rcases VS.unfold x with ⟨hr, x, y⟩ | ⟨x1, x2, b', x3, x4, r', x⟩ | ⟨x1, x2, x3, b', x4, x5, l, x6, x⟩ | ⟨x1, x2, b', x3, x4, l, x5, x⟩ | ⟨x1, b', x2, x3, r', l, x4, x, x5⟩ | ⟨x1, x2, r', l, x3, x, x4⟩ | ⟨x1, x2, m, x3, r1, t1, t2, x4, x, y, x5⟩ | ⟨x1, m, x2, r1, r2, t1, t2, x3, x4, x, y, x5⟩ | ⟨x1, m, m2, x2, x3, r1, r2, r3, t1, t2, t3, x4, x5, x6, x, y, w, x7⟩
  · exact Or.inr ⟨b - 1, Or.inl ⟨hr, by omega, Or.inl ⟨x, y⟩⟩⟩
  · exact Or.inl ⟨b', x2, x3, x4, x1, r', x⟩
  · exact Or.inr ⟨b - 1, Or.inl ⟨x1, by omega, Or.inr (Or.inl ⟨x2, x3, b', x4, x5, l, x6, x⟩)⟩⟩
  · exact Or.inr ⟨b - 1, Or.inl ⟨x1, by omega, Or.inr (Or.inr ⟨x2, b', x3, x4, l, x5, x⟩)⟩⟩
  · exact Or.inr ⟨b', Or.inr (Or.inl ⟨x1, x2, x3, r', l, x4, x, x5⟩)⟩
  · exact Or.inr ⟨a, Or.inr (Or.inr (Or.inl ⟨x1, rfl, x2, r', l, x3, x, x4⟩))⟩
  · exact Or.inr ⟨m, Or.inr (Or.inr (Or.inr (Or.inl ⟨x1, x2, x3, r1, t1, t2, x4, x, y, x5⟩)))⟩
  · exact Or.inr ⟨m, Or.inr (Or.inr (Or.inr (Or.inr (Or.inl ⟨x1, x2, r1, r2, t1, t2, x3, x4, x, y, x5⟩))))⟩
  · exact Or.inr ⟨m2, Or.inr (Or.inr (Or.inr (Or.inr (Or.inr ⟨x1, x3, m, x2, r1, r2, r3, t1, t2, t3, x4, x5, x6, x, y, w, x7⟩))))⟩
/-- a rooted expression is an expression -/
theorem VR.vv {r a b c : Nat} {t : Tr Lb} (x : VR T r a b c t) : VV T 0 r a b t := by
  refine VV.mk ?_
  rcases x with ⟨h1, h2, h3 | ⟨x2, x3, b', x4, x5, l, x6, x⟩ | ⟨x2, b', x3, x4, l, x5, x⟩⟩ | ⟨x1, x2, x3, r', l, x4, x, x5⟩ | ⟨x1, x0, x2, r', l, x3, x, x4⟩ | ⟨x1, x2, x3, r1, t1, t2, x4, x, y, x5⟩ | ⟨x1, x2, r1, r2, t1, t2, x3, x4, x, y, x5⟩ | ⟨x1, x3, m, x2, r1, r2, r3, t1, t2, t3, x4, x5, x6, x, y, w, x7⟩
  · exact Or.inl ⟨h1, h3⟩
  · exact Or.inr (Or.inr (Or.inl ⟨h1, x2, x3, b', x4, x5, l, x6, x⟩))
  · exact Or.inr (Or.inr (Or.inr (Or.inl ⟨h1, x2, b', x3, x4, l, x5, x⟩)))
  · exact Or.inr (Or.inr (Or.inr (Or.inr (Or.inl ⟨x1, c, x2, x3, r', l, x4, x, x5⟩))))
  · exact Or.inr (Or.inr (Or.inr (Or.inr (Or.inr (Or.inl ⟨x1, x2, r', l, x3, x, x4⟩)))))
  · exact Or.inr (Or.inr (Or.inr (Or.inr (Or.inr (Or.inr (Or.inl ⟨x1, x2, c, x3, r1, t1, t2, x4, x, y, x5⟩))))))
  · exact Or.inr (Or.inr (Or.inr (Or.inr (Or.inr (Or.inr (Or.inr (Or.inl ⟨x1, c, x2, r1, r2, t1, t2, x3, x4, x, y, x5⟩)))))))
  · exact Or.inr (Or.inr (Or.inr (Or.inr (Or.inr (Or.inr (Or.inr (Or.inr ⟨x1, m, c, x2, x3, r1, r2, r3, t1, t2, t3, x4, x5, x6, x, y, w, x7⟩)))))))
theorem Lay.opEnd {K : Nat → Nat} {a b e : Nat} (h : Lay K a b) (hab : a < b) (ho : K a = 50) (hb : b < 2 ^ 17) (he : clos K FU a 0 = some e) : e < b := by
  obtain ⟨e', h1, h2, h3, h4⟩ := h.hop (Lay.top hab) (Or.inl ho) hb
  rw [he] at h1
  have := Option.some.inj h1
  omega
/-- no bracket surrounds it -/
theorem VR.np {r a b c : Nat} {t : Tr Lb} (x : VR T r a b c t) (hb : b < 2 ^ 17) {e : Nat} (ho : T.tkd a = 50) (he : clos T.tkd FU a 0 = some e) : e ≠ b - 1 := by
  have out : ∀ {r' m : Nat} {l : Tr Lb}, VV T 0 r' a m l → m < b → e ≠ b - 1 := by
    intro r' m l h hm
    have := h.lay.1.opEnd h.lt ho (by omega) he
    omega
  have e48 : rkM 48 = 0 := rfl
  rcases x with ⟨h1, h2, h3 | ⟨x2, x3, b', x4, x5, l, x6, x⟩ | ⟨x2, b', x3, x4, l, x5, x⟩⟩ | ⟨x1, x2, x3, r', l, x4, x, x5⟩ | ⟨x1, x0, x2, r', l, x3, x, x4⟩ | ⟨x1, x2, x3, r1, t1, t2, x4, x, y, x5⟩ | ⟨x1, x2, r1, r2, t1, t2, x3, x4, x, y, x5⟩ | ⟨x1, x3, m, x2, r1, r2, r3, t1, t2, t3, x4, x5, x6, x, y, w, x7⟩
  · omega
  · omega
  · omega
  · exact out x (by omega)
  · omega
  · refine out x ?_
    rcases y with ⟨r2, _, y⟩ | ⟨_, _, r3, l, _, y, _⟩
    · have := y.lt; omega
    · have := y.lt; omega
  · have := y.lt
    exact out x (by omega)
  · have := y.lt; have := w.lt
    exact out x (by omega)
end G
section Md
variable {T : Tks} {m N5 : Nat} {a5 : Nat → Int32}
variable {n2 : Nat} {b2 : Nat → Int32}
variable {q1 q2 q3 q4 q5 q6 q7 q8 q9 q0 : Int32}
/-- the brackets around an expression -/
theorem Mo_ar2 (hT : TkOK T m) (hk : KdIs m N5 a5 T.tkd) {a0 b0 : Nat} : ∀ (n r v : Nat) (t : Tr Lb) (fu : Nat), VV T 0 r (a0 + v) (b0 - v) t → b0 - v - (a0 + v) ≤ n → n < fu → b0 ≤ m → v ≤ b0 →
    ∃ k r' c, F_Mo_around_2 (nI a0) (nI b0) q1 q2 q3 q4 q5 q6 q7 q8 q9 q0 N5 a5 fu (nI v) = some (nI (v + k)) ∧ VR T r' (a0 + v + k) (b0 - v - k) c t ∧ (∀ i, i < k → T.tkd (a0 + v + i) = 50 ∧ T.tkd (b0 - v - 1 - i) = 51) ∧ (k = 0 → r' = r) ∧ (0 < k → r = 10) := by
  intro n
  induction n with
  | zero =>
    intro r v t fu x h1 h2 h3 h4
    have := x.lt
    omega
  | succ n ih =>
    intro r v t fu x h1 h2 h3 h4
    have hle := hT.le
    have hlt := x.lt
    obtain ⟨f2, rfl⟩ : ∃ f2, fu = f2 + 1 := ⟨fu - 1, by omega⟩
    have e50 : (a5 (Int32.toNatClampNeg (nI (a0 + v))) = 50) = (T.tkd (a0 + v) = 50) := Mo_kd hk (by omega) (p := 50) (by omega)
    have hav : nI a0 + nI v = nI (a0 + v) := nI_add' a0 v
    have hbv : nI b0 - 1 - nI v = nI (b0 - v - 1) := by
      obtain ⟨b1, rfl⟩ : ∃ b1, b0 = b1 + 1 := ⟨b0 - 1, by omega⟩
      rw [nI_p1, nI_sub' (by omega)]; congr 1; omega
    rw [F_Mo_around_2, hav, Mo_at hk (by omega), Option.bind_some]
    simp only [e50]
    rcases x.root with ⟨b', h50, hb, h51, hr10, r', y⟩ | ⟨c, y⟩
    · have hylt := y.lt
      have hcl : clos T.tkd FU (a0 + v) 0 = some b' := Pass.closed (Or.inl h50) (Or.inl h51) y.pass FU (by unfold FU; omega)
      rw [if_pos h50, Mo_cl hk hcl (by omega) (by omega), Option.bind_some, hbv, if_pos (show nI b' = nI (b0 - v - 1) by congr 1; omega), show nI v + 1 = nI (v + 1) from nI_add' v 1]
      have e1 : a0 + (v + 1) = a0 + v + 1 := by omega
      have e2 : b0 - (v + 1) = b' := by omega
      obtain ⟨k, r2, c, g1, g2, g3, g4, g5⟩ := ih r' (v + 1) t f2 (by rw [e1, e2]; exact y) (by omega) (by omega) h3 (by omega)
      refine ⟨k + 1, r2, c, by rw [g1]; congr 2; omega, ?_, fun i hi => ?_, fun h => by omega, fun _ => hr10⟩
      · rw [show a0 + v + (k + 1) = a0 + (v + 1) + k by omega, show b0 - v - (k + 1) = b0 - (v + 1) - k by omega]; exact g2
      · by_cases hi0 : i = 0
        · subst hi0
          exact ⟨h50, by rw [show b0 - v - 1 - 0 = b' by omega]; exact h51⟩
        · have := g3 (i - 1) (by omega)
          rw [show a0 + v + i = a0 + (v + 1) + (i - 1) by omega, show b0 - v - 1 - i = b0 - (v + 1) - 1 - (i - 1) by omega]
          exact this
    · refine ⟨0, r, c, ?_, y, fun i hi => by omega, fun _ => rfl, fun h => by omega⟩
      by_cases h50 : T.tkd (a0 + v) = 50
      · obtain ⟨e, h5, h6, h7, _⟩ := x.lay.1.hop (Lay.top hlt) (Or.inl h50) (by omega)
        have := y.np (by omega) h50 h5
        rw [if_pos h50, Mo_cl hk h5 (by omega) (by omega), Option.bind_some, hbv, if_neg (show ¬ nI e = nI (b0 - v - 1) by rw [nI_eq' (by omega) (by omega)]; exact this), Nat.add_zero]
      · rw [if_neg h50, Nat.add_zero]
theorem Mo_ar (hT : TkOK T m) (hk : KdIs m N5 a5 T.tkd) {a b r : Nat} {t : Tr Lb} (x : VV T 0 r a b t) (hb : b ≤ m) :
    ∃ k r' c, F_Mo_around (nI a) (nI b) q1 q2 q3 q4 q5 q6 q7 q8 q9 q0 N5 a5 = some (nI k) ∧ VR T r' (a + k) (b - k) c t ∧ (∀ i, i < k → T.tkd (a + i) = 50 ∧ T.tkd (b - 1 - i) = 51) ∧ (k = 0 → r' = r) ∧ (0 < k → r = 10) := by
  have hle := hT.le
  have := Mo_ar2 hT hk (q1 := q1) (q2 := q2) (q3 := q3) (q4 := q4) (q5 := q5) (q6 := q6) (q7 := q7) (q8 := q8) (q9 := q9) (q0 := q0) (a0 := a) (b0 := b) b r 0 t FU x (by omega) (by unfold FU; omega) hb (Nat.zero_le _)
  rw [Nat.add_zero, Nat.sub_zero] at this
  obtain ⟨k, r', c, g⟩ := this
  rw [Nat.zero_add] at g
  exact ⟨k, r', c, g⟩
end Md
end
