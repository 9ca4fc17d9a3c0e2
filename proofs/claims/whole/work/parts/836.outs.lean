section
/-! what stands outside of the brackets of an expression -/
/-- a token that may end an operand -/
def eO (k : Nat) : Prop := k = 2 ∨ k = 3 ∨ k = 4 ∨ k = 13 ∨ k = 51 ∨ k = 53 ∨ k = 48
def xk (md k : Nat) : Prop := (k = 2 ∨ k = 3 ∨ k = 4 ∨ k = 13 ∨ (30 ≤ k ∧ k ≤ 50) ∨ k = 52) ∨ (1 ≤ md ∧ k = 54) ∨ (md = 3 ∧ k = 55)
theorem rk_rng {k : Nat} (h : 0 < rkM k) : 30 ≤ k ∧ k ≤ 47 := by
  unfold rkM at h
  by_cases c : k < 30
  · rw [if_pos c] at h; omega
  · rw [if_neg c] at h
    refine ⟨by omega, ?_⟩
    by_cases d : k ≤ 47
    · exact d
    · exfalso
      have : ∀ j, 18 ≤ j → rkL.getD j 0 = 0 := by
        intro j hj
        by_cases e : j < 27
        · have : j = 18 ∨ j = 19 ∨ j = 20 ∨ j = 21 ∨ j = 22 ∨ j = 23 ∨ j = 24 ∨ j = 25 ∨ j = 26 := by omega
          rcases this with rfl | rfl | rfl | rfl | rfl | rfl | rfl | rfl | rfl <;> rfl
        · rw [List.getD_eq_getElem?_getD, List.getElem?_eq_none (show rkL.length ≤ j by show 27 ≤ j; omega)]; rfl
      rw [this (k - 30) (by omega)] at h
      omega
/-- operators with two operands outside of the brackets have rank r at the least -/
def OpG (K : Nat → Nat) (r a b : Nat) : Prop := ∀ i, Top K a b i → a < i → eO (K (i - 1)) → 0 < rkM (K i) → r ≤ rkM (K i)
theorem OpG.one {K : Nat → Nat} {r a : Nat} : OpG K r a (a + 1) := fun i t h => by have := t.2.1; omega
theorem OpG.le {K : Nat → Nat} {r r' a b : Nat} (h : OpG K r a b) (g : r' ≤ r) : OpG K r' a b := fun i t h1 h2 h3 => Nat.le_trans g (h i t h1 h2 h3)
theorem OpG.cat {K : Nat → Nat} {r a m b : Nat} (hl : Lay K a m) (h : OpG K r a m) (g : OpG K r m b) (hm : eO (K (m - 1)) → a < m → 0 < rkM (K m) → r ≤ rkM (K m)) : OpG K r a b := by
  intro i t h1 h2 h3
  rcases t.split hl with ⟨_, t'⟩ | ⟨hmi, t'⟩
  · exact h i t' h1 h2 h3
  · by_cases d : i = m
    · subst d; exact hm h2 h1 h3
    · exact g i t' (by omega) h2 h3
/-- what is known of an expression of rank r -/
def EF (K : Nat → Nat) (r a b : Nat) : Prop := OpG K r a b ∧ eO (K (b - 1)) ∧ (8 ≤ r → K a ≠ 39 ∧ K a ≠ 40 ∧ K a ≠ 49) ∧ (r = 10 → K (b - 1) ≠ 48) ∧ 0 < r ∧ r ≤ 10
section G
variable {T : Tks}
theorem rk_le (k : Nat) : rkM k ≤ 8 := by
  unfold rkM
  by_cases c : k < 30
  · rw [if_pos c]; omega
  · rw [if_neg c]
    by_cases d : k - 30 < 27
    · have : ∀ j : Fin 27, rkL.getD j.1 0 ≤ 8 := by decide
      exact this ⟨k - 30, d⟩
    · rw [List.getD_eq_getElem?_getD, List.getElem?_eq_none (show rkL.length ≤ k - 30 by show 27 ≤ k - 30; omega)]
      exact Nat.zero_le _
theorem rk_not7 (k : Nat) : rkM k ≠ 7 := by
  unfold rkM
  by_cases c : k < 30
  · rw [if_pos c]; omega
  · rw [if_neg c]
    by_cases d : k - 30 < 27
    · have : ∀ j : Fin 27, rkL.getD j.1 0 ≠ 7 := by decide
      exact this ⟨k - 30, d⟩
    · rw [List.getD_eq_getElem?_getD, List.getElem?_eq_none (show rkL.length ≤ k - 30 by show 27 ≤ k - 30; omega)]
      exact fun h => by cases h
theorem neO {k : Nat} (h : 0 < rkM k) : ¬ eO k := fun x => by have := rk_rng h; unfold eO at x; omega
/-- a piece of the grammar: its brackets are closed, and these kinds stand outside -/
theorem Vx.lay : ∀ {f md r a b : Nat} {t : Tr Lb}, Vx T f md r a b t → Lay T.tkd a b ∧ (∀ i, Top T.tkd a b i → xk md (T.tkd i)) ∧ (md = 0 → EF T.tkd r a b)
  | 0, _, _, _, _, _, x => x.elim
  | f + 1, 0, r, a, b, t, x => by
    have tk : ∀ {a : Nat}, (T.tkd a = 2 ∨ T.tkd a = 3 ∨ T.tkd a = 4 ∨ T.tkd a = 13 ∨ (30 ≤ T.tkd a ∧ T.tkd a ≤ 49)) → Lay T.tkd a (a + 1) ∧ ∀ i, Top T.tkd a (a + 1) i → xk 0 (T.tkd i) := fun {a} h => ⟨Lay.one (by omega) (by omega) (by omega) (by omega), fun i t => by rw [t.one]; unfold xk; omega⟩
    have jn : ∀ {a b c : Nat}, (Lay T.tkd a b ∧ ∀ i, Top T.tkd a b i → xk 0 (T.tkd i)) → (Lay T.tkd b c ∧ ∀ i, Top T.tkd b c i → xk 0 (T.tkd i)) → Lay T.tkd a c ∧ ∀ i, Top T.tkd a c i → xk 0 (T.tkd i) := fun h1 h2 => ⟨h1.1.trans h2.1, fun i t => (t.split h1.1).elim (fun t => h1.2 i t.2) (fun t => h2.2 i t.2)⟩
    have bk : ∀ {a c : Nat}, (T.tkd a = 50 ∨ T.tkd a = 52) → Lay T.tkd (a + 1) c → (T.tkd c = 51 ∨ T.tkd c = 53) → Lay T.tkd a (c + 1) ∧ ∀ i, Top T.tkd a (c + 1) i → xk 0 (T.tkd i) := fun ho h hc => ⟨Lay.brk ho h hc, fun i t => by rw [t.brk ho h]; unfold xk; omega⟩
    have ob : ∀ {a c r : Nat}, (T.tkd a = 50 ∨ T.tkd a = 52) → Lay T.tkd (a + 1) c → OpG T.tkd r a (c + 1) := fun ho h i t h1 => by have := t.brk ho h; omega
    have ih : ∀ {r a b t}, Vx T f 0 r a b t → (Lay T.tkd a b ∧ ∀ i, Top T.tkd a b i → xk 0 (T.tkd i)) := fun x => ⟨(Vx.lay x).1, (Vx.lay x).2.1⟩
    have ie : ∀ {r a b t}, Vx T f 0 r a b t → EF T.tkd r a b := fun x => (Vx.lay x).2.2 rfl
    rcases x with ⟨hr, x, y⟩ | ⟨x1, x2, b', x3, x4, r', x⟩ | ⟨x1, x2, x3, b', x4, x5, l, x6, x⟩ | ⟨x1, x2, b', x3, x4, l, x5, x⟩ | ⟨x1, b', x2, x3, r', l, x4, x, x5⟩ | ⟨x1, x2, r', l, x3, x, x4⟩ | ⟨x1, x2, m, x3, r1, t1, t2, x4, x, y, x5⟩ | ⟨x1, m, x2, r1, r2, t1, t2, x3, x4, x, y, x5⟩ | ⟨x1, m, m2, x2, x3, r1, r2, r3, t1, t2, t3, x4, x5, x6, x, y, w, x7⟩
    · subst x
      have h : T.tkd a = 2 ∨ T.tkd a = 3 ∨ T.tkd a = 4 ∨ T.tkd a = 13 := by omega
      have := tk (a := a) (by omega)
      exact ⟨this.1, this.2, fun _ => ⟨OpG.one, by rw [Nat.add_sub_cancel]; unfold eO; omega, fun _ => by omega, fun _ => by rw [Nat.add_sub_cancel]; omega, by omega, by omega⟩⟩
    · subst x3
      have := bk (Or.inl x2) (ih x).1 (Or.inl x4)
      exact ⟨this.1, this.2, fun _ => ⟨ob (Or.inl x2) (ih x).1, by rw [Nat.add_sub_cancel]; unfold eO; omega, fun _ => by omega, fun _ => by rw [Nat.add_sub_cancel]; omega, by omega, by omega⟩⟩
    · subst x4
      have hin : Lay T.tkd (a + 1 + 1) b' := by
        rcases x with ⟨x, _⟩ | x
        · subst x; exact Lay.nil
        · exact (Vx.lay x).1
      have := jn (tk (a := a) (by omega)) (bk (Or.inl x3) hin (Or.inl x5))
      refine ⟨this.1, this.2, fun _ => ⟨OpG.cat (tk (a := a) (by omega)).1 OpG.one (ob (Or.inl x3) hin) (fun _ _ h => ?_), by rw [Nat.add_sub_cancel]; unfold eO; omega, fun _ => by omega, fun _ => by rw [Nat.add_sub_cancel]; omega, by omega, by omega⟩⟩
      have := rk_rng h; omega
    · subst x3
      have hin : Lay T.tkd (a + 1) b' := by
        rcases x with ⟨x, _⟩ | x
        · subst x; exact Lay.nil
        · exact (Vx.lay x).1
      have := bk (Or.inr x2) hin (Or.inr x4)
      exact ⟨this.1, this.2, fun _ => ⟨ob (Or.inr x2) hin, by rw [Nat.add_sub_cancel]; unfold eO; omega, fun _ => by omega, fun _ => by rw [Nat.add_sub_cancel]; omega, by omega, by omega⟩⟩
    · subst x2
      have hx := ih x
      have hl := Vx.lt x
      have hE := ie x
      have := jn hx (tk (a := b') (by omega))
      refine ⟨this.1, this.2, fun _ => ⟨OpG.cat hx.1 (hE.1.le (by omega)) OpG.one (fun _ _ h => ?_), by rw [Nat.add_sub_cancel]; unfold eO; omega, fun _ => hE.2.2.1 (by omega), fun h => by omega, by omega, by omega⟩⟩
      have := rk_rng h; omega
    · have hx := ih x
      have hE := ie x
      have hl := Vx.lt x
      have := jn (tk (a := a) (by omega)) hx
      refine ⟨this.1, this.2, fun _ => ⟨OpG.cat (tk (a := a) (by omega)).1 OpG.one (hE.1.le (by omega)) (fun h => ?_), hE.2.1, fun h => by omega, fun h => by omega, by omega, by omega⟩⟩
      rw [Nat.add_sub_cancel] at h
      unfold eO at h; omega
    · have hx := ih x
      have hE := ie x
      have hm := rk_rng (show 0 < rkM (T.tkd m) by omega)
      have hm' := neO (show 0 < rkM (T.tkd m) by omega)
      have hr8 := rk_le (T.tkd m)
      have hr7 := rk_not7 (T.tkd m)
      have hR : (Lay T.tkd (m + 1) b ∧ ∀ i, Top T.tkd (m + 1) b i → xk 0 (T.tkd i)) ∧ OpG T.tkd r (m + 1) b ∧ eO (T.tkd (b - 1)) := by
        rcases y with ⟨r2, h2, y⟩ | ⟨h8, h40, r3, l, h9, y, _⟩
        · exact ⟨ih y, (ie y).1.le (by omega), (ie y).2.1⟩
        · refine ⟨jn (tk (a := m + 1) (by omega)) (ih y), OpG.cat (tk (a := m + 1) (by omega)).1 OpG.one ((ie y).1.le (by omega)) (fun h => ?_), (ie y).2.1⟩
          rw [Nat.add_sub_cancel] at h
          unfold eO at h; omega
      have := jn hx (jn (tk (a := m) (by omega)) hR.1)
      have hxl := Vx.lt x
      refine ⟨this.1, this.2, fun _ => ⟨OpG.cat hx.1 (hE.1.le x4) (OpG.cat (tk (a := m) (by omega)).1 OpG.one hR.2.1 (fun h => ?_)) (fun _ _ _ => by omega), hR.2.2, fun h => hE.2.2.1 (by omega), fun h => by omega, by omega, by omega⟩⟩
      rw [Nat.add_sub_cancel] at h
      exact absurd h hm'
    · have hx := ih x
      have hE := ie x
      have hy := ih y
      have hF := ie y
      have hk : rkM (T.tkd m) = 4 := by rw [x2]; rfl
      have := jn hx (jn (tk (a := m) (by omega)) hy)
      refine ⟨this.1, this.2, fun _ => ⟨OpG.cat hx.1 (hE.1.le (by omega)) (OpG.cat (tk (a := m) (by omega)).1 OpG.one (hF.1.le (by omega)) (fun h => ?_)) (fun _ _ _ => by omega), hF.2.1, fun h => by omega, fun h => by omega, by omega, by omega⟩⟩
      rw [Nat.add_sub_cancel] at h
      exact absurd h (neO (by omega))
    · have hx := ih x
      have hE := ie x
      have hy := ih y
      have hF := ie y
      have hw := ih w
      have hG := ie w
      have hk : rkM (T.tkd m) = 4 := by rw [x2]; rfl
      have hk2 : rkM (T.tkd m2) = 4 := by rw [x3]; rfl
      have := jn hx (jn (tk (a := m) (by omega)) (jn hy (jn (tk (a := m2) (by omega)) hw)))
      refine ⟨this.1, this.2, fun _ => ⟨OpG.cat hx.1 (hE.1.le (by omega)) (OpG.cat (tk (a := m) (by omega)).1 OpG.one (OpG.cat hy.1 (hF.1.le (by omega)) (OpG.cat (tk (a := m2) (by omega)).1 OpG.one (hG.1.le (by omega)) (fun h => ?_)) (fun _ _ _ => by omega)) (fun h => ?_)) (fun _ _ _ => by omega), hG.2.1, fun h => by omega, fun h => by omega, by omega, by omega⟩⟩
      · rw [Nat.add_sub_cancel] at h
        exact absurd h (neO (by omega))
      · rw [Nat.add_sub_cancel] at h
        exact absurd h (neO (by omega))
  | f + 1, 1, r, a, b, t, x => by
    have el : ∀ {a b : Nat} {t : Tr Lb}, VEl T (Vx T f) true a b t → Lay T.tkd a b ∧ ∀ i, Top T.tkd a b i → xk 1 (T.tkd i) := by
      intro a b t y
      rcases y with ⟨r, y⟩ | ⟨_, y, h, _⟩
      · obtain ⟨h1, h2, _⟩ := Vx.lay y
        exact ⟨h1, fun i t => Or.inl ((h2 i t).resolve_right (by omega))⟩
      · subst y
        exact ⟨Lay.one (by omega) (by omega) (by omega) (by omega), fun i t => by rw [t.one]; unfold xk; omega⟩
    rcases x with x | ⟨m, t1, t2, x1, x, y, x2⟩
    · exact ⟨(el x).1, (el x).2, fun h => by cases h⟩
    · obtain ⟨h1, h2, _⟩ := Vx.lay x
      obtain ⟨h3, h4⟩ := el y
      have h5 : Lay T.tkd m (m + 1) := Lay.one (by omega) (by omega) (by omega) (by omega)
      exact ⟨h1.trans (h5.trans h3), fun i t => (t.split h1).elim (fun t => h2 i t.2) (fun t => (t.2.split h5).elim (fun t => by rw [t.2.one]; unfold xk; omega) (fun t => h4 i t.2)), fun h => by cases h⟩
  | f + 1, 2, r, a, b, t, x => by
    have el : ∀ {a b : Nat} {t : Tr Lb}, VEl T (Vx T f) false a b t → Lay T.tkd a b ∧ ∀ i, Top T.tkd a b i → xk 2 (T.tkd i) := by
      intro a b t y
      rcases y with ⟨r, y⟩ | ⟨h, _⟩
      · obtain ⟨h1, h2, _⟩ := Vx.lay y
        exact ⟨h1, fun i t => Or.inl ((h2 i t).resolve_right (by omega))⟩
      · cases h
    rcases x with x | ⟨m, t1, t2, x1, x, y, x2⟩
    · exact ⟨(el x).1, (el x).2, fun h => by cases h⟩
    · obtain ⟨h1, h2, _⟩ := Vx.lay x
      obtain ⟨h3, h4⟩ := el y
      have h5 : Lay T.tkd m (m + 1) := Lay.one (by omega) (by omega) (by omega) (by omega)
      exact ⟨h1.trans (h5.trans h3), fun i t => (t.split h1).elim (fun t => h2 i t.2) (fun t => (t.2.split h5).elim (fun t => by rw [t.2.one]; unfold xk; omega) (fun t => h4 i t.2)), fun h => by cases h⟩
  | f + 1, 3, r, a, b, t, x => by
    have up : ∀ {k : Nat}, xk 2 k → xk 3 k := fun {k} h => by unfold xk at h ⊢; omega
    rcases x with ⟨l, x, x1⟩ | ⟨m, t1, l, x1, x, y, x2⟩
    · obtain ⟨h1, h2, _⟩ := Vx.lay x
      exact ⟨h1, fun i t => up (h2 i t), fun h => by cases h⟩
    · obtain ⟨h1, h2, _⟩ := Vx.lay x
      obtain ⟨h3, h4, _⟩ := Vx.lay y
      have h5 : Lay T.tkd m (m + 1) := Lay.one (by omega) (by omega) (by omega) (by omega)
      exact ⟨h1.trans (h5.trans h3), fun i t => (t.split h1).elim (fun t => h2 i t.2) (fun t => (t.2.split h5).elim (fun t => by rw [t.2.one]; unfold xk; omega) (fun t => up (h4 i t.2))), fun h => by cases h⟩
  | f + 1, _ + 4, r, a, b, t, x => x.elim
theorem VV.lay {md r a b : Nat} {t : Tr Lb} (x : VV T md r a b t) : Lay T.tkd a b ∧ (∀ i, Top T.tkd a b i → xk md (T.tkd i)) ∧ (md = 0 → EF T.tkd r a b) := by
  obtain ⟨f, x⟩ := x
  exact x.lay
end G
end
