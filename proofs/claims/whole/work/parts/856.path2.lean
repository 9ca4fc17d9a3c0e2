section
def st13 (k : Nat) : Prop := k = 13
section G
variable {T : Tks}
theorem NmL.lay {tg : Bool} {a : Nat} : ∀ {n : Nat} {t : Tr Lb}, NmL T tg a (n + 1) t → Lay T.tkd a (a + 2 * n + 1)
  | 0, t, ⟨t0, h1, h2, h3⟩ => by
    have hk : T.tkd a = 2 ∨ T.tkd a = 49 := by
      rcases h3 with ⟨h, _⟩ | ⟨_, h, _⟩
      · exact Or.inl h
      · exact Or.inr h
    exact Lay.one (by omega) (by omega) (by omega) (by omega)
  | n + 1, t, ⟨t0, h1, h2, h3⟩ => by
    have ih := NmL.lay h1
    have hc := h2 (by omega)
    have hk : T.tkd (a + 2 * (n + 1)) = 2 ∨ T.tkd (a + 2 * (n + 1)) = 49 := by
      rcases h3 with ⟨h, _⟩ | ⟨_, h, _⟩
      · exact Or.inl h
      · exact Or.inr h
    have e1 : a + 2 * (n + 1) - 1 = a + 2 * n + 1 := by omega
    rw [e1] at hc
    have l1 : Lay T.tkd (a + 2 * n + 1) (a + 2 * n + 1 + 1) := Lay.one (by omega) (by omega) (by omega) (by omega)
    have l2 : Lay T.tkd (a + 2 * (n + 1)) (a + 2 * (n + 1) + 1) := Lay.one (by omega) (by omega) (by omega) (by omega)
    exact ih.trans (l1.trans (show Lay T.tkd (a + 2 * n + 1 + 1) _ from by rw [show a + 2 * n + 1 + 1 = a + 2 * (n + 1) by omega]; exact l2))
/-- what is known of the tokens of statements -/
def SQ (T : Tks) (md a b : Nat) : Prop := b < 2 ^ 17 → a ≤ b ∧ (md ≤ 1 → ∃ n, Pth T.tkd stB n a 0 b 0) ∧ (md = 0 → a + 1 < b ∧ (opb (T.tkd a) → T.tkd (b - 1) = 13 ∧ ∃ n, Pth T.tkd st13 n (a + 1) 0 (b - 1) 0) ∧ (¬ opb (T.tkd a) → T.tkd (b - 1) = 55 ∧ Lay T.tkd a (b - 1) ∧ ∀ i, Top T.tkd a (b - 1) i → T.tkd i ≠ 55)) ∧ (md = 2 → a + 1 < b ∧ ∃ n, Pth T.tkd st13 n (a + 1) 0 b 0)
theorem Pth.pl {K : Nat → Nat} {st : Nat → Prop} {i : Nat} (h1 : K i ≠ 50) (h2 : K i ≠ 52) (h3 : ¬ opb (K i)) (h4 : K i ≠ 13) (h5 : ¬ st (K i)) : Pth K st 1 i 0 (i + 1) 0 := Pth.one (Or.inr (Or.inr (Or.inr ⟨h1, h2, h3, h4, rfl, rfl⟩))) (fun _ => h5)
theorem Pth.jn {K : Nat → Nat} {st : Nat → Prop} {i d j e j' e' : Nat} (h : ∃ n, Pth K st n i d j e) (g : ∃ n, Pth K st n j e j' e') : ∃ n, Pth K st n i d j' e' := by
  obtain ⟨n, h⟩ := h
  obtain ⟨k, g⟩ := g
  exact ⟨n + k, h.app g⟩
/-- a statement with a block -/
theorem SQ.blk {a e : Nat} (ho : opb (T.tkd a)) (he : T.tkd e = 13) (hae : a + 1 ≤ e) (h : ∃ n, Pth T.tkd st13 n (a + 1) 0 e 0) : SQ T 0 a (e + 1) := by
  intro hb
  obtain ⟨n, h⟩ := h
  refine ⟨by omega, fun _ => ⟨1 + (n + 1), ?_⟩, fun _ => ⟨by omega, fun _ => ⟨by rw [Nat.add_sub_cancel]; exact he, n, by rw [Nat.add_sub_cancel]; exact h⟩, fun x => absurd ho x⟩, fun x => (by cases x)⟩
  have h1 : Pth T.tkd stB 1 a 0 (a + 1) 1 := Pth.one (Or.inr (Or.inl ⟨ho, rfl, rfl⟩)) (fun _ x => by unfold opb at ho; unfold stB at x; omega)
  have h2 : Pth T.tkd stB n (a + 1) 1 e 1 := h.up
  have h3 : Pth T.tkd stB 1 e 1 (e + 1) 0 := Pth.one (Or.inr (Or.inr (Or.inl ⟨he, rfl, rfl⟩))) (fun x => by omega)
  exact h1.app (h2.app h3)
/-- a statement without one -/
theorem SQ.smp {a e : Nat} (he : T.tkd e = 55) (hae : a < e) (hl : Lay T.tkd a e) (ht : ∀ i, Top T.tkd a e i → ¬ opb (T.tkd i) ∧ T.tkd i ≠ 13 ∧ ¬ stB (T.tkd i) ∧ T.tkd i ≠ 55) : SQ T 0 a (e + 1) := by
  intro hb
  have h1 := hl.pth (st := stB) (d := 0) (by omega) (fun i t => ⟨(ht i t).1, (ht i t).2.1, (ht i t).2.2.1⟩) (e - a) a (by omega) (Nat.le_refl _) (by omega) dp_self
  have h2 : Pth T.tkd stB 1 e 0 (e + 1) 0 := Pth.pl (by omega) (by omega) (by unfold opb; omega) (by omega) (by unfold stB; omega)
  have h0 := (ht a (Lay.top hae)).1
  exact ⟨by omega, fun _ => Pth.jn h1 ⟨1, h2⟩, fun _ => ⟨by omega, fun x => absurd x h0, fun _ => ⟨by rw [Nat.add_sub_cancel]; exact he, by rw [Nat.add_sub_cancel]; exact hl, by rw [Nat.add_sub_cancel]; exact fun i t => (ht i t).2.2.2⟩⟩, fun x => (by cases x)⟩
/-- a bracket inside a block's head -/
theorem brk_pth {a c : Nat} (hc17 : c < 2 ^ 17 - 1) (ho : T.tkd a = 50 ∨ T.tkd a = 52) (h : Lay T.tkd (a + 1) c) (hc : T.tkd c = 51 ∨ T.tkd c = 53) : ∃ n, Pth T.tkd st13 n a 0 (c + 1) 0 := by
  have h1 := h.1
  refine (Lay.brk ho h hc).pth (by omega) (fun i t => ?_) (c + 1 - a) a (by omega) (Nat.le_refl _) (by omega) dp_self
  rw [t.brk ho h]
  unfold opb st13; omega
theorem SS.sq : ∀ {md a b : Nat} {t : Tr Lb}, SS T (fun md a b _ => SQ T md a b) md a b t → SQ T md a b
  | 0, a, b, t, x => by
    have vt : ∀ {md r a b : Nat} {t : Tr Lb}, VV T md r a b t → md ≤ 2 → E13 T.tkd a b → ∀ i, Top T.tkd a b i → ¬ opb (T.tkd i) ∧ T.tkd i ≠ 13 ∧ ¬ stB (T.tkd i) ∧ T.tkd i ≠ 55 := by
      intro md r a b t h hmd h13 i ht
      have k := h.lay.2.1 i ht
      have k13 := h13.top ht
      unfold xk at k
      unfold opb stB
      omega
    have v1 : ∀ {i : Nat}, (T.tkd i = 2 ∨ T.tkd i = 56 ∨ T.tkd i = 16 ∨ T.tkd i = 17 ∨ T.tkd i = 18 ∨ T.tkd i = 20 ∨ T.tkd i = 21) → Lay T.tkd i (i + 1) ∧ ∀ j, Top T.tkd i (i + 1) j → ¬ opb (T.tkd j) ∧ T.tkd j ≠ 13 ∧ ¬ stB (T.tkd j) ∧ T.tkd j ≠ 55 := fun {i} h => ⟨Lay.one (by omega) (by omega) (by omega) (by omega), fun j t => by rw [t.one]; unfold opb stB; omega⟩
    have bk : ∀ {a c : Nat}, (T.tkd a = 50 ∨ T.tkd a = 52) → Lay T.tkd (a + 1) c → (T.tkd c = 51 ∨ T.tkd c = 53) → Lay T.tkd a (c + 1) ∧ ∀ j, Top T.tkd a (c + 1) j → ¬ opb (T.tkd j) ∧ T.tkd j ≠ 13 ∧ ¬ stB (T.tkd j) ∧ T.tkd j ≠ 55 := fun ho h hc => ⟨Lay.brk ho h hc, fun j t => by rw [t.brk ho h]; unfold opb stB; omega⟩
    have jn : ∀ {a b c : Nat}, (Lay T.tkd a b ∧ ∀ j, Top T.tkd a b j → ¬ opb (T.tkd j) ∧ T.tkd j ≠ 13 ∧ ¬ stB (T.tkd j) ∧ T.tkd j ≠ 55) → (Lay T.tkd b c ∧ ∀ j, Top T.tkd b c j → ¬ opb (T.tkd j) ∧ T.tkd j ≠ 13 ∧ ¬ stB (T.tkd j) ∧ T.tkd j ≠ 55) → (Lay T.tkd a c ∧ ∀ j, Top T.tkd a c j → ¬ opb (T.tkd j) ∧ T.tkd j ≠ 13 ∧ ¬ stB (T.tkd j) ∧ T.tkd j ≠ 55) := fun h1 h2 => ⟨h1.1.trans h2.1, fun i t => (t.split h1.1).elim (fun t => h1.2 i t.2) (fun t => h2.2 i t.2)⟩
    have toB : ∀ {i j : Nat}, (∃ n, Pth T.tkd stB n i 0 j 0) → ∃ n, Pth T.tkd st13 n i 0 j 0 := fun ⟨n, h⟩ => ⟨n, h.mono (fun k hk => by unfold st13 at hk; unfold stB; omega)⟩
    have p1 : ∀ {i : Nat}, (T.tkd i = 12 ∨ T.tkd i = 23 ∨ T.tkd i = 2 ∨ T.tkd i = 56) → ∃ n, Pth T.tkd st13 n i 0 (i + 1) 0 := fun {i} h => ⟨1, Pth.pl (by omega) (by omega) (by unfold opb; omega) (by omega) (by unfold st13; omega)⟩
    rcases x with ⟨h1, h2, h3⟩ | ⟨b', l, h1, h2, h3, h4, h5⟩ | ⟨b', r, l, h1, h2, h3, h4, h5, h6⟩ | ⟨g, b', r1, r2, t1, t2, h1, h2, h3, h4, h5, h6, h7, h8, h9⟩ | ⟨n, l, g, c, l2, h1, h2, h3, h4, h5, h6, h7, h8, h9, h10, h11, h12, h13⟩ | ⟨d, l, h1, h2, h3⟩ | ⟨c, r, l, e, S, h1, h2, h3, h4, h5, h6, h7, h8⟩ | ⟨c, r, l, e, S, h1, h2, h3, h4, h5, h6, h7, h8, h9, h10⟩ | ⟨c, e, S1, S2, h1, h2, h3, h4, h5, h6, h7⟩ | ⟨nm', c, e, R, Q, S, h1, h2, h3, h4, h5⟩
    · subst h1
      have v := v1 (i := a) (by omega)
      exact SQ.smp (e := a + 1) h2 (by omega) v.1 v.2
    · subst h1
      have v := jn (v1 (i := a) (by omega)) ⟨h3.lay.1, vt h3 (by omega) h4⟩
      exact SQ.smp h2 (by have := h3.lt; omega) v.1 v.2
    · subst h1
      exact SQ.smp h2 h4.lt h4.lay.1 (vt h4 (by omega) h5)
    · subst h1
      have v := jn (⟨h5.lay.1, vt h5 (by omega) h7⟩ : Lay T.tkd a g ∧ _) (jn (v1 (i := g) (by omega)) ⟨h6.lay.1, vt h6 (by omega) h8⟩)
      exact SQ.smp h2 (by have := h5.lt; have := h6.lt; omega) v.1 v.2
    · obtain ⟨n', rfl⟩ : ∃ n', n = n' + 1 := ⟨n - 1, by omega⟩
      have hl := h3.lay
      rw [show a + 1 + 2 * n' + 1 = a + 2 * (n' + 1) by omega] at hl
      have v0 := bk (Or.inr h1) hl (Or.inr h4)
      rw [← h5] at v0
      have hin : Lay T.tkd (g + 2 + 1) c := by
        rcases h9 with ⟨k, _⟩ | k
        · subst k; exact Lay.nil
        · exact k.lay.1
      have v := jn v0 (jn (v1 (i := g) (by omega)) (jn (v1 (i := g + 1) (by omega)) (bk (Or.inl h8) hin (Or.inl h10))))
      subst h12
      have := hin.1
      exact SQ.smp (e := c + 1) h11 (by omega) v.1 v.2
    · rcases h3 with ⟨k1, k2, _⟩ | ⟨k1, e, S, k2, k3, k4, _⟩
      · subst k2
        intro hb
        obtain ⟨q1, _, _, q2⟩ := h2 (by omega)
        exact SQ.blk (by unfold opb; omega) k1 (by have := (q2 rfl).1; omega) (q2 rfl).2 hb
      · subst k4
        intro hb
        obtain ⟨w1, w2, _, _⟩ := k2 (by omega)
        obtain ⟨q1, _, _, q2⟩ := h2 (by omega)
        exact SQ.blk (by unfold opb; omega) k3 (by have := (q2 rfl).1; omega) (Pth.jn (q2 rfl).2 (Pth.jn (p1 (Or.inl k1)) (toB (w2 (by omega))))) hb
    · subst h7
      intro hb
      obtain ⟨w1, w2, _, _⟩ := h5 (by omega)
      have hl := h3.lt
      exact SQ.blk (by unfold opb; omega) h6 (by omega) (Pth.jn (brk_pth (by omega) (Or.inl h2) h3.lay.1 (Or.inl h4)) (toB (w2 (by omega)))) hb
    · subst h9
      intro hb
      obtain ⟨w1, w2, _, _⟩ := h7 (by omega)
      have hl := h5.lt
      have l2 : Lay T.tkd (a + 1 + 1) c := (v1 (i := a + 2) (by omega)).1.trans ((v1 (i := a + 3) (by omega)).1.trans h5.lay.1)
      exact SQ.blk (by unfold opb; omega) h8 (by omega) (Pth.jn (brk_pth (by omega) (Or.inl h2) l2 (Or.inl h6)) (toB (w2 (by omega)))) hb
    · subst h6
      intro hb
      obtain ⟨w1, w2, _, _⟩ := h4 (by omega)
      obtain ⟨y1, y2, _, _⟩ := h2 (by omega)
      exact SQ.blk (by unfold opb; omega) h5 (by omega) (Pth.jn (toB (y2 (by omega))) (Pth.jn (p1 (Or.inr (Or.inl h3))) (toB (w2 (by omega))))) hb
    · subst h4
      intro hb
      obtain ⟨w1, w2, _, _⟩ := h2 (by omega)
      obtain ⟨f1, f2, f3, f4, n, f5, f6, f7⟩ := h1
      -- the parameters
      have hpar : nm' + 2 ≤ c ∧ Lay T.tkd (nm' + 1 + 1) c := by
        match n, f5, f6 with
        | 0, _, f6 =>
          rw [if_pos rfl] at f6
          subst f6
          exact ⟨by omega, Lay.nil⟩
        | n + 1, f5, f6 =>
          rw [if_neg (by omega)] at f6
          have := f5.lay
          rw [show nm' + 2 + 2 * n + 1 = c by omega] at this
          exact ⟨by omega, this⟩
      have hhead : a + 1 ≤ nm' ∧ ∃ n, Pth T.tkd st13 n (a + 1) 0 nm' 0 := by
        rcases f2 with ⟨k1, n, k2, k3, k4, k5, k6⟩ | ⟨k1, k2, k3, k4⟩ | ⟨k1, k2⟩
        · obtain ⟨n', rfl⟩ : ∃ n', n = n' + 1 := ⟨n - 1, by omega⟩
          have hl := k3.lay
          rw [show a + 2 + 2 * n' + 1 = a + 2 * (n' + 1) + 1 by omega] at hl
          refine ⟨by omega, ?_⟩
          have q1 := brk_pth (a := a + 1) (c := a + 2 * (n' + 1) + 1) (by omega) (Or.inr k1) hl (Or.inr k4)
          have q2 := p1 (i := a + 2 * (n' + 1) + 2) (Or.inr (Or.inr (Or.inr k5)))
          rw [k6]
          exact Pth.jn q1 q2
        · refine ⟨by omega, ?_⟩
          rw [k4]
          exact Pth.jn (p1 (i := a + 1) (Or.inr (Or.inr (Or.inl k1)))) (p1 (i := a + 2) (Or.inr (Or.inr (Or.inr k2))))
        · refine ⟨by omega, ?_⟩
          rw [k2]
          exact ⟨0, rfl, rfl⟩
      exact SQ.blk (by unfold opb; omega) h3 (by omega) (Pth.jn hhead.2 (Pth.jn (p1 (i := nm') (Or.inr (Or.inr (Or.inl f3)))) (Pth.jn (brk_pth (by omega) (Or.inl f4) hpar.2 (Or.inl f7)) (toB (w2 (by omega)))))) hb
  | 1, a, b, t, x => by
    intro hb
    rcases x with ⟨h1, _⟩ | ⟨m, t1, t2, h1, h2, _⟩
    · subst h1
      exact ⟨Nat.le_refl _, fun _ => ⟨0, rfl, rfl⟩, fun x => (by cases x), fun x => (by cases x)⟩
    · obtain ⟨q1, q2, q3, _⟩ := h2 hb
      obtain ⟨w1, w2, _, _⟩ := h1 (by omega)
      exact ⟨by omega, fun _ => Pth.jn (w2 (by omega)) (q2 (by omega)), fun x => (by cases x), fun x => (by cases x)⟩
  | 2, a, b, t, x => by
    have toB : ∀ {i j : Nat}, (∃ n, Pth T.tkd stB n i 0 j 0) → ∃ n, Pth T.tkd st13 n i 0 j 0 := fun ⟨n, h⟩ => ⟨n, h.mono (fun k hk => by unfold st13 at hk; unfold stB; omega)⟩
    intro hb
    rcases x with ⟨c, r, e, S, h1, h2, h3, h4, _⟩ | ⟨m, c, r, e, S, l1, h1, h2, h3, h4, h5, h6, _⟩
    · obtain ⟨w1, w2, _, _⟩ := h4 hb
      have hl := h2.lt
      exact ⟨by omega, fun x => by omega, fun x => (by cases x), fun _ => ⟨by omega, Pth.jn (brk_pth (by omega) (Or.inl h1) h2.lay.1 (Or.inl h3)) (toB (w2 (by omega)))⟩⟩
    · obtain ⟨w1, w2, _, _⟩ := h6 hb
      have hl := h4.lt
      obtain ⟨q1, _, _, q2⟩ := h1 (by omega)
      refine ⟨by omega, fun x => by omega, fun x => (by cases x), fun _ => ⟨by omega, Pth.jn (q2 rfl).2 (Pth.jn ⟨1, Pth.pl (by omega) (by omega) (by unfold opb; omega) (by omega) (by unfold st13; omega)⟩ (Pth.jn (brk_pth (by omega) (Or.inl h3) h4.lay.1 (Or.inl h5)) (toB (w2 (by omega)))))⟩⟩
  | _ + 3, a, b, t, x => x.elim
theorem SV.sq {md a b : Nat} {t : Tr Lb} (x : SV T md a b t) : SQ T md a b := x (fun md a b _ => SQ T md a b) (fun _ _ _ _ y => SS.sq y)
end G
end
