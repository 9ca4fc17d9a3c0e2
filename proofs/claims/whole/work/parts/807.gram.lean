section
/-! what the tokens from a to b - 1 stand for -/
def Tr.app {α : Type} : Tr α → Tr α → Tr α
  | .leaf, y => y
  | .inner z a u l r, y => .inner z a u l (Tr.app r y)
abbrev Tr.nd {α : Type} (a : α) (l : Tr α) : Tr α := .inner 0 a () l .leaf
theorem Tr.app_nil {α : Type} (t : Tr α) : Tr.app t .leaf = t := by
  induction t with
  | leaf => rfl
  | inner z a u l r il ir => rw [Tr.app, ir]
theorem Tr.app_assoc {α : Type} (x y w : Tr α) : Tr.app (Tr.app x y) w = Tr.app x (Tr.app y w) := by
  induction x with
  | leaf => rfl
  | inner z a u l r il ir => rw [Tr.app, Tr.app, Tr.app, ir]
theorem Tr.sz_app {α : Type} (x y : Tr α) : Tr.sz (Tr.app x y) = Tr.sz x + Tr.sz y := by
  induction x with
  | leaf => rw [Tr.app, Tr.sz, Nat.zero_add]
  | inner z a u l r il ir => rw [Tr.app, Tr.sz, Tr.sz, ir]; omega
theorem Tr.rt_app {α : Type} (x y : Tr α) : Tr.rt (Tr.app x y) = Tr.rt x + Tr.rt y := by
  induction x with
  | leaf => rw [Tr.app, Tr.rt, Nat.zero_add]
  | inner z a u l r il ir => rw [Tr.app, Tr.rt, Tr.rt, ir]; omega
/-- the tokens: places and widths, kinds -/
abbrev Tks : Type := (Nat → Int32) × (Nat → Int32) × (Nat → Nat)
abbrev Tks.tpl (z : Tks) : Nat → Int32 := z.1
abbrev Tks.twd (z : Tks) : Nat → Int32 := z.2.1
abbrev Tks.tkd (z : Tks) : Nat → Nat := z.2.2
abbrev Tks.s_tpl (z : Tks) (v : Nat → Int32) : Tks := (v, z.2.1, z.2.2)
abbrev Tks.s_twd (z : Tks) (v : Nat → Int32) : Tks := (z.1, v, z.2.2)
abbrev Tks.s_tkd (z : Tks) (v : Nat → Nat) : Tks := (z.1, z.2.1, v)
/-- a node at token i -/
def Tks.lb (T : Tks) (k : Int32) (i : Nat) : Lb := (k, T.tpl i, -1, T.twd i, nI i)
/-- an argument or an element: an expression, or (where c) a colon -/
def VEl (T : Tks) (P : Nat → Nat → Nat → Nat → Tr Lb → Prop) (c : Bool) (a b : Nat) (t : Tr Lb) : Prop :=
  (∃ r, P 0 r a b t) ∨ (c = true ∧ b = a + 1 ∧ T.tkd a = 38 ∧ t = Tr.nd (T.lb 34 a) .leaf)
/-- a right part of an operation of rank r -/
def VRt (T : Tks) (P : Nat → Nat → Nat → Nat → Tr Lb → Prop) (r a b : Nat) (t : Tr Lb) : Prop :=
  (∃ r2, r < r2 ∧ P 0 r2 a b t) ∨ (r = 8 ∧ T.tkd a = 40 ∧ ∃ r3 l, 9 ≤ r3 ∧ P 0 r3 (a + 1) b l ∧ t = Tr.nd (T.lb 39 a) l)
/-- one step of the grammar: mode 0 an expression of rank r, 1 arguments, 2 a row's elements, 3 rows -/
def VS (T : Tks) (P : Nat → Nat → Nat → Nat → Tr Lb → Prop) : Nat → Nat → Nat → Nat → Tr Lb → Prop
  | 0, r, a, b, t =>
    (r = 10 ∧ b = a + 1 ∧ ((T.tkd a = 2 ∧ t = Tr.nd (T.lb 32 a) .leaf) ∨ (T.tkd a = 3 ∧ t = Tr.nd (T.lb 30 a) .leaf) ∨ (T.tkd a = 4 ∧ t = Tr.nd (T.lb 31 a) .leaf) ∨ (T.tkd a = 13 ∧ t = Tr.nd (T.lb 35 a) .leaf)))
    ∨ (r = 10 ∧ T.tkd a = 50 ∧ ∃ b', b = b' + 1 ∧ T.tkd b' = 51 ∧ ∃ r', P 0 r' (a + 1) b' t)
    ∨ (r = 10 ∧ T.tkd a = 2 ∧ T.tkd (a + 1) = 50 ∧ ∃ b', b = b' + 1 ∧ T.tkd b' = 51 ∧ ∃ l, t = Tr.nd (33, T.tpl a, T.tpl (a + 1), T.twd a, nI a) l ∧ ((b' = a + 2 ∧ l = .leaf) ∨ P 1 0 (a + 2) b' l))
    ∨ (r = 10 ∧ T.tkd a = 52 ∧ ∃ b', b = b' + 1 ∧ T.tkd b' = 53 ∧ ∃ l, t = Tr.nd (T.lb 36 a) l ∧ ((b' = a + 1 ∧ l = .leaf) ∨ P 3 0 (a + 1) b' l))
    ∨ (r = 9 ∧ ∃ b', b = b' + 1 ∧ T.tkd b' = 48 ∧ ∃ r' l, 9 ≤ r' ∧ P 0 r' a b' l ∧ t = Tr.nd (T.lb 38 b') l)
    ∨ (r = 7 ∧ (T.tkd a = 40 ∨ T.tkd a = 39 ∨ T.tkd a = 49) ∧ ∃ r' l, 7 ≤ r' ∧ P 0 r' (a + 1) b l ∧ t = Tr.nd (T.lb 39 a) l)
    ∨ (0 < r ∧ r ≠ 4 ∧ ∃ m, rkM (T.tkd m) = r ∧ ∃ r1 t1 t2, r ≤ r1 ∧ P 0 r1 a m t1 ∧ VRt T P r (m + 1) b t2 ∧ t = Tr.nd (T.lb 40 m) (Tr.app t1 t2))
    ∨ (r = 4 ∧ ∃ m, T.tkd m = 38 ∧ ∃ r1 r2 t1 t2, 5 ≤ r1 ∧ 5 ≤ r2 ∧ P 0 r1 a m t1 ∧ P 0 r2 (m + 1) b t2 ∧ t = Tr.nd (T.lb 41 m) (Tr.app t1 t2))
    ∨ (r = 4 ∧ ∃ m m2, T.tkd m = 38 ∧ T.tkd m2 = 38 ∧ ∃ r1 r2 r3 t1 t2 t3, 5 ≤ r1 ∧ 5 ≤ r2 ∧ 5 ≤ r3 ∧ P 0 r1 a m t1 ∧ P 0 r2 (m + 1) m2 t2 ∧ P 0 r3 (m2 + 1) b t3 ∧ t = Tr.nd (41, T.tpl m, T.tpl m2, T.twd m, nI m) (Tr.app t1 (Tr.app t2 t3)))
  | 1, _, a, b, t => VEl T P true a b t ∨ ∃ m t1 t2, T.tkd m = 54 ∧ P 1 0 a m t1 ∧ VEl T P true (m + 1) b t2 ∧ t = Tr.app t1 t2
  | 2, _, a, b, t => VEl T P false a b t ∨ ∃ m t1 t2, T.tkd m = 54 ∧ P 2 0 a m t1 ∧ VEl T P false (m + 1) b t2 ∧ t = Tr.app t1 t2
  | 3, _, a, b, t => (∃ l, P 2 0 a b l ∧ t = Tr.nd (T.lb 37 a) l) ∨ ∃ m t1 l, T.tkd m = 55 ∧ P 3 0 a m t1 ∧ P 2 0 (m + 1) b l ∧ t = Tr.app t1 (Tr.nd (T.lb 37 (m + 1)) l)
  | _, _, _, _, _ => False
def Vx (T : Tks) : Nat → Nat → Nat → Nat → Nat → Tr Lb → Prop
  | 0, _, _, _, _, _ => False
  | f + 1, md, r, a, b, t => VS T (Vx T f) md r a b t
def VV (T : Tks) (md r a b : Nat) (t : Tr Lb) : Prop := ∃ f, Vx T f md r a b t
theorem VEl.mono {T : Tks} {P Q : Nat → Nat → Nat → Nat → Tr Lb → Prop} (h : ∀ md r a b t, P md r a b t → Q md r a b t) {c : Bool} {a b : Nat} {t : Tr Lb} (x : VEl T P c a b t) : VEl T Q c a b t := by
  rcases x with ⟨r, x⟩ | x
  · exact Or.inl ⟨r, h _ _ _ _ _ x⟩
  · exact Or.inr x
theorem VRt.mono {T : Tks} {P Q : Nat → Nat → Nat → Nat → Tr Lb → Prop} (h : ∀ md r a b t, P md r a b t → Q md r a b t) {r a b : Nat} {t : Tr Lb} (x : VRt T P r a b t) : VRt T Q r a b t := by
  rcases x with ⟨r2, h1, x⟩ | ⟨h1, h2, r3, l, h3, x, h4⟩
  · exact Or.inl ⟨r2, h1, h _ _ _ _ _ x⟩
  · exact Or.inr ⟨h1, h2, r3, l, h3, h _ _ _ _ _ x, h4⟩
theorem VS.mono {T : Tks} {P Q : Nat → Nat → Nat → Nat → Tr Lb → Prop} (h : ∀ md r a b t, P md r a b t → Q md r a b t) : ∀ {md r a b : Nat} {t : Tr Lb}, VS T P md r a b t → VS T Q md r a b t
  | 0, r, a, b, t, x => by
    rcases x with x | ⟨x1, x2, b', x3, x4, r', x⟩ | ⟨x1, x2, x3, b', x4, x5, l, x6, x⟩ | ⟨x1, x2, b', x3, x4, l, x5, x⟩ | ⟨x1, b', x2, x3, r', l, x4, x, x5⟩ | ⟨x1, x2, r', l, x3, x, x4⟩ | ⟨x1, x2, m, x3, r1, t1, t2, x4, x, y, x5⟩ | ⟨x1, m, x2, r1, r2, t1, t2, x3, x4, x, y, x5⟩ | ⟨x1, m, m2, x2, x3, r1, r2, r3, t1, t2, t3, x4, x5, x6, x, y, w, x7⟩
    · exact Or.inl x
    · exact Or.inr (Or.inl ⟨x1, x2, b', x3, x4, r', h _ _ _ _ _ x⟩)
    · exact Or.inr (Or.inr (Or.inl ⟨x1, x2, x3, b', x4, x5, l, x6, x.imp id (h _ _ _ _ _)⟩))
    · exact Or.inr (Or.inr (Or.inr (Or.inl ⟨x1, x2, b', x3, x4, l, x5, x.imp id (h _ _ _ _ _)⟩)))
    · exact Or.inr (Or.inr (Or.inr (Or.inr (Or.inl ⟨x1, b', x2, x3, r', l, x4, h _ _ _ _ _ x, x5⟩))))
    · exact Or.inr (Or.inr (Or.inr (Or.inr (Or.inr (Or.inl ⟨x1, x2, r', l, x3, h _ _ _ _ _ x, x4⟩)))))
    · exact Or.inr (Or.inr (Or.inr (Or.inr (Or.inr (Or.inr (Or.inl ⟨x1, x2, m, x3, r1, t1, t2, x4, h _ _ _ _ _ x, y.mono h, x5⟩))))))
    · exact Or.inr (Or.inr (Or.inr (Or.inr (Or.inr (Or.inr (Or.inr (Or.inl ⟨x1, m, x2, r1, r2, t1, t2, x3, x4, h _ _ _ _ _ x, h _ _ _ _ _ y, x5⟩)))))))
    · exact Or.inr (Or.inr (Or.inr (Or.inr (Or.inr (Or.inr (Or.inr (Or.inr ⟨x1, m, m2, x2, x3, r1, r2, r3, t1, t2, t3, x4, x5, x6, h _ _ _ _ _ x, h _ _ _ _ _ y, h _ _ _ _ _ w, x7⟩)))))))
  | 1, r, a, b, t, x => by
    rcases x with x | ⟨m, t1, t2, x1, x, y, x2⟩
    · exact Or.inl (x.mono h)
    · exact Or.inr ⟨m, t1, t2, x1, h _ _ _ _ _ x, y.mono h, x2⟩
  | 2, r, a, b, t, x => by
    rcases x with x | ⟨m, t1, t2, x1, x, y, x2⟩
    · exact Or.inl (x.mono h)
    · exact Or.inr ⟨m, t1, t2, x1, h _ _ _ _ _ x, y.mono h, x2⟩
  | 3, r, a, b, t, x => by
    rcases x with ⟨l, x, x1⟩ | ⟨m, t1, l, x1, x, y, x2⟩
    · exact Or.inl ⟨l, h _ _ _ _ _ x, x1⟩
    · exact Or.inr ⟨m, t1, l, x1, h _ _ _ _ _ x, h _ _ _ _ _ y, x2⟩
  | _ + 4, r, a, b, t, x => x.elim
theorem Vx.up {T : Tks} : ∀ {f md r a b : Nat} {t : Tr Lb}, Vx T f md r a b t → Vx T (f + 1) md r a b t
  | 0, _, _, _, _, _, x => x.elim
  | f + 1, md, r, a, b, t, x => VS.mono (P := Vx T f) (Q := Vx T (f + 1)) (fun _ _ _ _ _ y => Vx.up y) x
theorem Vx.le {T : Tks} {f md r a b : Nat} {t : Tr Lb} (x : Vx T f md r a b t) : ∀ (d : Nat), Vx T (f + d) md r a b t
  | 0 => x
  | d + 1 => Vx.up (Vx.le x d)
/-- what one step makes of whole things is whole -/
theorem VV.fold {T : Tks} {md r a b : Nat} {t : Tr Lb} (f : Nat) (x : VS T (Vx T f) md r a b t) : VV T md r a b t := ⟨f + 1, x⟩
theorem VV.two {T : Tks} {md r a b md' r' a' b' : Nat} {t t' : Tr Lb} (x : VV T md r a b t) (y : VV T md' r' a' b' t') : ∃ f, Vx T f md r a b t ∧ Vx T f md' r' a' b' t' := by
  obtain ⟨f, x⟩ := x
  obtain ⟨g, y⟩ := y
  exact ⟨f + g, x.le g, by rw [Nat.add_comm]; exact y.le f⟩
/-- all whole things are closed under the step -/
theorem VS.unfold {T : Tks} {md r a b : Nat} {t : Tr Lb} (x : VV T md r a b t) : VS T (VV T) md r a b t := by
  obtain ⟨f, x⟩ := x
  match f, x with
  | 0, x => exact x.elim
  | f + 1, x => exact VS.mono (fun _ _ _ _ _ y => ⟨f, y⟩) x
theorem VEl.fix {T : Tks} {c : Bool} {a b : Nat} {t : Tr Lb} (x : VEl T (VV T) c a b t) : ∃ f, VEl T (Vx T f) c a b t := by
  rcases x with ⟨r, f, x⟩ | x
  · exact ⟨f, Or.inl ⟨r, x⟩⟩
  · exact ⟨0, Or.inr x⟩
theorem VRt.fix {T : Tks} {r a b : Nat} {t : Tr Lb} (x : VRt T (VV T) r a b t) : ∃ f, VRt T (Vx T f) r a b t := by
  rcases x with ⟨r2, h1, f, x⟩ | ⟨h1, h2, r3, l, h3, ⟨f, x⟩, h4⟩
  · exact ⟨f, Or.inl ⟨r2, h1, x⟩⟩
  · exact ⟨f, Or.inr ⟨h1, h2, r3, l, h3, x, h4⟩⟩
theorem Vx.mono2 {T : Tks} {f : Nat} (g : Nat) : ∀ md r a b t, Vx T f md r a b t → Vx T (f + g) md r a b t := fun _ _ _ _ _ x => x.le g
theorem VV.mk {T : Tks} : ∀ {md r a b : Nat} {t : Tr Lb}, VS T (VV T) md r a b t → VV T md r a b t
  | 0, r, a, b, t, x => by
    rcases x with x | ⟨x1, x2, b', x3, x4, r', f, x⟩ | ⟨x1, x2, x3, b', x4, x5, l, x6, x⟩ | ⟨x1, x2, b', x3, x4, l, x5, x⟩ | ⟨x1, b', x2, x3, r', l, x4, ⟨f, x⟩, x5⟩ | ⟨x1, x2, r', l, x3, ⟨f, x⟩, x4⟩ | ⟨x1, x2, m, x3, r1, t1, t2, x4, x, y, x5⟩ | ⟨x1, m, x2, r1, r2, t1, t2, x3, x4, x, y, x5⟩ | ⟨x1, m, m2, x2, x3, r1, r2, r3, t1, t2, t3, x4, x5, x6, x, y, w, x7⟩
    · exact VV.fold 0 (Or.inl x)
    · exact VV.fold f (Or.inr (Or.inl ⟨x1, x2, b', x3, x4, r', x⟩))
    · rcases x with x | ⟨f, x⟩
      · exact VV.fold 0 (Or.inr (Or.inr (Or.inl ⟨x1, x2, x3, b', x4, x5, l, x6, Or.inl x⟩)))
      · exact VV.fold f (Or.inr (Or.inr (Or.inl ⟨x1, x2, x3, b', x4, x5, l, x6, Or.inr x⟩)))
    · rcases x with x | ⟨f, x⟩
      · exact VV.fold 0 (Or.inr (Or.inr (Or.inr (Or.inl ⟨x1, x2, b', x3, x4, l, x5, Or.inl x⟩))))
      · exact VV.fold f (Or.inr (Or.inr (Or.inr (Or.inl ⟨x1, x2, b', x3, x4, l, x5, Or.inr x⟩))))
    · exact VV.fold f (Or.inr (Or.inr (Or.inr (Or.inr (Or.inl ⟨x1, b', x2, x3, r', l, x4, x, x5⟩)))))
    · exact VV.fold f (Or.inr (Or.inr (Or.inr (Or.inr (Or.inr (Or.inl ⟨x1, x2, r', l, x3, x, x4⟩))))))
    · obtain ⟨f, x⟩ := x
      obtain ⟨g, y⟩ := y.fix
      exact VV.fold (f + g) (Or.inr (Or.inr (Or.inr (Or.inr (Or.inr (Or.inr (Or.inl ⟨x1, x2, m, x3, r1, t1, t2, x4, x.le g, y.mono (by rw [Nat.add_comm]; exact Vx.mono2 f), x5⟩)))))))
    · obtain ⟨f, x, y⟩ := VV.two x y
      exact VV.fold f (Or.inr (Or.inr (Or.inr (Or.inr (Or.inr (Or.inr (Or.inr (Or.inl ⟨x1, m, x2, r1, r2, t1, t2, x3, x4, x, y, x5⟩))))))))
    · obtain ⟨f, x, y⟩ := VV.two x y
      obtain ⟨g, w⟩ := w
      exact VV.fold (f + g) (Or.inr (Or.inr (Or.inr (Or.inr (Or.inr (Or.inr (Or.inr (Or.inr ⟨x1, m, m2, x2, x3, r1, r2, r3, t1, t2, t3, x4, x5, x6, x.le g, y.le g, by rw [Nat.add_comm]; exact w.le f, x7⟩))))))))
  | 1, r, a, b, t, x => by
    rcases x with x | ⟨m, t1, t2, x1, ⟨f, x⟩, y, x2⟩
    · obtain ⟨f, x⟩ := x.fix
      exact VV.fold f (Or.inl x)
    · obtain ⟨g, y⟩ := y.fix
      exact VV.fold (f + g) (Or.inr ⟨m, t1, t2, x1, x.le g, y.mono (by rw [Nat.add_comm]; exact Vx.mono2 f), x2⟩)
  | 2, r, a, b, t, x => by
    rcases x with x | ⟨m, t1, t2, x1, ⟨f, x⟩, y, x2⟩
    · obtain ⟨f, x⟩ := x.fix
      exact VV.fold f (Or.inl x)
    · obtain ⟨g, y⟩ := y.fix
      exact VV.fold (f + g) (Or.inr ⟨m, t1, t2, x1, x.le g, y.mono (by rw [Nat.add_comm]; exact Vx.mono2 f), x2⟩)
  | 3, r, a, b, t, x => by
    rcases x with ⟨l, ⟨f, x⟩, x1⟩ | ⟨m, t1, l, x1, x, y, x2⟩
    · exact VV.fold f (Or.inl ⟨l, x, x1⟩)
    · obtain ⟨f, x, y⟩ := VV.two x y
      exact VV.fold f (Or.inr ⟨m, t1, l, x1, x, y, x2⟩)
  | _ + 4, r, a, b, t, x => x.elim
end

section
/-! a draft as a forest -/
def Tr.pn : Tr Lb → List Nd
  | .leaf => []
  | .inner _ a _ l r => Tr.pn l ++ (a.nd l) :: Tr.pn r
theorem Tr.pn_len (t : Tr Lb) : (Tr.pn t).length = Tr.sz t := by
  induction t with
  | leaf => rfl
  | inner z a u l r il ir => rw [Tr.pn, Tr.sz, List.length_append, List.length_cons, il, ir]; omega
theorem Tr.pn_app (x y : Tr Lb) : Tr.pn (Tr.app x y) = Tr.pn x ++ Tr.pn y := by
  induction x with
  | leaf => rfl
  | inner z a u l r il ir => rw [Tr.app, Tr.pn, Tr.pn, ir, List.append_assoc, List.cons_append]
theorem bkI_add (l : List Nd) : ∀ (m1 m2 : Nat) (f : Int32), Rs.bkI l (m1 + m2) f = Rs.bkI l m2 (Rs.bkI l m1 f)
  | 0, m2, f => by rw [Nat.zero_add]; rfl
  | m1 + 1, m2, f => by
    rw [show m1 + 1 + m2 = (m1 + m2) + 1 by omega, Rs.bkI, bkI_add l m1 m2, Rs.bkI]
theorem szAt_ok {P S : List Nd} {d : Nd} (h : (P ++ d :: S).length < 2 ^ 20) : Rs.szAt (P ++ d :: S) (nI P.length) = d.sz := by
  have hl : (P ++ d :: S).length = P.length + S.length + 1 := by rw [List.length_append, List.length_cons]; omega
  unfold Rs.szAt
  rw [if_neg (show ¬ nI P.length < 0 by rw [nI_nn (by omega)]; exact id), if_neg (show ¬ nI (P ++ d :: S).length ≤ nI P.length by simp (disch := omega) only [lit_nI, nI_eq', nI_add', nI_le', nI_lt', nI_nn, nI_ge0, nI_clamp', nI_ne1, nI_ne2, nI_ne3, m1_lt, m1_le, m1_ge, m1_gt, if_false, if_true, Option.bind_some, nm_app]; omega), nI_clamp' (by omega)]
  rw [List.getElem?_append_right (Nat.le_refl _), Nat.sub_self]; rfl
/-- going back over a forest's roots -/
theorem bkI_pn (y : Tr Lb) : ∀ (P S : List Nd), (P ++ (Tr.pn y ++ S)).length < 2 ^ 20 → Rs.bkI (P ++ (Tr.pn y ++ S)) (Tr.rt y) (nI (P.length + Tr.sz y)) = nI P.length := by
  induction y with
  | leaf => intro P S _; rfl
  | inner z a u l r il ir =>
    intro P S h
    have e : P ++ (Tr.pn (.inner z a u l r) ++ S) = (P ++ (Tr.pn l ++ [a.nd l])) ++ (Tr.pn r ++ S) := by
      rw [Tr.pn]; simp only [List.append_assoc, List.cons_append, List.nil_append]
    have hp : (P ++ (Tr.pn l ++ [a.nd l])).length = P.length + Tr.sz l + 1 := by
      rw [List.length_append, List.length_append, Tr.pn_len, List.length_singleton]; omega
    have hr := ir (P ++ (Tr.pn l ++ [a.nd l])) S (by rw [← e]; exact h)
    rw [hp] at hr
    rw [Tr.rt, bkI_add, Tr.sz, show P.length + (Tr.sz l + Tr.sz r + 1) = P.length + Tr.sz l + 1 + Tr.sz r by omega]
    rw [e, hr, ← e]
    show nI (P.length + Tr.sz l + 1) - Rs.szAt _ (nI (P.length + Tr.sz l + 1) - 1) = _
    have e2 : P ++ (Tr.pn (.inner z a u l r) ++ S) = (P ++ Tr.pn l) ++ a.nd l :: (Tr.pn r ++ S) := by
      rw [Tr.pn]; simp only [List.append_assoc, List.cons_append]
    have hl : (P ++ Tr.pn l).length = P.length + Tr.sz l := by rw [List.length_append, Tr.pn_len]
    have h2 := h
    rw [e2] at h2
    have h3 := szAt_ok h2
    rw [hl] at h3
    have hle : P.length + Tr.sz l + 1 < 2 ^ 20 := by
      have : (P ++ (Tr.pn (.inner z a u l r) ++ S)).length ≥ P.length + Tr.sz l + 1 := by
        rw [e, List.length_append, hp]; omega
      omega
    rw [nI_p1, e2, h3]
    show nI (P.length + Tr.sz l + 1) - nI (Tr.sz l + 1) = nI P.length
    rw [nI_sub' (by omega)]; congr 1; omega
/-- a node more over the last roots -/
theorem nadd_pn {x y : Tr Lb} {k pl sec wd : Int32} (tk : Int32) (h : Tr.sz x + Tr.sz y < 16385) : Rs.nadd (Tr.pn (Tr.app x y)) k pl sec (nI (Tr.rt y)) wd = Tr.pn (Tr.app x (Tr.nd (k, pl, sec, wd, tk) y)) := by
  have hrt := Tr.rt_le y
  have hl : (Tr.pn (Tr.app x y)).length = Tr.sz x + Tr.sz y := by rw [Tr.pn_len, Tr.sz_app]
  unfold Rs.nadd
  rw [if_pos (by omega), hl, nI_clamp' (by omega)]
  have hb := bkI_pn y (Tr.pn x) [] (by rw [List.append_nil, ← Tr.pn_app, hl]; omega)
  rw [List.append_nil, ← Tr.pn_app, Tr.pn_len] at hb
  rw [hb, nI_sub' (by omega), show Tr.sz x + Tr.sz y - Tr.sz x = Tr.sz y by omega, show nI (Tr.sz y) + 1 = nI (Tr.sz y + 1) from nI_add' _ 1, Tr.pn_app, Tr.pn_app, List.append_assoc]
  congr 1
/-- a leaf more -/
theorem nadd_leaf {x : Tr Lb} {k pl sec wd : Int32} (tk : Int32) (h : Tr.sz x < 16385) : Rs.nadd (Tr.pn x) k pl sec 0 wd = Tr.pn (Tr.app x (Tr.nd (k, pl, sec, wd, tk) .leaf)) := by
  have := nadd_pn (x := x) (y := .leaf) (k := k) (pl := pl) (sec := sec) (wd := wd) tk (by rw [Tr.sz]; omega)
  rw [Tr.app_nil] at this
  exact this
/-- the draft's cells hold the forest -/
theorem DH_pn {N : Nat} {b : Nat → Int32} (t : Tr Lb) : ∀ (P S : List Nd), Tab 7 N b ((P ++ (Tr.pn t ++ S)).map Nd.row) → Tr.DH b P.length t := by
  induction t with
  | leaf => intro P S _; trivial
  | inner z a u l r il ir =>
    intro P S h
    have e2 : P ++ (Tr.pn (.inner z a u l r) ++ S) = P ++ (Tr.pn l ++ (a.nd l :: (Tr.pn r ++ S))) := by
      rw [Tr.pn]; simp only [List.append_assoc, List.cons_append]
    have e3 : P ++ (Tr.pn (.inner z a u l r) ++ S) = (P ++ (Tr.pn l ++ [a.nd l])) ++ (Tr.pn r ++ S) := by
      rw [Tr.pn]; simp only [List.append_assoc, List.cons_append, List.nil_append]
    have e4 : P ++ (Tr.pn (.inner z a u l r) ++ S) = (P ++ Tr.pn l) ++ (a.nd l :: (Tr.pn r ++ S)) := by
      rw [Tr.pn]; simp only [List.append_assoc, List.cons_append]
    refine ⟨il P _ (e2 ▸ h), fun j hj => ?_, ?_⟩
    · have h4 := e4 ▸ h
      have hl : (P ++ Tr.pn l).length = P.length + Tr.sz l := by rw [List.length_append, Tr.pn_len]
      have h5 := h4.at' (P.length + Tr.sz l) (by rw [List.length_map, List.length_append, List.length_cons, hl]; omega) j (by omega)
      rw [h5, List.getElem_map, List.getElem_append_right (by omega)]
      simp only [hl, Nat.sub_self, List.getElem_cons_zero]
    · have h3 := ir _ _ (e3 ▸ h)
      have hp : (P ++ (Tr.pn l ++ [a.nd l])).length = P.length + Tr.sz l + 1 := by
        rw [List.length_append, List.length_append, Tr.pn_len, List.length_singleton]; omega
      rw [hp] at h3
      exact h3
end

section
/-! what waits: rank, token, second token (0: none), the latest first -/
abbrev We : Type := Nat × Nat × Nat
def We.w (T : Tks) (e : We) : Wt := (nI e.1, T.tpl e.2.1, if e.2.2 = 0 then -1 else T.tpl e.2.2, T.twd e.2.1)
def hdR : List We → Nat
  | [] => 0
  | e :: _ => e.1
/-- the colons that wait -/
def colo : List We → Nat
  | [] => 0
  | (r, _, q) :: W => if r = 4 then (if q = 0 then 1 else 2) else colo W
/-- an operand is wanted at i, the expression began at a, x stands before -/
def Pend (T : Tks) (a : Nat) : List We → Nat → Tr Lb → Prop
  | [], i, x => i = a ∧ x = .leaf
  | (r, p, q) :: W, i, x =>
    (r = 7 ∧ q = 0 ∧ i = p + 1 ∧ (T.tkd p = 40 ∨ T.tkd p = 39 ∨ T.tkd p = 49) ∧ hdR W ≤ 7 ∧ Pend T a W p x)
    ∨ (r = 9 ∧ q = 0 ∧ i = p + 1 ∧ T.tkd p = 40 ∧ hdR W = 8 ∧ Pend T a W p x)
    ∨ (0 < r ∧ r ≠ 7 ∧ r < 9 ∧ q = 0 ∧ i = p + 1 ∧ rkM (T.tkd p) = r ∧ hdR W < r ∧ ∃ m r1 x0 t, r ≤ r1 ∧ (r = 4 → 5 ≤ r1) ∧ VV T 0 r1 m p t ∧ Pend T a W m x0 ∧ x = Tr.app x0 t)
    ∨ (r = 4 ∧ 0 < q ∧ i = q + 1 ∧ T.tkd p = 38 ∧ T.tkd q = 38 ∧ hdR W < 4 ∧ ∃ m r1 r2 x0 t1 t2, 5 ≤ r1 ∧ 5 ≤ r2 ∧ VV T 0 r1 m p t1 ∧ VV T 0 r2 (p + 1) q t2 ∧ Pend T a W m x0 ∧ x = Tr.app x0 (Tr.app t1 t2))
/-- an operand of rank r may stand behind what waits -/
def FitR (r : Nat) : List We → Prop
  | [] => True
  | e :: _ => if e.1 = 7 then 7 ≤ r else if e.1 = 9 then 9 ≤ r else e.1 < r
theorem FitR.big {r : Nat} (h : 9 ≤ r) {T : Tks} {a i : Nat} {x : Tr Lb} : ∀ {W : List We}, Pend T a W i x → FitR r W
  | [], _ => trivial
  | (r', p, q) :: W, hp => by
    show if r' = 7 then 7 ≤ r else if r' = 9 then 9 ≤ r else r' < r
    rcases hp with h1 | h1 | h1 | h1
    · rw [if_pos h1.1]; omega
    · rw [if_neg (by omega), if_pos h1.1]; exact h
    · rw [if_neg (by omega), if_neg (by omega)]; omega
    · rw [if_neg (by omega), if_neg (by omega)]; omega
theorem rt_one {T : Tks} : ∀ {f r a b : Nat} {t : Tr Lb}, Vx T f 0 r a b t → Tr.rt t = 1
  | 0, _, _, _, _, x => x.elim
  | f + 1, r, a, b, t, x => by
    rcases x with ⟨_, _, x⟩ | ⟨x1, x2, b', x3, x4, r', x⟩ | ⟨x1, x2, x3, b', x4, x5, l, x6, x⟩ | ⟨x1, x2, b', x3, x4, l, x5, x⟩ | ⟨x1, b', x2, x3, r', l, x4, x, x5⟩ | ⟨x1, x2, r', l, x3, x, x4⟩ | ⟨x1, x2, m, x3, r1, t1, t2, x4, x, y, x5⟩ | ⟨x1, m, x2, r1, r2, t1, t2, x3, x4, x, y, x5⟩ | ⟨x1, m, m2, x2, x3, r1, r2, r3, t1, t2, t3, x4, x5, x6, x, y, w, x7⟩
    · rcases x with ⟨_, x⟩ | ⟨_, x⟩ | ⟨_, x⟩ | ⟨_, x⟩ <;> (rw [x]; rfl)
    · exact rt_one x
    · rw [x6]; rfl
    · rw [x5]; rfl
    · rw [x5]; rfl
    · rw [x4]; rfl
    · rw [x5]; rfl
    · rw [x5]; rfl
    · rw [x7]; rfl
theorem VV.rt1 {T : Tks} {r a b : Nat} {t : Tr Lb} (x : VV T 0 r a b t) : Tr.rt t = 1 := by
  obtain ⟨f, x⟩ := x
  exact rt_one x
theorem VV.sign {T : Tks} {r a b : Nat} {l : Tr Lb} (h : T.tkd a = 40 ∨ T.tkd a = 39 ∨ T.tkd a = 49) (h2 : 7 ≤ r) (x : VV T 0 r (a + 1) b l) : VV T 0 7 a b (Tr.nd (T.lb 39 a) l) :=
  VV.mk (Or.inr (Or.inr (Or.inr (Or.inr (Or.inr (Or.inl ⟨rfl, h, r, l, h2, x, rfl⟩))))))
theorem VV.bin {T : Tks} {r r1 a m b : Nat} {t1 t2 : Tr Lb} (h0 : 0 < r) (h4 : r ≠ 4) (hm : rkM (T.tkd m) = r) (h1 : r ≤ r1) (x : VV T 0 r1 a m t1) (y : VRt T (VV T) r (m + 1) b t2) : VV T 0 r a b (Tr.nd (T.lb 40 m) (Tr.app t1 t2)) :=
  VV.mk (Or.inr (Or.inr (Or.inr (Or.inr (Or.inr (Or.inr (Or.inl ⟨h0, h4, m, hm, r1, t1, t2, h1, x, y, rfl⟩)))))))
theorem VV.rg2 {T : Tks} {r1 r2 a m b : Nat} {t1 t2 : Tr Lb} (hm : T.tkd m = 38) (h1 : 5 ≤ r1) (h2 : 5 ≤ r2) (x : VV T 0 r1 a m t1) (y : VV T 0 r2 (m + 1) b t2) : VV T 0 4 a b (Tr.nd (T.lb 41 m) (Tr.app t1 t2)) :=
  VV.mk (Or.inr (Or.inr (Or.inr (Or.inr (Or.inr (Or.inr (Or.inr (Or.inl ⟨rfl, m, hm, r1, r2, t1, t2, h1, h2, x, y, rfl⟩))))))))
theorem VV.rg3 {T : Tks} {r1 r2 r3 a m m2 b : Nat} {t1 t2 t3 : Tr Lb} (hm : T.tkd m = 38) (hm2 : T.tkd m2 = 38) (h1 : 5 ≤ r1) (h2 : 5 ≤ r2) (h3 : 5 ≤ r3) (x : VV T 0 r1 a m t1) (y : VV T 0 r2 (m + 1) m2 t2) (w : VV T 0 r3 (m2 + 1) b t3) : VV T 0 4 a b (Tr.nd (41, T.tpl m, T.tpl m2, T.twd m, nI m) (Tr.app t1 (Tr.app t2 t3))) :=
  VV.mk (Or.inr (Or.inr (Or.inr (Or.inr (Or.inr (Or.inr (Or.inr (Or.inr ⟨rfl, m, m2, hm, hm2, r1, r2, r3, t1, t2, t3, h1, h2, h3, x, y, w, rfl⟩))))))))
theorem VV.turn {T : Tks} {r a b : Nat} {l : Tr Lb} (h : T.tkd b = 48) (h2 : 9 ≤ r) (x : VV T 0 r a b l) : VV T 0 9 a (b + 1) (Tr.nd (T.lb 38 b) l) :=
  VV.mk (Or.inr (Or.inr (Or.inr (Or.inr (Or.inl ⟨rfl, b, rfl, h, r, l, h2, x, rfl⟩)))))
theorem nadd_pn2 {D : List Nd} {x y : Tr Lb} {k pl sec wd m : Int32} (tk : Int32) (h : D.length + Tr.sz x + Tr.sz y < 16385) (hm : m = nI (Tr.rt y)) : Rs.nadd (D ++ Tr.pn (Tr.app x y)) k pl sec m wd = D ++ Tr.pn (Tr.app x (Tr.nd (k, pl, sec, wd, tk) y)) := by
  have hrt := Tr.rt_le y
  have hl : (D ++ Tr.pn (Tr.app x y)).length = D.length + Tr.sz x + Tr.sz y := by rw [List.length_append, Tr.pn_len, Tr.sz_app]; omega
  unfold Rs.nadd
  rw [if_pos (by omega), hl, hm, nI_clamp' (by omega)]
  have hb := bkI_pn y (D ++ Tr.pn x) [] (by rw [List.append_nil, List.append_assoc, ← Tr.pn_app, hl]; omega)
  rw [List.append_nil, List.append_assoc, ← Tr.pn_app, List.length_append, Tr.pn_len] at hb
  rw [hb, nI_sub' (by omega), show D.length + Tr.sz x + Tr.sz y - (D.length + Tr.sz x) = Tr.sz y by omega, show nI (Tr.sz y) + 1 = nI (Tr.sz y + 1) from nI_add' _ 1, Tr.pn_app, Tr.pn_app, List.append_assoc, List.append_assoc]
  congr 2
theorem nadd_lf {D : List Nd} {x : Tr Lb} {k pl sec wd : Int32} (tk : Int32) (h : D.length + Tr.sz x < 16385) : Rs.nadd (D ++ Tr.pn x) k pl sec 0 wd = D ++ Tr.pn (Tr.app x (Tr.nd (k, pl, sec, wd, tk) .leaf)) := by
  have := nadd_pn2 (D := D) (x := x) (y := .leaf) (k := k) (pl := pl) (sec := sec) (wd := wd) (m := 0) tk (by rw [Tr.sz]; omega) rfl
  rw [Tr.app_nil] at this
  exact this
theorem colon_rk {c : Nat} : rkM c = 4 ↔ c = 38 := by
  constructor
  · intro h
    unfold rkM at h
    by_cases c1 : c < 30
    · rw [if_pos c1] at h; omega
    · rw [if_neg c1] at h
      by_cases c2 : c - 30 < 27
      · have : ∀ i, i < 27 → rkL.getD i 0 = 4 → i = 8 := by decide
        have := this _ c2 h
        omega
      · rw [List.getD_eq_getElem?_getD, List.getElem?_eq_none (by show 27 ≤ c - 30; omega)] at h
        exact absurd h (by decide)
  · intro h; rw [h]; rfl
theorem rk_ne7 {c : Nat} : rkM c ≠ 7 := by
  intro h
  unfold rkM at h
  by_cases c1 : c < 30
  · rw [if_pos c1] at h; omega
  · rw [if_neg c1] at h
    by_cases c2 : c - 30 < 27
    · have : ∀ i, i < 27 → rkL.getD i 0 ≠ 7 := by decide
      exact this _ c2 h
    · rw [List.getD_eq_getElem?_getD, List.getElem?_eq_none (by show 27 ≤ c - 30; omega)] at h
      exact absurd h (by decide)
/-- ending what binds as tightly as rk, or more -/
theorem endW_ok {T : Tks} (hpl : ∀ i, T.tpl i ≠ -1) {a i rk : Nat} (hrk : rk ≤ 8) {D : List Nd} {B : List Wt} : ∀ (W : List We) (m : Nat) (x t : Tr Lb) (ρ : Nat), Pend T a W m x → VV T 0 ρ m i t → FitR ρ W → D.length + Tr.sz x + Tr.sz t + W.length < 16385 → B.length + W.length < 2 ^ 20 → rk ≤ ρ →
    ∃ W' m' x' t' ρ', Rs.endW (nI rk) (nI B.length) (W.map (We.w T) ++ B) (D ++ Tr.pn (Tr.app x t)) = (W'.map (We.w T) ++ B, D ++ Tr.pn (Tr.app x' t')) ∧ Pend T a W' m' x' ∧ VV T 0 ρ' m' i t' ∧ hdR W' < rk + (if rk = 0 then 1 else 0) ∧ rk ≤ ρ' ∧ FitR ρ' W' ∧ (5 ≤ rk → colo W' = colo W) ∧ Tr.sz x' + Tr.sz t' + W'.length = Tr.sz x + Tr.sz t + W.length
  | [], m, x, t, ρ, hp, hv, hf, hs, hb, hr => by
    refine ⟨[], m, x, t, ρ, ?_, hp, hv, ?_, hr, hf, fun _ => rfl, rfl⟩
    · show Rs.endW (nI rk) (nI B.length) B _ = (B, _)
      match B with
      | [] => rfl
      | w :: ws =>
        rw [Rs.endW, if_neg]
        intro h
        have h1 := h.1
        exact absurd h1 (by rw [nI_lt' (by simp only [List.length_nil, Nat.add_zero] at hb; omega) (by simp only [List.length_nil, Nat.add_zero] at hb; omega)]; omega)
    · show 0 < rk + (if rk = 0 then 1 else 0)
      by_cases c : rk = 0
      · rw [if_pos c]; omega
      · rw [if_neg c]; omega
  | (r, p, q) :: W, m, x, t, ρ, hp, hv, hf, hs, hb, hr => by
    have hlen : ((r, p, q) :: W).length = W.length + 1 := rfl
    rw [hlen] at hs hb
    have hr1 := hv.rt1
    have hrb : r ≤ 9 := by rcases hp with h | h | h | h <;> omega
    have hcond : (nI B.length < nI (We.w T (r, p, q) :: (W.map (We.w T) ++ B)).length ∧ nI rk ≤ (We.w T (r, p, q)).rk) = (rk ≤ r) := by
      have e1 : (We.w T (r, p, q) :: (W.map (We.w T) ++ B)).length = W.length + B.length + 1 := by
        rw [List.length_cons, List.length_append, List.length_map]
      have e2 : (We.w T (r, p, q)).rk = nI r := rfl
      rw [e1, e2, nI_lt' (by omega) (by omega), nI_le' (by omega) (by omega)]
      apply propext
      exact ⟨fun h => h.2, fun h => ⟨by omega, h⟩⟩
    by_cases c : rk ≤ r
    · -- one more ends
      have step : Rs.endW (nI rk) (nI B.length) (((r, p, q) :: W).map (We.w T) ++ B) (D ++ Tr.pn (Tr.app x t)) = Rs.endW (nI rk) (nI B.length) (W.map (We.w T) ++ B) (Rs.nadd (D ++ Tr.pn (Tr.app x t)) (Rs.wkind (nI r)) (T.tpl p) (if q = 0 then -1 else T.tpl q) (Rs.wparts (We.w T (r, p, q))) (T.twd p)) := by
        rw [List.map_cons, List.cons_append, Rs.endW, if_pos (by rw [hcond]; exact c)]
        rfl
      have fin : ∀ (m' : Nat) (x' t' : Tr Lb), Pend T a W m' x' → VV T 0 r m' i t' → FitR r W → Tr.sz x' + Tr.sz t' = Tr.sz x + Tr.sz t + 1 → Rs.nadd (D ++ Tr.pn (Tr.app x t)) (Rs.wkind (nI r)) (T.tpl p) (if q = 0 then -1 else T.tpl q) (Rs.wparts (We.w T (r, p, q))) (T.twd p) = D ++ Tr.pn (Tr.app x' t') → ∃ W' m'' x'' t'' ρ', Rs.endW (nI rk) (nI B.length) (((r, p, q) :: W).map (We.w T) ++ B) (D ++ Tr.pn (Tr.app x t)) = (W'.map (We.w T) ++ B, D ++ Tr.pn (Tr.app x'' t'')) ∧ Pend T a W' m'' x'' ∧ VV T 0 ρ' m'' i t'' ∧ hdR W' < rk + (if rk = 0 then 1 else 0) ∧ rk ≤ ρ' ∧ FitR ρ' W' ∧ (5 ≤ rk → colo W' = colo ((r, p, q) :: W)) ∧ Tr.sz x'' + Tr.sz t'' + W'.length = Tr.sz x + Tr.sz t + ((r, p, q) :: W).length := by
        intro m' x' t' h1 h2 h3 h4 h5
        obtain ⟨W', m2, x2, t2, ρ', e1, e2, e3, e4, e5, e6, e7, e8⟩ := endW_ok hpl hrk (D := D) (B := B) W m' x' t' r h1 h2 h3 (by omega) (by omega) c
        exact ⟨W', m2, x2, t2, ρ', by rw [step, h5]; exact e1, e2, e3, e4, e5, e6, fun h => by rw [e7 h]; exact (if_neg (show ¬ r = 4 by omega)).symm, by rw [hlen]; omega⟩
      rcases hp with ⟨h1, h2, h3, h4, h5, h6⟩ | ⟨h1, h2, h3, h4, h5, h6⟩ | ⟨h1, h2, h2', h3, h4, h5, h6, m1, r1, x0, t1, h7, h8, h9, h10, h11⟩ | ⟨h1, h2, h3, h4, h5, h6, m1, r1, r2, x0, t1, t2, h7, h8, h9, h10, h11, h12⟩
      · subst h1 h2 h3
        have hf7 : 7 ≤ ρ := by
          have this : (if (7 : Nat) = 7 then 7 ≤ ρ else if (7 : Nat) = 9 then 9 ≤ ρ else 7 < ρ) := hf
          rw [if_pos rfl] at this
          exact this
        refine fin p x (Tr.nd (T.lb 39 p) t) h6 (VV.sign h4 hf7 hv) ?_ (by simp only [Tr.sz]; omega) ?_
        · match W, h5 with
          | [], _ => trivial
          | (r2, p2, q2) :: W2, h5 =>
            have h5 : r2 ≤ 7 := h5
            show if r2 = 7 then 7 ≤ 7 else if r2 = 9 then 9 ≤ 7 else r2 < 7
            by_cases d : r2 = 7
            · rw [if_pos d]; omega
            · rw [if_neg d, if_neg (by omega)]; omega
        · exact nadd_pn2 (nI p) (by omega) (by rw [hr1]; rfl)
      · -- a sign behind a power: both end
        subst h1 h2 h3
        have hf9 : 9 ≤ ρ := by
          have this : (if (9 : Nat) = 7 then 7 ≤ ρ else if (9 : Nat) = 9 then 9 ≤ ρ else 9 < ρ) := hf
          rw [if_neg (by decide), if_pos rfl] at this
          exact this
        match W, h5, h6, fin, step, hs, hb with
        | (r2, p2, q2) :: W2, h5, h6, fin, step, hs, hb =>
          have h5 : r2 = 8 := h5
          subst h5
          rcases h6 with g | g | ⟨g1, g2, g2', g3, g4, g5, g6, m1, r1, x0, t1, g7, g8, g9, g10, g11⟩ | g
          · exact absurd g.1 (by decide)
          · exact absurd g.1 (by decide)
          · subst g3 g4
            have hr1' := g9.rt1
            have hlen2 : ((8, p2, 0) :: W2).length = W2.length + 1 := rfl
            rw [hlen2] at hs hb
            have hv8 : VV T 0 8 m1 i (Tr.nd (T.lb 40 p2) (Tr.app t1 (Tr.nd (T.lb 39 (p2 + 1)) t))) := VV.bin (by omega) (by omega) g5 g7 g9 (Or.inr ⟨rfl, h4, ρ, t, hf9, hv, rfl⟩)
            have n1 : Rs.nadd (D ++ Tr.pn (Tr.app x t)) (Rs.wkind (nI 9)) (T.tpl (p2 + 1)) (if (0 : Nat) = 0 then -1 else T.tpl 0) (Rs.wparts (We.w T (9, p2 + 1, 0))) (T.twd (p2 + 1)) = D ++ Tr.pn (Tr.app x (Tr.nd (T.lb 39 (p2 + 1)) t)) := nadd_pn2 (nI (p2 + 1)) (by omega) (by rw [hr1]; rfl)
            have n2 : Rs.nadd (D ++ Tr.pn (Tr.app x (Tr.nd (T.lb 39 (p2 + 1)) t))) (Rs.wkind (nI 8)) (T.tpl p2) (if (0 : Nat) = 0 then -1 else T.tpl 0) (Rs.wparts (We.w T (8, p2, 0))) (T.twd p2) = D ++ Tr.pn (Tr.app x0 (Tr.nd (T.lb 40 p2) (Tr.app t1 (Tr.nd (T.lb 39 (p2 + 1)) t)))) := by
              rw [g11, Tr.app_assoc]
              refine nadd_pn2 (nI p2) ?_ ?_
              · rw [g11, Tr.sz_app] at hs
                rw [Tr.sz_app]
                simp only [Tr.sz]; omega
              · rw [Tr.rt_app, hr1']; rfl
            have step2 : Rs.endW (nI rk) (nI B.length) (((8, p2, 0) :: W2).map (We.w T) ++ B) (D ++ Tr.pn (Tr.app x (Tr.nd (T.lb 39 (p2 + 1)) t))) = Rs.endW (nI rk) (nI B.length) (W2.map (We.w T) ++ B) (Rs.nadd (D ++ Tr.pn (Tr.app x (Tr.nd (T.lb 39 (p2 + 1)) t))) (Rs.wkind (nI 8)) (T.tpl p2) (if (0 : Nat) = 0 then -1 else T.tpl 0) (Rs.wparts (We.w T (8, p2, 0))) (T.twd p2)) := by
              rw [List.map_cons, List.cons_append, Rs.endW, if_pos]
              · rfl
              · refine ⟨?_, ?_⟩
                · show nI B.length < nI (We.w T (8, p2, 0) :: (W2.map (We.w T) ++ B)).length
                  rw [List.length_cons, List.length_append, List.length_map, nI_lt' (by omega) (by omega)]; omega
                · show nI rk ≤ nI 8
                  rw [nI_le' (by omega) (by omega)]; exact hrk
            have hfit : FitR 8 W2 := by
              match W2, g6 with
              | [], _ => trivial
              | (r3, p3, q3) :: W3, g6 =>
                have g6 : r3 < 8 := g6
                show if r3 = 7 then 7 ≤ 8 else if r3 = 9 then 9 ≤ 8 else r3 < 8
                by_cases d : r3 = 7
                · rw [if_pos d]; omega
                · rw [if_neg d, if_neg (by omega)]; omega
            have hsz : Tr.sz x0 + Tr.sz (Tr.nd (T.lb 40 p2) (Tr.app t1 (Tr.nd (T.lb 39 (p2 + 1)) t))) = Tr.sz x + Tr.sz t + 2 := by
              rw [g11, Tr.sz_app]
              simp only [Tr.sz]
              rw [Tr.sz_app]
              simp only [Tr.sz]; omega
            obtain ⟨W', m2, x2, t2, ρ', e1, e2, e3, e4, e5, e6, e7, e8⟩ := endW_ok hpl hrk (D := D) (B := B) W2 m1 x0 _ 8 g10 hv8 hfit (by omega) (by omega) hrk
            refine ⟨W', m2, x2, t2, ρ', ?_, e2, e3, e4, e5, e6, fun h => e7 h, ?_⟩
            · rw [step, n1, step2, n2]; exact e1
            · show _ = Tr.sz x + Tr.sz t + (W2.length + 1 + 1)
              omega
          · exact absurd g.1 (by decide)
      · subst h3 h4
        have hr1' := h9.rt1
        have hρ : r < ρ := by
          have this : (if r = 7 then 7 ≤ ρ else if r = 9 then 9 ≤ ρ else r < ρ) := hf
          rw [if_neg (show ¬ r = 7 from h2), if_neg (show ¬ r = 9 by omega)] at this
          exact this
        have hfit : FitR r W := by
          match W, h6 with
          | [], _ => trivial
          | (r3, p3, q3) :: W3, h6 =>
            have h6 : r3 < r := h6
            show if r3 = 7 then 7 ≤ r else if r3 = 9 then 9 ≤ r else r3 < r
            by_cases d : r3 = 7
            · rw [if_pos d]; omega
            · rw [if_neg d, if_neg (by omega)]; exact h6
        by_cases d : r = 4
        · subst d
          refine fin m1 x0 (Tr.nd (T.lb 41 p) (Tr.app t1 t)) h10 (VV.rg2 (colon_rk.mp h5) (h8 rfl) hρ h9 hv) hfit ?_ ?_
          · rw [h11, Tr.sz_app]; simp only [Tr.sz]; rw [Tr.sz_app]; omega
          · rw [h11, Tr.app_assoc]
            refine nadd_pn2 (nI p) ?_ ?_
            · rw [h11, Tr.sz_app] at hs; rw [Tr.sz_app]; omega
            · rw [Tr.rt_app, hr1', hr1]; rfl
        · refine fin m1 x0 (Tr.nd (T.lb 40 p) (Tr.app t1 t)) h10 (VV.bin h1 d h5 h7 h9 (Or.inl ⟨ρ, hρ, hv⟩)) hfit ?_ ?_
          · rw [h11, Tr.sz_app]; simp only [Tr.sz]; rw [Tr.sz_app]; omega
          · rw [h11, Tr.app_assoc]
            have hk : Rs.wkind (nI r) = 40 := by
              unfold Rs.wkind
              rw [if_neg (show ¬ (nI r = 7 ∨ nI r = 9) by simp (disch := omega) only [lit_nI, nI_eq', nI_add', nI_le', nI_lt', nI_nn, nI_ge0, nI_clamp', nI_ne1, nI_ne2, nI_ne3, m1_lt, m1_le, m1_ge, m1_gt, if_false, if_true, Option.bind_some, nm_app]; omega), if_neg (show ¬ nI r = 4 by simp (disch := omega) only [lit_nI, nI_eq', nI_add', nI_le', nI_lt', nI_nn, nI_ge0, nI_clamp', nI_ne1, nI_ne2, nI_ne3, m1_lt, m1_le, m1_ge, m1_gt, if_false, if_true, Option.bind_some, nm_app]; exact d)]
            have hp2 : Rs.wparts (We.w T (r, p, 0)) = 2 := by
              show (if nI r = 7 ∨ nI r = 9 then (1 : Int32) else if (if (0 : Nat) = 0 then (-1 : Int32) else T.tpl 0) = -1 then 2 else 3) = 2
              rw [if_neg (show ¬ (nI r = 7 ∨ nI r = 9) by simp (disch := omega) only [lit_nI, nI_eq', nI_add', nI_le', nI_lt', nI_nn, nI_ge0, nI_clamp', nI_ne1, nI_ne2, nI_ne3, m1_lt, m1_le, m1_ge, m1_gt, if_false, if_true, Option.bind_some, nm_app]; omega), if_pos rfl]
              rfl
            rw [hk]
            refine nadd_pn2 (nI p) ?_ ?_
            · rw [h11, Tr.sz_app] at hs; rw [Tr.sz_app]; omega
            · rw [Tr.rt_app, hr1', hr1, hp2]; rfl
      · subst h1 h3
        have hr1' := h9.rt1
        have hr2' := h10.rt1
        have hρ : 4 < ρ := by
          have this : (if (4 : Nat) = 7 then 7 ≤ ρ else if (4 : Nat) = 9 then 9 ≤ ρ else 4 < ρ) := hf
          rw [if_neg (by decide), if_neg (by decide)] at this
          exact this
        have hfit : FitR 4 W := by
          match W, h6 with
          | [], _ => trivial
          | (r3, p3, q3) :: W3, h6 =>
            have h6 : r3 < 4 := h6
            show if r3 = 7 then 7 ≤ 4 else if r3 = 9 then 9 ≤ 4 else r3 < 4
            rw [if_neg (by omega), if_neg (by omega)]; exact h6
        refine fin m1 x0 (Tr.nd (41, T.tpl p, T.tpl q, T.twd p, nI p) (Tr.app t1 (Tr.app t2 t))) h11 (VV.rg3 h4 h5 h7 h8 hρ h9 h10 hv) hfit ?_ ?_
        · rw [h12, Tr.sz_app, Tr.sz_app]; simp only [Tr.sz]; rw [Tr.sz_app, Tr.sz_app]; omega
        · rw [h12, Tr.app_assoc, Tr.app_assoc, if_neg (show ¬ q = 0 by omega)]
          have hp3 : Rs.wparts (We.w T (4, p, q)) = 3 := by
            show (if nI 4 = 7 ∨ nI 4 = 9 then (1 : Int32) else if (if q = 0 then (-1 : Int32) else T.tpl q) = -1 then 2 else 3) = 3
            rw [if_neg (by decide), if_neg (show ¬ q = 0 by omega), if_neg (hpl q)]
          refine nadd_pn2 (nI p) ?_ ?_
          · rw [h12, Tr.sz_app, Tr.sz_app] at hs; rw [Tr.sz_app, Tr.sz_app]; omega
          · rw [Tr.rt_app, Tr.rt_app, hr1', hr1, hr2', hp3]; rfl
    · refine ⟨(r, p, q) :: W, m, x, t, ρ, ?_, hp, hv, ?_, hr, hf, fun _ => rfl, rfl⟩
      · rw [List.map_cons, List.cons_append, Rs.endW, if_neg (by rw [hcond]; exact c)]
      · show r < rk + _
        omega
end

section
theorem nI_lt60 {lv : Nat} (h : lv < 60) : nI lv < 60 := by
  rw [show (60 : Int32) = nI 60 from rfl, nI_lt' (by omega) (by omega)]; exact h
section St
variable {lv fr : Nat} {sg lp : Int32} {f : Fm} {r : List Fm} {d : List Nd} {w fn : List Wt} {p v : Int32} {sm : Int32 → Int32 → Int32 → Bool}
theorem st_sign {k : Int32} (hk : k = 45 ∨ k = 43 ∨ k = 126) (h : lv < 60) : Rs.stands (31, nI lv, nI fr, lp, f, r, d, w, fn) (k, p, v) sm = some (31, nI (lv + 1), nI (fr + 1), lp, f, r, d, Rs.tadd w 7 p v, fn) := by
  rw [← nI_add' lv 1, ← nI_add' fr 1]
  rcases hk with rfl | rfl | rfl
  all_goals
    simp (decide := true) only [Rs.sign, Rs.takeSign, Rs.goDeeper, Rs.stands, Rs.standsInExpression, Rs.takeOperand, Rs.takeAtStart, Rs.takeOperator, Rs.operator2, Rs.afterW, Rs.goOn, Rs.mode, Rs.levels, Rs.signs, Rs.loops, Rs.top, Rs.rest, Rs.draft, Rs.wait, Rs.funs, Tok.k, Tok.pl, Tok.wd, Rs.s_mode, Rs.s_levels, Rs.s_signs, Rs.s_loops, Rs.s_top, Rs.s_rest, Rs.s_draft, Rs.s_wait, Rs.s_funs, if_true, if_false, nI_lt60 h, Option.map_some]
    rfl
theorem st_sign60 {k : Int32} (hk : k = 45 ∨ k = 43 ∨ k = 126) : Rs.stands (31, nI 60, nI fr, lp, f, r, d, w, fn) (k, p, v) sm = none := by
  rcases hk with rfl | rfl | rfl
  all_goals
    simp (decide := true) only [Rs.sign, Rs.takeSign, Rs.goDeeper, Rs.stands, Rs.standsInExpression, Rs.takeOperand, Rs.takeAtStart, Rs.takeOperator, Rs.operator2, Rs.afterW, Rs.goOn, Rs.mode, Rs.levels, Rs.signs, Rs.loops, Rs.top, Rs.rest, Rs.draft, Rs.wait, Rs.funs, Tok.k, Tok.pl, Tok.wd, Rs.s_mode, Rs.s_levels, Rs.s_signs, Rs.s_loops, Rs.s_top, Rs.s_rest, Rs.s_draft, Rs.s_wait, Rs.s_funs, if_true, if_false, Option.map_none]
theorem st_signP {k : Int32} (hk : k = 45 ∨ k = 43 ∨ k = 126) (h : k ≠ 45) {l : Int32} : Rs.stands (32, l, sg, lp, f, r, d, w, fn) (k, p, v) sm = none := by
  rcases hk with rfl | rfl | rfl
  · exact absurd rfl h
  all_goals
    simp (decide := true) only [Rs.sign, Rs.takePowerSign, Rs.stands, Rs.standsInExpression, Rs.takeOperand, Rs.takeAtStart, Rs.takeOperator, Rs.operator2, Rs.afterW, Rs.goOn, Rs.mode, Rs.levels, Rs.signs, Rs.loops, Rs.top, Rs.rest, Rs.draft, Rs.wait, Rs.funs, Tok.k, Tok.pl, Tok.wd, Rs.s_mode, Rs.s_levels, Rs.s_signs, Rs.s_loops, Rs.s_top, Rs.s_rest, Rs.s_draft, Rs.s_wait, Rs.s_funs, if_true, if_false]
theorem st_signQ {k : Int32} (hk : k = 45 ∨ k = 43 ∨ k = 126) {l : Int32} : Rs.stands (33, l, sg, lp, f, r, d, w, fn) (k, p, v) sm = none := by
  rcases hk with rfl | rfl | rfl
  all_goals
    simp (decide := true) only [Rs.sign, Rs.takePowerSign, Rs.stands, Rs.standsInExpression, Rs.takeOperand, Rs.takeAtStart, Rs.takeOperator, Rs.operator2, Rs.afterW, Rs.goOn, Rs.mode, Rs.levels, Rs.signs, Rs.loops, Rs.top, Rs.rest, Rs.draft, Rs.wait, Rs.funs, Tok.k, Tok.pl, Tok.wd, Rs.s_mode, Rs.s_levels, Rs.s_signs, Rs.s_loops, Rs.s_top, Rs.s_rest, Rs.s_draft, Rs.s_wait, Rs.s_funs, if_true, if_false]
theorem st_psign {l : Int32} : Rs.stands (32, l, sg, lp, f, r, d, w, fn) (45, p, v) sm = some (33, l, sg, lp, f, r, d, Rs.tadd w 9 p v, fn) := rfl
theorem st_name {m l : Int32} (hm : m = 31 ∨ m = 32 ∨ m = 33) : Rs.stands (m, l, sg, lp, f, r, d, w, fn) (2, p, v) sm = some (40, l, sg, lp, f, r, Rs.nadd d 32 p (-1) 0 v, w, fn) := by
  rcases hm with rfl | rfl | rfl <;> rfl
theorem st_num {m l : Int32} (hm : m = 31 ∨ m = 32 ∨ m = 33) : Rs.stands (m, l, sg, lp, f, r, d, w, fn) (3, p, v) sm = some (34, l - sg, 0, lp, f, r, Rs.nadd d 30 p (-1) 0 v, w, fn) := by
  rcases hm with rfl | rfl | rfl <;> rfl
theorem st_txt {m l : Int32} (hm : m = 31 ∨ m = 32 ∨ m = 33) : Rs.stands (m, l, sg, lp, f, r, d, w, fn) (4, p, v) sm = some (34, l - sg, 0, lp, f, r, Rs.nadd d 31 p (-1) 0 v, w, fn) := by
  rcases hm with rfl | rfl | rfl <;> rfl
theorem st_end {m l : Int32} (hm : m = 31 ∨ m = 32 ∨ m = 33) : Rs.stands (m, l, sg, lp, f, r, d, w, fn) (8, p, v) sm = if (Rs.limit f r).1 = true then some (34, l - sg, 0, lp, (Rs.limit f r).2.1, (Rs.limit f r).2.2, Rs.nadd d 35 p (-1) 0 v, w, fn) else none := by
  rcases hm with rfl | rfl | rfl <;> rfl
/-- the frame of an item that opens -/
def itF (k p v : Int32) (nw : Nat) (sg : Int32) (f : Fm) : Fm := (k, p, v, -1, 0, 0, p, v, sg, nI nw, 0, if k = 36 ∧ f.k = 20 ∧ f.pl = p then 1 else 0, 0)
theorem st_open {m : Int32} (hm : m = 31 ∨ m = 32 ∨ m = 33) (h : lv < 60) : Rs.stands (m, nI lv, sg, lp, f, r, d, w, fn) (40, p, v) sm = some (30, nI (lv + 1), 0, lp, itF 50 p v w.length sg f, f :: r, d, w, fn) := by
  rw [← nI_add' lv 1]
  rcases hm with rfl | rfl | rfl
  all_goals
    simp (decide := true) only [Rs.openI, Rs.stands, Rs.standsInExpression, Rs.takeOperand, Rs.takeAtStart, Rs.takeOperator, Rs.operator2, Rs.afterW, Rs.goOn, Rs.mode, Rs.levels, Rs.signs, Rs.loops, Rs.top, Rs.rest, Rs.draft, Rs.wait, Rs.funs, Tok.k, Tok.pl, Tok.wd, Rs.s_mode, Rs.s_levels, Rs.s_signs, Rs.s_loops, Rs.s_top, Rs.s_rest, Rs.s_draft, Rs.s_wait, Rs.s_funs, if_true, if_false, nI_lt60 h]
    rfl
theorem st_open60 {m : Int32} (hm : m = 31 ∨ m = 32 ∨ m = 33) : Rs.stands (m, nI 60, sg, lp, f, r, d, w, fn) (40, p, v) sm = none := by
  rcases hm with rfl | rfl | rfl
  all_goals
    simp (decide := true) only [Rs.openI, Rs.stands, Rs.standsInExpression, Rs.takeOperand, Rs.takeAtStart, Rs.takeOperator, Rs.operator2, Rs.afterW, Rs.goOn, Rs.mode, Rs.levels, Rs.signs, Rs.loops, Rs.top, Rs.rest, Rs.draft, Rs.wait, Rs.funs, Tok.k, Tok.pl, Tok.wd, Rs.s_mode, Rs.s_levels, Rs.s_signs, Rs.s_loops, Rs.s_top, Rs.s_rest, Rs.s_draft, Rs.s_wait, Rs.s_funs, if_true, if_false]
theorem st_rows {m : Int32} (hm : m = 31 ∨ m = 32 ∨ m = 33) (h : lv < 60) : Rs.stands (m, nI lv, sg, lp, f, r, d, w, fn) (91, p, v) sm = some (30, nI (lv + 1), 0, lp, itF 36 p v w.length sg f, f :: r, d, w, fn) := by
  rw [← nI_add' lv 1]
  rcases hm with rfl | rfl | rfl
  all_goals
    simp (decide := true) only [Rs.openI, Rs.stands, Rs.standsInExpression, Rs.takeOperand, Rs.takeAtStart, Rs.takeOperator, Rs.operator2, Rs.afterW, Rs.goOn, Rs.mode, Rs.levels, Rs.signs, Rs.loops, Rs.top, Rs.rest, Rs.draft, Rs.wait, Rs.funs, Tok.k, Tok.pl, Tok.wd, Rs.s_mode, Rs.s_levels, Rs.s_signs, Rs.s_loops, Rs.s_top, Rs.s_rest, Rs.s_draft, Rs.s_wait, Rs.s_funs, if_true, if_false, nI_lt60 h]
    rfl
theorem st_rows60 {m : Int32} (hm : m = 31 ∨ m = 32 ∨ m = 33) : Rs.stands (m, nI 60, sg, lp, f, r, d, w, fn) (91, p, v) sm = none := by
  rcases hm with rfl | rfl | rfl
  all_goals
    simp (decide := true) only [Rs.openI, Rs.stands, Rs.standsInExpression, Rs.takeOperand, Rs.takeAtStart, Rs.takeOperator, Rs.operator2, Rs.afterW, Rs.goOn, Rs.mode, Rs.levels, Rs.signs, Rs.loops, Rs.top, Rs.rest, Rs.draft, Rs.wait, Rs.funs, Tok.k, Tok.pl, Tok.wd, Rs.s_mode, Rs.s_levels, Rs.s_signs, Rs.s_loops, Rs.s_top, Rs.s_rest, Rs.s_draft, Rs.s_wait, Rs.s_funs, if_true, if_false]
/-- no other token is an operand -/
theorem st_opno {m l k : Int32} (hm : m = 31 ∨ m = 32 ∨ m = 33) (h2 : k ≠ 2) (h3 : k ≠ 3) (h4 : k ≠ 4) (h8 : k ≠ 8) (h40 : k ≠ 40) (h43 : k ≠ 43) (h45 : k ≠ 45) (h91 : k ≠ 91) (h126 : k ≠ 126) : Rs.stands (m, l, sg, lp, f, r, d, w, fn) (k, p, v) sm = none := by
  rcases hm with rfl | rfl | rfl
  all_goals
    simp (decide := true) only [Rs.stands, Rs.standsInExpression, Rs.takeOperand, Rs.takeAtStart, Rs.takeOperator, Rs.operator2, Rs.afterW, Rs.goOn, Rs.mode, Rs.levels, Rs.signs, Rs.loops, Rs.top, Rs.rest, Rs.draft, Rs.wait, Rs.funs, Tok.k, Tok.pl, Tok.wd, Rs.s_mode, Rs.s_levels, Rs.s_signs, Rs.s_loops, Rs.s_top, Rs.s_rest, Rs.s_draft, Rs.s_wait, Rs.s_funs, if_true, if_false, h2, h3, h4, h8, h40, h43, h45, h91, h126]
theorem st_args (h : lv < 60) {nd : Nd} {pa : Int32} : Rs.stands (40, nI lv, sg, lp, f, r, d ++ [nd], w, fn) (40, p, v) sm = some (30, nI (lv + 1), 0, lp, (33, nd.pl, nd.wd, p, 0, 0, p, v, sg, nI w.length, 0, 0, 0), (f.s_tg 0) :: r, d, w, fn) := by
  rw [← nI_add' lv 1]
  simp (decide := true) only [Rs.openArgs, Rs.stands, Rs.standsInExpression, Rs.takeOperand, Rs.takeAtStart, Rs.takeOperator, Rs.operator2, Rs.afterW, Rs.goOn, Rs.mode, Rs.levels, Rs.signs, Rs.loops, Rs.top, Rs.rest, Rs.draft, Rs.wait, Rs.funs, Tok.k, Tok.pl, Tok.wd, Rs.s_mode, Rs.s_levels, Rs.s_signs, Rs.s_loops, Rs.s_top, Rs.s_rest, Rs.s_draft, Rs.s_wait, Rs.s_funs, if_true, if_false, nI_lt60 h]
  simp only [Rs.openArguments, Rs.lastN, Rs.push, Rs.openCall, Rs.mode, Rs.levels, Rs.signs, Rs.loops, Rs.top, Rs.rest, Rs.draft, Rs.wait, Rs.funs, Tok.k, Tok.pl, Tok.wd, Rs.s_mode, Rs.s_levels, Rs.s_signs, Rs.s_loops, Rs.s_top, Rs.s_rest, Rs.s_draft, Rs.s_wait, Rs.s_funs, List.getLast?_concat, List.dropLast_concat, Option.map_some, Option.getD_some]
  rfl
theorem st_args60 {nd : Nd} : Rs.stands (40, nI 60, sg, lp, f, r, d, w, fn) (40, p, v) sm = none := by
  simp (decide := true) only [Rs.openArgs, Rs.stands, Rs.standsInExpression, Rs.takeOperand, Rs.takeAtStart, Rs.takeOperator, Rs.operator2, Rs.afterW, Rs.goOn, Rs.mode, Rs.levels, Rs.signs, Rs.loops, Rs.top, Rs.rest, Rs.draft, Rs.wait, Rs.funs, Tok.k, Tok.pl, Tok.wd, Rs.s_mode, Rs.s_levels, Rs.s_signs, Rs.s_loops, Rs.s_top, Rs.s_rest, Rs.s_draft, Rs.s_wait, Rs.s_funs, if_true, if_false]
theorem st_turn {l : Int32} : Rs.stands (34, l, sg, lp, f, r, d, w, fn) (39, p, v) sm = some (34, l, sg, lp, f.s_tg 0, r, Rs.nadd d 38 p (-1) 1 v, w, fn) := rfl
/-- after an operand, any token but a turn -/
theorem st_op {l k : Int32} (h39 : k ≠ 39) : Rs.stands (34, l, sg, lp, f, r, d, w, fn) (k, p, v) sm = (Rs.endWaiting (34, l, sg, lp, (if k = 44 ∨ k = 93 then f else f.s_tg 0), r, d, w, fn) (if Rs.rankOf k = 4 then 5 else Rs.rankOf k)).afterW (k, p, v) (Rs.rankOf k) := by
  by_cases a : k = 44
  · subst a; rfl
  · by_cases b : k = 93
    · subst b; rfl
    · simp (decide := true) only [Rs.stands, Rs.standsInExpression, Rs.takeOperand, Rs.takeAtStart, Rs.takeOperator, Rs.operator2, Rs.afterW, Rs.goOn, Rs.mode, Rs.levels, Rs.signs, Rs.loops, Rs.top, Rs.rest, Rs.draft, Rs.wait, Rs.funs, Tok.k, Tok.pl, Tok.wd, Rs.s_mode, Rs.s_levels, Rs.s_signs, Rs.s_loops, Rs.s_top, Rs.s_rest, Rs.s_draft, Rs.s_wait, Rs.s_funs, if_true, if_false, a, b, h39, or_self]
end St
end

section
def kOKb (k : Nat) : Bool := decide (k < 57) && (decide (k < 5) || decide (10 ≤ k)) && (decide (k < 24) || decide (30 ≤ k))
abbrev kOK (k : Nat) : Prop := kOKb k = true
theorem kOK.lt {k : Nat} (h : kOK k) : k < 57 := by
  unfold kOK kOKb at h
  simp only [Bool.and_eq_true, decide_eq_true_eq] at h
  exact h.1.1
theorem ck_inj0 : ((List.range 57).all fun k => (List.range 57).all fun j => !(decide (kOK k)) || !(decide (kOK j)) || !(ck k == ck j) || k == j) = true := by decide +kernel
theorem ck_le0 : ((List.range 57).all fun k => decide (ck k ≤ 300)) = true := by decide +kernel
theorem ck_le {k : Nat} (h : kOK k) : ck k ≤ 300 := of_decide_eq_true (List.all_eq_true.mp ck_le0 k (List.mem_range.mpr h.lt))
theorem ck_inj {k j : Nat} (hk : kOK k) (hj : kOK j) (e : nI (ck k) = nI (ck j)) : k = j := by
  have h1 := ck_le hk
  have h2 := ck_le hj
  rw [nI_eq' (by omega) (by omega)] at e
  have := List.all_eq_true.mp (List.all_eq_true.mp ck_inj0 k (List.mem_range.mpr hk.lt)) j (List.mem_range.mpr hj.lt)
  rw [e, decide_eq_true hk, decide_eq_true hj] at this
  simpa using this
theorem ck_ne {k : Nat} (hk : kOK k) (j : Nat) (hj : kOK j) (h : k ≠ j) : nI (ck k) ≠ nI (ck j) := fun e => h (ck_inj hk hj e)
theorem rk_ck0 : ((List.range 57).all fun k => !(decide (kOK k)) || F_Rk_of (nI (ck k)) == nI (rkM k)) = true := by decide +kernel
theorem rk_ck {k : Nat} (h : kOK k) : Rs.rankOf (nI (ck k)) = nI (rkM k) := by
  have := List.all_eq_true.mp rk_ck0 k (List.mem_range.mpr h.lt)
  rw [decide_eq_true h] at this
  unfold Rs.rankOf
  simpa using this
/-- what is known of the tokens, of which m stand -/
abbrev TkOK (T : Tks) (m : Nat) : Prop := (∀ i, kOK (T.tkd i)) ∧ (∀ i, T.tpl i ≠ -1) ∧ (∀ i j, i < m → j < m → T.tpl i = T.tpl j → i = j) ∧ (0 < m) ∧ (m ≤ 16385) ∧ (∀ i, i + 1 < m → 1 < T.tkd i) ∧ (T.tkd (m - 1) ≤ 1)
theorem TkOK.ok {T : Tks} {m : Nat} (h : TkOK T m) : ∀ i, kOK (T.tkd i) := h.1
theorem TkOK.pl {T : Tks} {m : Nat} (h : TkOK T m) : ∀ i, T.tpl i ≠ -1 := h.2.1
theorem TkOK.inj {T : Tks} {m : Nat} (h : TkOK T m) : ∀ i j, i < m → j < m → T.tpl i = T.tpl j → i = j := h.2.2.1
theorem TkOK.pos {T : Tks} {m : Nat} (h : TkOK T m) : 0 < m := h.2.2.2.1
theorem TkOK.le {T : Tks} {m : Nat} (h : TkOK T m) : m ≤ 16385 := h.2.2.2.2.1
theorem TkOK.last {T : Tks} {m : Nat} (h : TkOK T m) : ∀ i, i + 1 < m → 1 < T.tkd i := h.2.2.2.2.2.1
theorem TkOK.end' {T : Tks} {m : Nat} (h : TkOK T m) : T.tkd (m - 1) ≤ 1 := h.2.2.2.2.2.2
theorem TkOK.go {T : Tks} {m : Nat} (h : TkOK T m) {i : Nat} (hi : i < m) (hk : 1 < T.tkd i) : i + 1 < m := by
  have := h.end'
  have : i ≠ m - 1 := fun e => by rw [e] at hk; omega
  omega
def tokC (T : Tks) (i : Nat) : Tok := (nI (ck (T.tkd i)), T.tpl i, T.twd i)
theorem tokC_of {T : Tks} {i k : Nat} (h : T.tkd i = k) : tokC T i = (nI (ck k), T.tpl i, T.twd i) := by
  unfold tokC; rw [h]
/-- a frame f (the reference's entry e) that opened at token j: A stands in it, the next element begins at c; x: an argument more is counted -/
def Slot (T : Tks) (x : Nat) (f : Fm) (e : Ent) (j c : Nat) (A : Tr Lb) : Prop :=
  (f.k = 50 ∧ e.1 = 50 ∧ T.tkd j = 50 ∧ c = j + 1 ∧ A = .leaf)
  ∨ (f.k = 36 ∧ e.1 = 52 ∧ T.tkd j = 52 ∧ f.pl = T.tpl j ∧ f.wd = T.twd j ∧ ∃ b R E, ((b = j + 1 ∧ R = .leaf) ∨ ∃ m, VV T 3 0 (j + 1) m R ∧ T.tkd m = 55 ∧ b = m + 1) ∧ ((c = b ∧ E = .leaf) ∨ ∃ m, VV T 2 0 b m E ∧ T.tkd m = 54 ∧ c = m + 1) ∧ f.pa = nI (Tr.rt R) ∧ f.ip = nI (Tr.rt E) ∧ f.ipl = T.tpl b ∧ f.iw = T.twd b ∧ A = Tr.app R E)
  ∨ (f.k = 33 ∧ e.1 = 2 ∧ T.tkd j = 2 ∧ T.tkd (j + 1) = 50 ∧ f.pl = T.tpl j ∧ f.wd = T.twd j ∧ f.sec = T.tpl (j + 1) ∧ ((c = j + 2 ∧ A = .leaf) ∨ ∃ m, VV T 1 0 (j + 2) m A ∧ T.tkd m = 54 ∧ c = m + 1) ∧ f.pa = nI (Tr.rt A) ∧ f.lim = nI e.2.2.1 ∧ e.2.1 = Tr.rt A + x ∧ e.2.2.1 ≤ 1)
/-- the open frames above the base, whose expression began at a: X stands before the next element, at c -/
def CH (T : Tks) (a : Nat) : List Fm → List Ent → List (List We) → Nat → Tr Lb → Prop
  | [], [], [], c, X => c = a ∧ X = .leaf
  | f :: es, e :: op, W :: Ws, c, X => ∃ j c' X' Y A, CH T a es op Ws c' X' ∧ Pend T c' W j Y ∧ Slot T 0 f e j c A ∧ X = Tr.app X' (Tr.app Y A) ∧ f.wb = nI (W ++ Ws.flatten).length ∧ f.sg = nI e.2.2.2.2 ∧ e.2.2.2.1 = colo W
  | _, _, _, _, _ => False
def topF (b0 : Fm) : List Fm → Fm
  | [] => b0
  | f :: _ => f
def restF (b0 : Fm) (bs : List Fm) : List Fm → List Fm
  | [] => bs
  | _ :: r => r ++ b0 :: bs
/-- the machine's state: mode, levels, signs, what stands in the draft, what waits -/
abbrev Bs : Type := Int32 × Fm × (List Fm) × (List Nd) × (List Wt)
abbrev Bs.bl (z : Bs) : Int32 := z.1
abbrev Bs.b0 (z : Bs) : Fm := z.2.1
abbrev Bs.bs (z : Bs) : List Fm := z.2.2.1
abbrev Bs.bd (z : Bs) : List Nd := z.2.2.2.1
abbrev Bs.bf (z : Bs) : List Wt := z.2.2.2.2
abbrev Bs.s_bl (z : Bs) (v : Int32) : Bs := (v, z.2.1, z.2.2.1, z.2.2.2.1, z.2.2.2.2)
abbrev Bs.s_b0 (z : Bs) (v : Fm) : Bs := (z.1, v, z.2.2.1, z.2.2.2.1, z.2.2.2.2)
abbrev Bs.s_bs (z : Bs) (v : List Fm) : Bs := (z.1, z.2.1, v, z.2.2.2.1, z.2.2.2.2)
abbrev Bs.s_bd (z : Bs) (v : List Nd) : Bs := (z.1, z.2.1, z.2.2.1, v, z.2.2.2.2)
abbrev Bs.s_bf (z : Bs) (v : List Wt) : Bs := (z.1, z.2.1, z.2.2.1, z.2.2.2.1, v)
def Bs.st (B : Bs) (T : Tks) (md : Int32) (lv fr : Nat) (es : List Fm) (F : Tr Lb) (W : List We) : Rs := (md, nI lv, nI fr, B.bl, topF B.b0 es, restF B.b0 B.bs es, B.bd ++ Tr.pn F, (W.map (We.w T)).reverse, B.bf)
end

section
theorem tadd_w {T : Tks} {W : List We} {r i : Nat} (h : W.length < 16384) : Rs.tadd (W.map (We.w T)).reverse (nI r) (T.tpl i) (T.twd i) = (((r, i, 0) :: W).map (We.w T)).reverse := by
  unfold Rs.tadd
  rw [if_pos (by rw [List.length_reverse, List.length_map]; exact h), List.map_cons, List.reverse_cons]
  rfl
/-- ending what waits in a state -/
theorem endWaiting_ok {T : Tks} (hpl : ∀ i, T.tpl i ≠ -1) {c i rk m ρ : Nat} (hrk : rk ≤ 8) {D0 : List Nd} {X Y t : Tr Lb} {W Wr : List We} {l sg lp : Int32} {f : Fm} {r : List Fm} {fn : List Wt} (hp : Pend T c W m Y) (hv : VV T 0 ρ m i t) (h9 : 9 ≤ ρ) (hwb : f.wb = nI Wr.length) (hs : D0.length + Tr.sz X + Tr.sz Y + Tr.sz t + (W ++ Wr).length < 16385) :
    ∃ W' m' Y' t' ρ', Rs.endWaiting (34, l, sg, lp, f, r, D0 ++ Tr.pn (Tr.app X (Tr.app Y t)), ((W ++ Wr).map (We.w T)).reverse, fn) (nI rk) = (34, l, sg, lp, f, r, D0 ++ Tr.pn (Tr.app X (Tr.app Y' t')), ((W' ++ Wr).map (We.w T)).reverse, fn) ∧ Pend T c W' m' Y' ∧ VV T 0 ρ' m' i t' ∧ hdR W' < rk + (if rk = 0 then 1 else 0) ∧ rk ≤ ρ' ∧ FitR ρ' W' ∧ (5 ≤ rk → colo W' = colo W) ∧ Tr.sz Y' + Tr.sz t' + W'.length = Tr.sz Y + Tr.sz t + W.length := by
  have hlen : (W ++ Wr).length = W.length + Wr.length := List.length_append
  obtain ⟨W', m', Y', t', ρ', e1, e2⟩ := endW_ok hpl hrk (D := D0 ++ Tr.pn X) (B := Wr.map (We.w T)) W m Y t ρ hp hv (FitR.big h9 hp) (by rw [List.length_append, Tr.pn_len]; omega) (by rw [List.length_map]; omega) (by omega)
  refine ⟨W', m', Y', t', ρ', ?_, e2⟩
  rw [List.append_assoc, ← Tr.pn_app, List.append_assoc, ← Tr.pn_app, List.length_map, ← List.map_append, ← List.map_append] at e1
  have hw : f.wb = nI Wr.length := hwb
  unfold Rs.endWaiting
  show ((34 : Int32), l, sg, lp, f, r, (Rs.endW (nI rk) f.wb (((W ++ Wr).map (We.w T)).reverse).reverse (D0 ++ Tr.pn (Tr.app X (Tr.app Y t)))).2, ((Rs.endW (nI rk) f.wb (((W ++ Wr).map (We.w T)).reverse).reverse (D0 ++ Tr.pn (Tr.app X (Tr.app Y t)))).1).reverse, fn) = _
  rw [List.reverse_reverse, hw, e1]
def Rs.nx (T : Tks) (sm : Int32 → Int32 → Int32 → Bool) (i : Nat) (s : Rs) : Option Rs := (s.stands (tokC T i) sm).map (fun s' => s'.settle (tokC T (i + 1)))
def Rs.nxs (T : Tks) (sm : Int32 → Int32 → Int32 → Bool) : Nat → Nat → Rs → Option Rs
  | 0, _, s => some s
  | n + 1, i, s => (Rs.nx T sm i s).bind (Rs.nxs T sm n (i + 1))
theorem nx_one {T : Tks} {sm : Int32 → Int32 → Int32 → Bool} {i : Nat} {s s1 : Rs} (h : s.stands (tokC T i) sm = some s1) : Rs.nxs T sm 1 i s = some (s1.settle (tokC T (i + 1))) := by
  show (Rs.nx T sm i s).bind (fun s => some s) = _
  unfold Rs.nx
  rw [h]; rfl
theorem nx_two {T : Tks} {sm : Int32 → Int32 → Int32 → Bool} {i : Nat} {s s1 s2 : Rs} (h : s.stands (tokC T i) sm = some s1) (h2 : (s1.settle (tokC T (i + 1))).stands (tokC T (i + 1)) sm = some s2) : Rs.nxs T sm 2 i s = some (s2.settle (tokC T (i + 2))) := by
  show (Rs.nx T sm i s).bind (Rs.nxs T sm 1 (i + 1)) = _
  unfold Rs.nx
  rw [h]
  exact nx_one h2
theorem nx_three {T : Tks} {sm : Int32 → Int32 → Int32 → Bool} {i : Nat} {s s1 s2 s3 : Rs} (h : s.stands (tokC T i) sm = some s1) (h2 : (s1.settle (tokC T (i + 1))).stands (tokC T (i + 1)) sm = some s2) (h3 : (s2.settle (tokC T (i + 2))).stands (tokC T (i + 2)) sm = some s3) : Rs.nxs T sm 3 i s = some (s3.settle (tokC T (i + 3))) := by
  show (Rs.nx T sm i s).bind (Rs.nxs T sm 2 (i + 1)) = _
  unfold Rs.nx
  rw [h]
  exact nx_two h2 h3
theorem nxs_add {T : Tks} {sm : Int32 → Int32 → Int32 → Bool} : ∀ (n k i : Nat) (s : Rs), Rs.nxs T sm (n + k) i s = (Rs.nxs T sm n i s).bind (Rs.nxs T sm k (i + n))
  | 0, k, i, s => by rw [Nat.zero_add]; rfl
  | n + 1, k, i, s => by
    rw [show n + 1 + k = (n + k) + 1 by omega]
    show (Rs.nx T sm i s).bind (Rs.nxs T sm (n + k) (i + 1)) = ((Rs.nx T sm i s).bind (Rs.nxs T sm n (i + 1))).bind (Rs.nxs T sm k (i + (n + 1)))
    cases h : Rs.nx T sm i s with
    | none => rfl
    | some s' =>
      show Rs.nxs T sm (n + k) (i + 1) s' = (Rs.nxs T sm n (i + 1) s').bind (Rs.nxs T sm k (i + (n + 1)))
      rw [nxs_add n k (i + 1) s', show i + 1 + n = i + (n + 1) by omega]
section Se
variable {lv fr : Nat} {l sg lp : Int32} {f : Fm} {r : List Fm} {d : List Nd} {w fn : List Wt} {t : Tok}
theorem se_id {m : Int32} (h : m = 31 ∨ m = 32 ∨ m = 33 ∨ m = 34 ∨ m = 35) : Rs.settle (m, l, sg, lp, f, r, d, w, fn) t = (m, l, sg, lp, f, r, d, w, fn) := by
  rcases h with rfl | rfl | rfl | rfl | rfl <;> rfl
theorem se_40 (h : t.k ≠ 40) : Rs.settle (40, l, sg, lp, f, r, d, w, fn) t = (34, l - sg, 0, lp, f, r, d, w, fn) := by
  unfold Rs.settle Rs.settle2
  rw [if_neg (show ¬ ((40 : Int32) = 0 ∧ Rs.isWordK t.k = false) from fun x => absurd x.1 (by decide))]
  rw [if_neg (show ¬ (40 : Int32) = 30 by decide), if_pos (show (40 : Int32) = 40 ∧ t.k ≠ 40 from ⟨rfl, h⟩)]
  rfl
theorem se_40' (h : t.k = 40) : Rs.settle (40, l, sg, lp, f, r, d, w, fn) t = (40, l, sg, lp, f, r, d, w, fn) := by
  unfold Rs.settle Rs.settle2
  rw [if_neg (show ¬ ((40 : Int32) = 0 ∧ Rs.isWordK t.k = false) from fun x => absurd x.1 (by decide))]
  rw [if_neg (show ¬ (40 : Int32) = 30 by decide), if_neg (show ¬ ((40 : Int32) = 40 ∧ t.k ≠ 40) from fun x => x.2 h), if_neg (show ¬ ((40 : Int32) = 41 ∧ t.k ≠ 61) from fun x => absurd x.1 (by decide)), if_neg (show ¬ ((40 : Int32) = 42 ∧ t.k ≠ 44 ∧ t.k ≠ 93) from fun x => absurd x.1 (by decide)), if_neg (show ¬ (40 : Int32) = 42 by decide)]
/-- a value begins, and it can be no target -/
def seF (f : Fm) (t : Tok) : Fm := (f.k, f.pl, f.wd, f.sec, f.pa, f.ip, (if f.k = 36 ∧ f.ip = 0 then t.pl else f.ipl), (if f.k = 36 ∧ f.ip = 0 then t.wd else f.iw), f.sg, f.wb, f.lim, 0, f.lb)
theorem se_30 (htg : f.tg = 0 ∨ ¬ (t.k = 2 ∨ t.k = 126)) : Rs.settle (30, l, sg, lp, f, r, d, w, fn) t = ((if t.k = 41 ∨ t.k = 93 ∨ t.k = 58 then 30 else 31), l, sg, lp, seF f t, r, d, w, fn) := by
  have hc : Rs.canT (30, l, sg, lp, f, r, d, w, fn) t = 0 := by
    unfold Rs.canT
    show (if f.tg = 0 then (0 : Int32) else if t.k = 2 ∨ t.k = 126 then 1 else 0) = 0
    rcases htg with h | h
    · rw [if_pos h]
    · by_cases c : f.tg = 0
      · rw [if_pos c]
      · rw [if_neg c, if_neg h]
  unfold Rs.settle Rs.settle2
  rw [if_neg (show ¬ ((30 : Int32) = 0 ∧ Rs.isWordK t.k = false) from fun x => absurd x.1 (by decide)), if_pos (show (30 : Int32) = 30 from rfl)]
  unfold Rs.settleStart
  rw [hc]
  show ((if t.k = 41 ∨ t.k = 93 ∨ t.k = 58 ∨ ((0 : Int32) ≠ 0 ∧ t.k = 126) then (30 : Int32) else 31), l, sg, lp, seF f t, r, d, w, fn) = _
  congr 1
  by_cases c : t.k = 41 ∨ t.k = 93 ∨ t.k = 58
  · rw [if_pos c, if_pos]
    rcases c with c | c | c
    · exact Or.inl c
    · exact Or.inr (Or.inl c)
    · exact Or.inr (Or.inr (Or.inl c))
  · rw [if_neg c, if_neg]
    intro h
    rcases h with h | h | h | h
    · exact c (Or.inl h)
    · exact c (Or.inr (Or.inl h))
    · exact c (Or.inr (Or.inr h))
    · exact h.1 rfl
end Se
theorem seF_base {f : Fm} {t : Tok} (h : f.k ≠ 36) (h2 : f.tg = 0) : seF f t = f := by
  rcases f with ⟨k, pl, wd, sec, pa, ip, ipl, iw, sg, wb, lim, tg, lb⟩
  have h : k ≠ 36 := h
  have h2 : tg = 0 := h2
  subst h2
  show (k, pl, wd, sec, pa, ip, (if k = 36 ∧ ip = 0 then t.pl else ipl), (if k = 36 ∧ ip = 0 then t.wd else iw), sg, wb, lim, (0 : Int32), lb) = _
  rw [if_neg (fun x => h x.1), if_neg (fun x => h x.1)]
theorem tg0 {f : Fm} (h : f.tg = 0) : f.s_tg 0 = f := by
  rcases f with ⟨k, pl, wd, sec, pa, ip, ipl, iw, sg, wb, lim, tg, lb⟩
  have h : tg = 0 := h
  subst h
  rfl
/-- where a value begins, no such token stands first -/
def StC (T : Tks) (B : Bs) (i : Nat) : List Fm → Prop
  | [] => B.b0.k = 52 → B.b0.pa = 0 → T.tkd i ≠ 51
  | f :: _ => (f.k = 33 → T.tkd i ≠ 38 ∧ (f.pa = 0 → T.tkd i ≠ 51)) ∧ (f.k = 36 → f.pa = 0 → f.ip = 0 → T.tkd i ≠ 53)
/-- the base is a statement's or a head's frame -/
abbrev BsOK (T : Tks) (B : Bs) (a : Nat) : Prop := (B.b0.tg = 0) ∧ (B.b0.wb = 0) ∧ (B.b0.k = 18 ∨ B.b0.k = 19 ∨ B.b0.k = 20 ∨ B.b0.k = 21 ∨ B.b0.k = 51 ∨ B.b0.k = 52) ∧ (B.b0.k = 20 → B.b0.pl = T.tpl a) ∧ (B.b0.k = 20 → T.tkd a ≠ 0)
theorem BsOK.tg {T : Tks} {B : Bs} {a : Nat} (h : BsOK T B a) : B.b0.tg = 0 := h.1
theorem BsOK.wb {T : Tks} {B : Bs} {a : Nat} (h : BsOK T B a) : B.b0.wb = 0 := h.2.1
theorem BsOK.k {T : Tks} {B : Bs} {a : Nat} (h : BsOK T B a) : B.b0.k = 18 ∨ B.b0.k = 19 ∨ B.b0.k = 20 ∨ B.b0.k = 21 ∨ B.b0.k = 51 ∨ B.b0.k = 52 := h.2.2.1
theorem BsOK.pl {T : Tks} {B : Bs} {a : Nat} (h : BsOK T B a) : B.b0.k = 20 → B.b0.pl = T.tpl a := h.2.2.2.1
theorem BsOK.k0 {T : Tks} {B : Bs} {a : Nat} (h : BsOK T B a) : B.b0.k = 20 → T.tkd a ≠ 0 := h.2.2.2.2
/-- the reference's turn and the machine's state at token i -/
def ER (T : Tks) (B : Bs) (a m : Nat) : Mx → Rs → Prop
  | (w, fr, bh, co, i, lv, op), s => ∃ es Ws W c X, i < m ∧ lv ≤ 60 ∧ (∀ f ∈ es, f.tg = 0) ∧ (B.b0.k = 20 → T.tkd a = 52 → a < i) ∧ a ≤ i ∧
    ((w = 1 ∧ co = colo W ∧ CH T a es op Ws c X ∧ ∃ Y md, Pend T c W i Y ∧ B.bd.length + Tr.sz X + Tr.sz Y + (W ++ Ws.flatten).length + es.length ≤ i ∧ s = B.st T md lv fr es (Tr.app X Y) (W ++ Ws.flatten) ∧
        ((bh = 0 ∧ md = 31 ∧ hdR W ≤ 7) ∨ (bh = 1 ∧ md = 32 ∧ hdR W = 8) ∨ (bh = 2 ∧ md = 33 ∧ hdR W = 9) ∨ (bh = 0 ∧ md = 30 ∧ W = [] ∧ (T.tkd i = 51 ∨ T.tkd i = 53 ∨ T.tkd i = 38) ∧ StC T B i es)))
    ∨ (w = 0 ∧ fr = 0 ∧ co = colo W ∧ CH T a es op Ws c X ∧ T.tkd (i - 1) ≠ 38 ∧ T.tkd (i - 1) ≠ 50 ∧ T.tkd (i - 1) ≠ 52 ∧ ∃ k Y t ρ, Pend T c W k Y ∧ VV T 0 ρ k i t ∧ 9 ≤ ρ ∧ B.bd.length + Tr.sz X + Tr.sz Y + Tr.sz t + (W ++ Ws.flatten).length + es.length ≤ i ∧ s = B.st T 34 lv 0 es (Tr.app X (Tr.app Y t)) (W ++ Ws.flatten))
    ∨ (w = 0 ∧ fr = 0 ∧ W = [] ∧ i = c + 1 ∧ T.tkd c = 38 ∧ (T.tkd i = 54 ∨ T.tkd i = 51) ∧ ∃ f es' cn co1 fr1 op', es = f :: es' ∧ f.k = 33 ∧ op = (2, cn + 1, 1, co1, fr1) :: op' ∧ CH T a es ((2, cn, 1, co1, fr1) :: op') Ws c X ∧ B.bd.length + Tr.sz X + 1 + Ws.flatten.length + es.length ≤ i ∧ s = B.st T 35 lv 0 es (Tr.app X (Tr.nd (T.lb 34 c) .leaf)) Ws.flatten)
    ∨ (w = 0 ∧ fr = 0 ∧ W = [] ∧ i = c ∧ CH T a es op Ws c X ∧ B.bd.length + Tr.sz X + Ws.flatten.length + es.length ≤ i ∧ s = B.st T 30 lv 0 es X Ws.flatten ∧ ∃ f es', es = f :: es' ∧ ((f.k = 33 ∧ f.pa = 0 ∧ T.tkd i = 51 ∧ T.tkd (i - 1) = 50) ∨ (f.k = 36 ∧ f.pa = 0 ∧ f.ip = 0 ∧ T.tkd i = 53 ∧ T.tkd (i - 1) = 52))))
/-- a state that has settled at the text's end did not begin a statement there -/
def NB (T : Tks) (j : Nat) (s : Rs) : Prop := T.tkd j = 0 → s.mode = 31 → s.top.k = 20 → s.top.pl = T.tpl j → False
theorem NB.md {T : Tks} {j : Nat} {s : Rs} {k : Int32} (h : s.mode = k) (h2 : k ≠ 31) : NB T j s := fun _ h3 => absurd (h.symm.trans h3) h2
/-- what a turn of the reference says of the machine -/
def Sim (T : Tks) (B : Bs) (sm : Int32 → Int32 → Int32 → Bool) (a m i : Nat) (s : Rs) : Sum Nat (Bool × Mx) → Prop
  | .inl j => ∃ n s', j = i + n ∧ Rs.nxs T sm n i s = some s' ∧ s'.stands (tokC T j) sm = none ∧ (n = 0 ∨ T.tkd j ≠ 0 ∨ s'.mode = 35)
  | .inr (true, _) => True
  | .inr (false, mx) => ∃ n s', mx.ix = i + n ∧ Rs.nxs T sm n i s = some s' ∧ ER T B a m mx s'
end

section
theorem top_rest (b0 : Fm) (bs : List Fm) : ∀ es : List Fm, topF b0 es :: restF b0 bs es = es ++ b0 :: bs
  | [] => rfl
  | _ :: _ => rfl
/-- the kinds of the frames above the base -/
theorem CH.kinds {T : Tks} {a : Nat} : ∀ {es : List Fm} {op : List Ent} {Ws : List (List We)} {c : Nat} {X : Tr Lb}, CH T a es op Ws c X → ∀ f ∈ es, f.k = 50 ∨ f.k = 36 ∨ f.k = 33
  | [], _, _, _, _, _ => fun f hf => absurd hf List.not_mem_nil
  | f :: es, [], _, _, _, h => h.elim
  | f :: es, e :: op, [], _, _, h => h.elim
  | f :: es, e :: op, W :: Ws, c, X, h => by
    obtain ⟨j, c', X', Y, A, h1, _, h3, _⟩ := h
    intro g hg
    rcases List.mem_cons.mp hg with rfl | hg
    · rcases h3 with h | h | h
      · exact Or.inl h.1
      · exact Or.inr (Or.inl h.1)
      · exact Or.inr (Or.inr h.1)
    · exact CH.kinds h1 g hg
theorem lb_pn {T : Tks} {k : Int32} {i : Nat} : Tr.pn (Tr.nd (T.lb k i) .leaf) = [((k, T.tpl i, -1, 0, T.twd i, 1) : Nd)] := rfl
/-- the element's start in a new frame, wanted -/
theorem ER.start {T : Tks} {B : Bs} {a m i lv : Nat} {es : List Fm} {e : Ent} {op : List Ent} {Ws : List (List We)} {X : Tr Lb} {f : Fm} {s : Rs} (hi : i < m) (hlv : lv ≤ 60) (htg : ∀ g ∈ es, g.tg = 0) (hai : a < i) (hch : CH T a (f.s_tg 0 :: es) (e :: op) Ws i X) (hsz : B.bd.length + Tr.sz X + Ws.flatten.length + (es.length + 1) ≤ i) (hst : (f.k = 33 → T.tkd i ≠ 38 ∧ (f.pa = 0 → T.tkd i ≠ 51)) ∧ (f.k = 36 → f.pa = 0 → f.ip = 0 → T.tkd i ≠ 53)) {md : Int32} (hmd : md = if T.tkd i = 51 ∨ T.tkd i = 53 ∨ T.tkd i = 38 then 30 else 31) (hs : s = B.st T md lv 0 (f.s_tg 0 :: es) X Ws.flatten) :
    ER T B a m (1, 0, 0, 0, i, lv, e :: op) s := by
  refine ⟨f.s_tg 0 :: es, Ws, [], i, X, hi, hlv, ?_, fun _ _ => hai, by omega, Or.inl ⟨rfl, rfl, hch, .leaf, md, ⟨rfl, rfl⟩, ?_, ?_, ?_⟩⟩
  · intro g hg
    rcases List.mem_cons.mp hg with rfl | hg
    · rfl
    · exact htg g hg
  · rw [Tr.sz, List.nil_append, List.length_cons]; omega
  · rw [Tr.app_nil, List.nil_append]; exact hs
  · by_cases c : T.tkd i = 51 ∨ T.tkd i = 53 ∨ T.tkd i = 38
    · rw [if_pos c] at hmd
      exact Or.inr (Or.inr (Or.inr ⟨rfl, hmd, rfl, c, hst⟩))
    · rw [if_neg c] at hmd
      exact Or.inl ⟨rfl, hmd, Nat.zero_le _⟩
section Sim
variable {T : Tks} {B : Bs} {sm : Int32 → Int32 → Int32 → Bool} {a m : Nat}
/-- a token's kind against a sign -/
theorem tk_ne (hT : TkOK T m) {i j : Nat} (hj : kOK j) (h : T.tkd i ≠ j) : nI (ck (T.tkd i)) ≠ nI (ck j) := ck_ne (hT.ok i) j hj h
theorem tk_mode (hT : TkOK T m) {i : Nat} : (if nI (ck (T.tkd i)) = (41 : Int32) ∨ nI (ck (T.tkd i)) = 93 ∨ nI (ck (T.tkd i)) = 58 then (30 : Int32) else 31) = if T.tkd i = 51 ∨ T.tkd i = 53 ∨ T.tkd i = 38 then 30 else 31 := by
  by_cases c : T.tkd i = 51 ∨ T.tkd i = 53 ∨ T.tkd i = 38
  · rw [if_pos c, if_pos]
    rcases c with c | c | c
    · exact Or.inl (by rw [c]; rfl)
    · exact Or.inr (Or.inl (by rw [c]; rfl))
    · exact Or.inr (Or.inr (by rw [c]; rfl))
  · rw [if_neg c, if_neg]
    intro h
    rcases h with h | h | h
    · exact tk_ne hT (j := 51) rfl (fun e => c (Or.inl e)) h
    · exact tk_ne hT (j := 53) rfl (fun e => c (Or.inr (Or.inl e))) h
    · exact tk_ne hT (j := 38) rfl (fun e => c (Or.inr (Or.inr e))) h
/-- where a value begins and such a token stands first, the machine stops -/
theorem st30_none (hT : TkOK T m) {lv fr : Nat} {es : List Fm} {F : Tr Lb} {W : List We} {i : Nat} (hk : ∀ f ∈ es, f.k = 50 ∨ f.k = 36 ∨ f.k = 33) (hB : BsOK T B a) (h3 : T.tkd i = 51 ∨ T.tkd i = 53 ∨ T.tkd i = 38) (hst : StC T B i es) : (B.st T 30 lv fr es F W).stands (tokC T i) sm = none := by
  have key : ∀ f : Fm, ((f.k = 33 ∨ f.k = 52) → f.pa = 0 → T.tkd i ≠ 51) → (f.k = 33 → T.tkd i ≠ 38) → (f.k = 36 → f.pa = 0 → f.ip = 0 → T.tkd i ≠ 53) → ∀ r : List Fm, Rs.stands (30, nI lv, nI fr, B.bl, f, r, B.bd ++ Tr.pn F, (W.map (We.w T)).reverse, B.bf) (tokC T i) sm = none := by
    intro f h1 h2 h5 r
    rcases h3 with h | h | h
    · rw [tokC_of h]
      show (if Rs.isCallK f.k = true then (if f.pa = 0 then some _ else none) else none) = none
      by_cases c : Rs.isCallK f.k = true
      · rw [if_pos c]
        have c' : f.k = 33 ∨ f.k = 52 := by
          unfold Rs.isCallK at c
          simpa using c
        rw [if_neg (fun e => h1 c' e h)]
      · rw [if_neg c]
    · rw [tokC_of h]
      show (if f.k = 36 then (if f.pa = 0 then (if f.ip = 0 then some _ else none) else none) else none) = none
      by_cases c : f.k = 36
      · rw [if_pos c]
        by_cases d : f.pa = 0
        · rw [if_pos d, if_neg (fun e => h5 c d e h)]
        · rw [if_neg d]
      · rw [if_neg c]
    · rw [tokC_of h]
      show (if f.k = 33 then (if f.pa < 2 then some _ else none) else none) = none
      rw [if_neg (fun c => h2 c h)]
  match es, hk, hst with
  | [], hk, hst =>
    refine key B.b0 (fun c => ?_) (fun c => ?_) (fun c => ?_) _
    · have := hB.k
      intro e
      rcases c with c | c
      · exact absurd c (by intro c; rcases this with h | h | h | h | h | h <;> (rw [h] at c; exact absurd c (by decide)))
      · exact hst c e
    · have := hB.k
      exact absurd c (by intro c; rcases this with h | h | h | h | h | h <;> (rw [h] at c; exact absurd c (by decide)))
    · have := hB.k
      exact absurd c (by intro c; rcases this with h | h | h | h | h | h <;> (rw [h] at c; exact absurd c (by decide)))
  | f :: es, hk, hst =>
    have hf := hk f List.mem_cons_self
    refine key f (fun c e => ?_) (fun c => (hst.1 c).1) hst.2 _
    rcases c with c | c
    · exact (hst.1 c).2 e
    · exact absurd c (by intro c; rcases hf with h | h | h <;> (rw [h] at c; exact absurd c (by decide)))
end Sim
end

section
section Sim
variable {T : Tks} {B : Bs} {sm : Int32 → Int32 → Int32 → Bool} {a m : Nat}
variable {fr bh co i lv c : Nat} {op : List Ent} {es : List Fm} {Ws : List (List We)} {W : List We} {X Y : Tr Lb} {md : Int32}
theorem sim_psign (hT : TkOK T m) (hi : i < m) (hlv : lv ≤ 60) (htg : ∀ f ∈ es, f.tg = 0) (hai : a ≤ i) (hch : CH T a es op Ws c X) (hp : Pend T c W i Y) (hsz : B.bd.length + Tr.sz X + Tr.sz Y + (W ++ Ws.flatten).length + es.length ≤ i) (hk : T.tkd i = 40) (hh : hdR W = 8) : Sim T B sm a m i (B.st T 32 lv fr es (Tr.app X Y) (W ++ Ws.flatten)) (.inr (false, (1, fr, 2, colo W, i + 1, lv, op))) := by
  have hi1 := hT.go hi (by omega)
  have hle := hT.le
  refine ⟨1, _, rfl, nx_one (s1 := B.st T 33 lv fr es (Tr.app X Y) (((9, i, 0) :: W) ++ Ws.flatten)) ?_, ?_⟩
  · rw [tokC_of hk]
    refine st_psign.trans ?_
    rw [show (9 : Int32) = nI 9 from rfl, tadd_w (by omega)]
    rfl
  · rw [show Rs.settle (B.st T 33 lv fr es (Tr.app X Y) (((9, i, 0) :: W) ++ Ws.flatten)) (tokC T (i + 1)) = _ from se_id (Or.inr (Or.inr (Or.inl rfl)))]
    refine ⟨es, Ws, (9, i, 0) :: W, c, X, hi1, hlv, htg, fun _ _ => by omega, by omega, Or.inl ⟨rfl, rfl, hch, Y, 33, Or.inr (Or.inl ⟨rfl, rfl, rfl, hk, hh, hp⟩), ?_, rfl, Or.inr (Or.inr (Or.inl ⟨rfl, rfl, rfl⟩))⟩⟩
    rw [List.cons_append, List.length_cons]; omega
theorem sim_sign (hT : TkOK T m) (hi : i < m) (hlv : lv ≤ 60) (htg : ∀ f ∈ es, f.tg = 0) (hai : a ≤ i) (hch : CH T a es op Ws c X) (hp : Pend T c W i Y) (hsz : B.bd.length + Tr.sz X + Tr.sz Y + (W ++ Ws.flatten).length + es.length ≤ i) (hk : T.tkd i = 40 ∨ T.tkd i = 39 ∨ T.tkd i = 49) (hh : hdR W ≤ 7) : Sim T B sm a m i (B.st T 31 lv fr es (Tr.app X Y) (W ++ Ws.flatten)) (if lv = 60 then .inl i else .inr (false, (1, fr + 1, 0, colo W, i + 1, lv + 1, op))) := by
  have hi1 := hT.go hi (by omega)
  have hle := hT.le
  have ht : ∃ k : Int32, tokC T i = (k, T.tpl i, T.twd i) ∧ (k = 45 ∨ k = 43 ∨ k = 126) := by
    rcases hk with h | h | h
    · exact ⟨45, tokC_of h, Or.inl rfl⟩
    · exact ⟨43, tokC_of h, Or.inr (Or.inl rfl)⟩
    · exact ⟨126, tokC_of h, Or.inr (Or.inr rfl)⟩
  obtain ⟨k, ht, hk3⟩ := ht
  by_cases d : lv = 60
  · subst d
    rw [if_pos rfl]
    refine ⟨0, _, rfl, rfl, ?_, Or.inl rfl⟩
    rw [ht]
    exact st_sign60 hk3
  · rw [if_neg d]
    refine ⟨1, _, rfl, nx_one (s1 := B.st T 31 (lv + 1) (fr + 1) es (Tr.app X Y) (((7, i, 0) :: W) ++ Ws.flatten)) ?_, ?_⟩
    · rw [ht]
      refine (st_sign hk3 (by omega)).trans ?_
      rw [show (7 : Int32) = nI 7 from rfl, tadd_w (by omega)]
      rfl
    · rw [show Rs.settle (B.st T 31 (lv + 1) (fr + 1) es (Tr.app X Y) (((7, i, 0) :: W) ++ Ws.flatten)) (tokC T (i + 1)) = _ from se_id (Or.inl rfl)]
      refine ⟨es, Ws, (7, i, 0) :: W, c, X, hi1, by omega, htg, fun _ _ => by omega, by omega, Or.inl ⟨rfl, rfl, hch, Y, 31, Or.inl ⟨rfl, rfl, rfl, hk, hh, hp⟩, ?_, rfl, Or.inl ⟨rfl, rfl, Nat.le_refl 7⟩⟩⟩
      rw [List.cons_append, List.length_cons]; omega
/-- an item's end, where the frames are as they were -/
theorem ER.item (hT : TkOK T m) (hi : i < m) (hlv : lv ≤ 60) (htg : ∀ f ∈ es, f.tg = 0) (hai : a ≤ i) (hch : CH T a es op Ws c X) (hp : Pend T c W i Y) (hsz : B.bd.length + Tr.sz X + Tr.sz Y + (W ++ Ws.flatten).length + es.length ≤ i) {k : Int32} (hk : T.tkd i = 2 ∨ T.tkd i = 3 ∨ T.tkd i = 4 ∨ T.tkd i = 13) (hv : VV T 0 10 i (i + 1) (Tr.nd (T.lb k i) .leaf)) (hfr : fr ≤ lv) {bh' : Nat} : ER T B a m (0, 0, bh', colo W, i + 1, lv - fr, op) (B.st T 34 (lv - fr) 0 es (Tr.app X (Tr.app Y (Tr.nd (T.lb k i) .leaf))) (W ++ Ws.flatten)) := by
  have hi1 := hT.go hi (by omega)
  refine ⟨es, Ws, W, c, X, hi1, by omega, htg, fun _ _ => by omega, by omega, Or.inr (Or.inl ⟨rfl, rfl, rfl, hch, ?_, ?_, ?_, i, Y, _, 10, hp, hv, by omega, ?_, rfl⟩)⟩
  · show T.tkd i ≠ 38; omega
  · show T.tkd i ≠ 50; omega
  · show T.tkd i ≠ 52; omega
  · simp only [Tr.sz]; omega
theorem VV.leaf {r i : Nat} {t : Tr Lb} (h : r = 10 ∧ ((T.tkd i = 2 ∧ t = Tr.nd (T.lb 32 i) .leaf) ∨ (T.tkd i = 3 ∧ t = Tr.nd (T.lb 30 i) .leaf) ∨ (T.tkd i = 4 ∧ t = Tr.nd (T.lb 31 i) .leaf) ∨ (T.tkd i = 13 ∧ t = Tr.nd (T.lb 35 i) .leaf))) : VV T 0 r i (i + 1) t :=
  VV.mk (Or.inl ⟨h.1, rfl, h.2⟩)
theorem sim_item (hT : TkOK T m) (hi : i < m) (hlv : lv ≤ 60) (htg : ∀ f ∈ es, f.tg = 0) (hai : a ≤ i) (hch : CH T a es op Ws c X) (hp : Pend T c W i Y) (hsz : B.bd.length + Tr.sz X + Tr.sz Y + (W ++ Ws.flatten).length + es.length ≤ i) (hk : T.tkd i = 2 ∨ T.tkd i = 3 ∨ T.tkd i = 4) (hn : T.tkd i = 2 → T.tkd (i + 1) ≠ 50) (hm : md = 31 ∨ md = 32 ∨ md = 33) (hfr : fr ≤ lv) : Sim T B sm a m i (B.st T md lv fr es (Tr.app X Y) (W ++ Ws.flatten)) (.inr (false, (0, 0, 0, colo W, i + 1, lv - fr, op))) := by
  have hle := hT.le
  have hb : B.bd.length + Tr.sz (Tr.app X Y) < 16385 := by rw [Tr.sz_app]; omega
  rcases hk with h | h | h
  · refine ⟨1, _, rfl, ?_, ER.item hT hi hlv htg hai hch hp hsz (k := 32) (Or.inl h) (VV.leaf ⟨rfl, Or.inl ⟨h, rfl⟩⟩) hfr⟩
    rw [nx_one (s1 := (40, nI lv, nI fr, B.bl, topF B.b0 es, restF B.b0 B.bs es, Rs.nadd (B.bd ++ Tr.pn (Tr.app X Y)) 32 (T.tpl i) (-1) 0 (T.twd i), ((W ++ Ws.flatten).map (We.w T)).reverse, B.bf)) (by rw [tokC_of h]; exact st_name hm), se_40 (show nI (ck (T.tkd (i + 1))) ≠ 40 from tk_ne hT (j := 50) rfl (hn h)), nadd_lf (nI i) hb, nI_sub' hfr, Tr.app_assoc]
    rfl
  · refine ⟨1, _, rfl, ?_, ER.item hT hi hlv htg hai hch hp hsz (k := 30) (Or.inr (Or.inl h)) (VV.leaf ⟨rfl, Or.inr (Or.inl ⟨h, rfl⟩)⟩) hfr⟩
    rw [nx_one (s1 := (34, nI lv - nI fr, 0, B.bl, topF B.b0 es, restF B.b0 B.bs es, Rs.nadd (B.bd ++ Tr.pn (Tr.app X Y)) 30 (T.tpl i) (-1) 0 (T.twd i), ((W ++ Ws.flatten).map (We.w T)).reverse, B.bf)) (by rw [tokC_of h]; exact st_num hm), se_id (Or.inr (Or.inr (Or.inr (Or.inl rfl)))), nadd_lf (nI i) hb, nI_sub' hfr, Tr.app_assoc]
    rfl
  · refine ⟨1, _, rfl, ?_, ER.item hT hi hlv htg hai hch hp hsz (k := 31) (Or.inr (Or.inr (Or.inl h))) (VV.leaf ⟨rfl, Or.inr (Or.inr (Or.inl ⟨h, rfl⟩))⟩) hfr⟩
    rw [nx_one (s1 := (34, nI lv - nI fr, 0, B.bl, topF B.b0 es, restF B.b0 B.bs es, Rs.nadd (B.bd ++ Tr.pn (Tr.app X Y)) 31 (T.tpl i) (-1) 0 (T.twd i), ((W ++ Ws.flatten).map (We.w T)).reverse, B.bf)) (by rw [tokC_of h]; exact st_txt hm), se_id (Or.inr (Or.inr (Or.inr (Or.inl rfl)))), nadd_lf (nI i) hb, nI_sub' hfr, Tr.app_assoc]
    rfl
/-- the nearest call is limited -/
theorem lim_ch {T : Tks} {b0 : Fm} {bs : List Fm} (hb : b0.k = 18 ∨ b0.k = 19 ∨ b0.k = 20 ∨ b0.k = 21 ∨ b0.k = 51 ∨ b0.k = 52) {a : Nat} : ∀ (es : List Fm) (op : List Ent) (Ws : List (List We)) (c : Nat) (X : Tr Lb), CH T a es op Ws c X → Tr.sz X < 2 ^ 20 →
    (match Mx.mark op with
    | none => (Rs.limit (topF b0 es) (restF b0 bs es)).1 = false
    | some op' => (Rs.limit (topF b0 es) (restF b0 bs es)).1 = true ∧ ∃ es', (Rs.limit (topF b0 es) (restF b0 bs es)).2.1 = topF b0 es' ∧ (Rs.limit (topF b0 es) (restF b0 bs es)).2.2 = restF b0 bs es' ∧ CH T a es' op' Ws c X ∧ es'.length = es.length ∧ es' ≠ [] ∧ ((∀ f ∈ es, f.tg = 0) → ∀ f ∈ es', f.tg = 0))
  | [], [], [], c, X, h, hs => by
    show (Rs.limit b0 bs).1 = false
    match bs with
    | [] =>
      rw [Rs.limit, if_neg]
      rcases hb with h | h | h | h | h | h <;> (rw [h]; decide)
    | g :: r =>
      rw [Rs.limit, if_neg, if_neg]
      · rcases hb with h | h | h | h | h | h <;> (rw [h]; decide)
      · rcases hb with h | h | h | h | h | h <;> (rw [h]; decide)
  | [], e :: op, Ws, c, X, h, _ => h.elim
  | [], [], W :: Ws, c, X, h, _ => h.elim
  | f :: es, [], Ws, c, X, h, _ => h.elim
  | f :: es, e :: op, [], c, X, h, _ => h.elim
  | f :: es, e :: op, W :: Ws, c, X, h, hs => by
    obtain ⟨j, c', X', Y, A, h1, h2, h3, h4, h5, h6, h7⟩ := h
    obtain ⟨wh, cn, li, co, fr⟩ := e
    have hs' : Tr.sz X' < 2 ^ 20 := by rw [h4, Tr.sz_app] at hs; omega
    have hA : Tr.sz A < 2 ^ 20 := by rw [h4, Tr.sz_app, Tr.sz_app] at hs; omega
    have e1 : restF b0 bs (f :: es) = topF b0 es :: restF b0 bs es := (top_rest b0 bs es).symm
    show (match Mx.mark ((wh, cn, li, co, fr) :: op) with
    | none => (Rs.limit f (restF b0 bs (f :: es))).1 = false
    | some op' => (Rs.limit f (restF b0 bs (f :: es))).1 = true ∧ ∃ es', (Rs.limit f (restF b0 bs (f :: es))).2.1 = topF b0 es' ∧ (Rs.limit f (restF b0 bs (f :: es))).2.2 = restF b0 bs es' ∧ CH T a es' op' (W :: Ws) c X ∧ es'.length = (f :: es).length ∧ es' ≠ [] ∧ ((∀ g ∈ f :: es, g.tg = 0) → ∀ g ∈ es', g.tg = 0))
    rw [e1, Rs.limit, Mx.mark]
    have hcase : (f.k = 33 ∧ wh = 2) ∨ ((f.k = 50 ∨ f.k = 36) ∧ wh ≠ 2) := by
      rcases h3 with h | h | h
      · exact Or.inr ⟨Or.inl h.1, by have : wh = 50 := h.2.1; omega⟩
      · exact Or.inr ⟨Or.inr h.1, by have : wh = 52 := h.2.1; omega⟩
      · exact Or.inl ⟨h.1, h.2.1⟩
    rcases hcase with ⟨hf, hw⟩ | ⟨hf, hw⟩
    · rcases h3 with h | h | h
      · exact absurd (h.1.symm.trans hf) (by decide)
      · exact absurd (h.1.symm.trans hf) (by decide)
      · obtain ⟨g1, g2, g3, g4, g5, g6, g7, g8, g9, g10, g11, g12⟩ := h
        have hrt := Tr.rt_le A
        have g11 : cn = Tr.rt A + 0 := g11
        rw [if_pos hf, if_pos hw]
        by_cases d : cn ≤ 1
        · rw [if_pos d]
          refine ⟨decide_eq_true ?_, f.s_lim 1 :: es, rfl, ?_, ?_, rfl, List.cons_ne_nil _ _, ?_⟩
          · rw [g9, show (2 : Int32) = nI 2 from rfl, nI_lt' (by omega) (by omega)]; omega
          · exact top_rest b0 bs es
          · exact ⟨j, c', X', Y, A, h1, h2, Or.inr (Or.inr ⟨g1, g2, g3, g4, g5, g6, g7, g8, g9, rfl, g11, Nat.le_refl 1⟩), h4, h5, h6, h7⟩
          · intro hg g hm
            rcases List.mem_cons.mp hm with rfl | hm
            · exact hg f List.mem_cons_self
            · exact hg g (List.mem_cons_of_mem _ hm)
        · rw [if_neg d]
          refine decide_eq_false ?_
          rw [g9, show (2 : Int32) = nI 2 from rfl, nI_lt' (by omega) (by omega)]; omega
    · have hne : f.k ≠ 33 := by rcases hf with h | h <;> (rw [h]; decide)
      rw [if_neg hne, if_pos hf, if_neg hw]
      have ih := lim_ch hb (b0 := b0) (bs := bs) es op Ws c' X' h1 hs'
      cases hm : Mx.mark op with
      | none => rw [hm] at ih; exact ih
      | some op' =>
        rw [hm] at ih
        obtain ⟨i1, es', i2, i3, i4, i5, i6, i7⟩ := ih
        refine ⟨i1, f :: es', rfl, ?_, ⟨j, c', X', Y, A, i4, h2, h3, h4, h5, h6, h7⟩, by rw [List.length_cons, List.length_cons, i5], List.cons_ne_nil _ _, ?_⟩
        · show (Rs.limit (topF b0 es) (restF b0 bs es)).2.1 :: (Rs.limit (topF b0 es) (restF b0 bs es)).2.2 = es' ++ b0 :: bs
          rw [i2, i3]; exact top_rest b0 bs es'
        · intro hg g hm2
          rcases List.mem_cons.mp hm2 with rfl | hm2
          · exact hg g List.mem_cons_self
          · exact i7 (fun g' hg' => hg g' (List.mem_cons_of_mem _ hg')) g hm2
theorem sim_end (hT : TkOK T m) (hB : BsOK T B a) (hi : i < m) (hlv : lv ≤ 60) (htg : ∀ f ∈ es, f.tg = 0) (hai : a ≤ i) (hch : CH T a es op Ws c X) (hp : Pend T c W i Y) (hsz : B.bd.length + Tr.sz X + Tr.sz Y + (W ++ Ws.flatten).length + es.length ≤ i) (hk : T.tkd i = 13) (hm : md = 31 ∨ md = 32 ∨ md = 33) (hfr : fr ≤ lv) : Sim T B sm a m i (B.st T md lv fr es (Tr.app X Y) (W ++ Ws.flatten)) (match Mx.mark op with | none => .inl i | some op' => .inr (false, (0, 0, 0, colo W, i + 1, lv - fr, op'))) := by
  have hle := hT.le
  have hb : B.bd.length + Tr.sz (Tr.app X Y) < 16385 := by rw [Tr.sz_app]; omega
  have hl := lim_ch (b0 := B.b0) (bs := B.bs) hB.k es op Ws c X hch (by omega)
  have hst : (B.st T md lv fr es (Tr.app X Y) (W ++ Ws.flatten)).stands (tokC T i) sm = if (Rs.limit (topF B.b0 es) (restF B.b0 B.bs es)).1 = true then some (34, nI lv - nI fr, 0, B.bl, (Rs.limit (topF B.b0 es) (restF B.b0 B.bs es)).2.1, (Rs.limit (topF B.b0 es) (restF B.b0 B.bs es)).2.2, Rs.nadd (B.bd ++ Tr.pn (Tr.app X Y)) 35 (T.tpl i) (-1) 0 (T.twd i), ((W ++ Ws.flatten).map (We.w T)).reverse, B.bf) else none := by
    rw [tokC_of hk]; exact st_end hm
  cases e : Mx.mark op with
  | none =>
    rw [e] at hl
    refine ⟨0, _, rfl, rfl, ?_, Or.inl rfl⟩
    rw [hst, if_neg]
    intro h
    rw [hl] at h
    exact absurd h (by decide)
  | some op' =>
    rw [e] at hl
    obtain ⟨h1, es', h2, h3, h4, h5, h6, h7⟩ := hl
    rw [if_pos h1, h2, h3] at hst
    refine ⟨1, _, rfl, ?_, ER.item hT (es := es') hi hlv (h7 htg) hai h4 hp (by rw [h5]; exact hsz) (k := 35) (Or.inr (Or.inr (Or.inr hk))) (VV.leaf ⟨rfl, Or.inr (Or.inr (Or.inr ⟨hk, rfl⟩))⟩) hfr⟩
    rw [nx_one hst, se_id (Or.inr (Or.inr (Or.inr (Or.inl rfl)))), nadd_lf (nI i) hb, nI_sub' hfr, Tr.app_assoc]
    rfl
end Sim
end

section
section Sim
variable {T : Tks} {B : Bs} {sm : Int32 → Int32 → Int32 → Bool} {a m : Nat}
variable {fr bh co i lv c : Nat} {op : List Ent} {es : List Fm} {Ws : List (List We)} {W : List We} {X Y : Tr Lb} {md : Int32}
theorem sim_grp (hT : TkOK T m) (hi : i < m) (hlv : lv ≤ 60) (htg : ∀ f ∈ es, f.tg = 0) (hai : a ≤ i) (hch : CH T a es op Ws c X) (hp : Pend T c W i Y) (hsz : B.bd.length + Tr.sz X + Tr.sz Y + (W ++ Ws.flatten).length + es.length ≤ i) (hk : T.tkd i = 50) (hm : md = 31 ∨ md = 32 ∨ md = 33) : Sim T B sm a m i (B.st T md lv fr es (Tr.app X Y) (W ++ Ws.flatten)) (Mx.opn T.tkd fr (colo W) lv op 50 i) := by
  have hi1 := hT.go hi (by omega)
  unfold Mx.opn
  by_cases d : lv = 60
  · subst d
    rw [if_pos rfl]
    refine ⟨0, _, rfl, rfl, ?_, Or.inl rfl⟩
    rw [tokC_of hk]
    exact st_open60 hm
  · rw [if_neg d, if_neg (by omega), if_neg (by omega)]
    have s1 : (B.st T md lv fr es (Tr.app X Y) (W ++ Ws.flatten)).stands (tokC T i) sm = some (30, nI (lv + 1), 0, B.bl, itF 50 (T.tpl i) (T.twd i) ((W ++ Ws.flatten).map (We.w T)).reverse.length (nI fr) (topF B.b0 es), topF B.b0 es :: restF B.b0 B.bs es, B.bd ++ Tr.pn (Tr.app X Y), ((W ++ Ws.flatten).map (We.w T)).reverse, B.bf) := by
      rw [tokC_of hk]
      exact st_open hm (by omega)
    refine ⟨1, _, rfl, nx_one s1, ?_⟩
    rw [se_30 (Or.inl rfl), show (tokC T (i + 1)).k = nI (ck (T.tkd (i + 1))) from rfl, tk_mode hT, top_rest]
    refine ER.start (f := seF (itF 50 (T.tpl i) (T.twd i) ((W ++ Ws.flatten).map (We.w T)).reverse.length (nI fr) (topF B.b0 es)) (tokC T (i + 1))) (Ws := W :: Ws) hi1 (by omega) htg (by omega) ⟨i, c, X, Y, .leaf, hch, hp, Or.inl ⟨rfl, rfl, hk, rfl, rfl⟩, ?_, ?_, rfl, rfl⟩ ?_ ⟨fun h => absurd (show (50 : Int32) = 33 from h) (by decide), fun h => absurd (show (50 : Int32) = 36 from h) (by decide)⟩ rfl rfl
    · rw [Tr.app_nil]
    · show nI ((W ++ Ws.flatten).map (We.w T)).reverse.length = _
      rw [List.length_reverse, List.length_map]
    · rw [Tr.sz_app, List.flatten_cons]; omega
theorem sim_rows (hT : TkOK T m) (hB : BsOK T B a) (hi : i < m) (hlv : lv ≤ 60) (htg : ∀ f ∈ es, f.tg = 0) (ha0 : B.b0.k = 20 → T.tkd a = 52 → a < i) (hai : a ≤ i) (hch : CH T a es op Ws c X) (hp : Pend T c W i Y) (hsz : B.bd.length + Tr.sz X + Tr.sz Y + (W ++ Ws.flatten).length + es.length ≤ i) (hk : T.tkd i = 52) (hm : md = 31 ∨ md = 32 ∨ md = 33) : Sim T B sm a m i (B.st T md lv fr es (Tr.app X Y) (W ++ Ws.flatten)) (Mx.opn T.tkd fr (colo W) lv op 52 i) := by
  have hi1 := hT.go hi (by omega)
  unfold Mx.opn
  by_cases d : lv = 60
  · subst d
    rw [if_pos rfl]
    refine ⟨0, _, rfl, rfl, ?_, Or.inl rfl⟩
    rw [tokC_of hk]
    exact st_rows60 hm
  · rw [if_neg d]
    have s1 : (B.st T md lv fr es (Tr.app X Y) (W ++ Ws.flatten)).stands (tokC T i) sm = some (30, nI (lv + 1), 0, B.bl, itF 36 (T.tpl i) (T.twd i) ((W ++ Ws.flatten).map (We.w T)).reverse.length (nI fr) (topF B.b0 es), topF B.b0 es :: restF B.b0 B.bs es, B.bd ++ Tr.pn (Tr.app X Y), ((W ++ Ws.flatten).map (We.w T)).reverse, B.bf) := by
      rw [tokC_of hk]
      exact st_rows hm (by omega)
    have htop : ¬ ((36 : Int32) = 36 ∧ (topF B.b0 es).k = 20 ∧ (topF B.b0 es).pl = T.tpl i) := by
      intro h
      match es, hch with
      | [], _ =>
        have h1 : B.b0.k = 20 := h.2.1
        have h2 : B.b0.pl = T.tpl i := h.2.2
        rw [hB.pl h1] at h2
        have e := hT.inj a i (by omega) hi h2
        have := ha0 h1 (by rw [e]; exact hk)
        omega
      | f :: es', hch =>
        have h1 : f.k = 20 := h.2.1
        have := hch.kinds f List.mem_cons_self
        rw [h1] at this
        exact absurd this (by decide)
    have htg0 : (itF 36 (T.tpl i) (T.twd i) ((W ++ Ws.flatten).map (We.w T)).reverse.length (nI fr) (topF B.b0 es)).tg = 0 := if_neg htop
    have hslot : Slot T 0 (seF (itF 36 (T.tpl i) (T.twd i) ((W ++ Ws.flatten).map (We.w T)).reverse.length (nI fr) (topF B.b0 es)) (tokC T (i + 1))) (52, 0, 0, colo W, fr) i (i + 1) .leaf := by
      refine Or.inr (Or.inl ⟨rfl, rfl, hk, rfl, rfl, i + 1, .leaf, .leaf, Or.inl ⟨rfl, rfl⟩, Or.inl ⟨rfl, rfl⟩, rfl, rfl, ?_, ?_, rfl⟩)
      · show (if (36 : Int32) = 36 ∧ (0 : Int32) = 0 then T.tpl (i + 1) else T.tpl i) = _
        exact if_pos ⟨rfl, rfl⟩
      · show (if (36 : Int32) = 36 ∧ (0 : Int32) = 0 then T.twd (i + 1) else T.twd i) = _
        exact if_pos ⟨rfl, rfl⟩
    have hch' : CH T a (seF (itF 36 (T.tpl i) (T.twd i) ((W ++ Ws.flatten).map (We.w T)).reverse.length (nI fr) (topF B.b0 es)) (tokC T (i + 1)) :: es) ((52, 0, 0, colo W, fr) :: op) (W :: Ws) (i + 1) (Tr.app X Y) := by
      refine ⟨i, c, X, Y, .leaf, hch, hp, hslot, ?_, ?_, rfl, rfl⟩
      · rw [Tr.app_nil]
      · show nI ((W ++ Ws.flatten).map (We.w T)).reverse.length = _
        rw [List.length_reverse, List.length_map]
    by_cases e : T.tkd (i + 1) = 53
    · rw [if_pos (Or.inl ⟨rfl, e⟩)]
      refine ⟨1, _, rfl, nx_one s1, ?_⟩
      rw [se_30 (Or.inl htg0), show (tokC T (i + 1)).k = nI (ck (T.tkd (i + 1))) from rfl, tk_mode hT, top_rest, if_pos (Or.inr (Or.inl e))]
      refine ⟨_, W :: Ws, [], i + 1, Tr.app X Y, hi1, by omega, ?_, fun _ _ => by omega, by omega, Or.inr (Or.inr (Or.inr ⟨rfl, rfl, rfl, rfl, hch', ?_, rfl, _, es, rfl, Or.inr ⟨rfl, rfl, rfl, e, hk⟩⟩))⟩
      · intro g hg
        rcases List.mem_cons.mp hg with rfl | hg
        · rfl
        · exact htg g hg
      · rw [Tr.sz_app, List.flatten_cons, List.length_cons]; omega
    · rw [if_neg (by omega), if_neg (by omega)]
      refine ⟨1, _, rfl, nx_one s1, ?_⟩
      rw [se_30 (Or.inl htg0), show (tokC T (i + 1)).k = nI (ck (T.tkd (i + 1))) from rfl, tk_mode hT, top_rest]
      refine ER.start (f := seF (itF 36 (T.tpl i) (T.twd i) ((W ++ Ws.flatten).map (We.w T)).reverse.length (nI fr) (topF B.b0 es)) (tokC T (i + 1))) (Ws := W :: Ws) hi1 (by omega) htg (by omega) hch' ?_ ⟨fun h => absurd (show (36 : Int32) = 33 from h) (by decide), fun _ _ _ => e⟩ rfl rfl
      rw [Tr.sz_app, List.flatten_cons]; omega
/-- a call's frame -/
def wiF (T : Tks) (i : Nat) (sg n lim : Int32) : Fm := (33, T.tpl i, T.twd i, T.tpl (i + 1), 0, 0, T.tpl (i + 1), T.twd (i + 1), sg, n, lim, 0, 0)
theorem st_all {l sg lp : Int32} {f : Fm} {r : List Fm} {d : List Nd} {w fn : List Wt} {p v : Int32} (h : f.k = 33) (h2 : f.pa < 2) : Rs.stands (30, l, sg, lp, f, r, d, w, fn) (58, p, v) sm = some (35, l, sg, lp, f.s_lim 1, r, Rs.nadd d 34 p (-1) 0 v, w, fn) := by
  show (if f.k = 33 then (if f.pa < 2 then some (35, l, sg, lp, f.s_lim 1, r, Rs.nadd d 34 p (-1) 0 v, w, fn) else none) else none) = _
  rw [if_pos h, if_pos h2]
theorem st_allno {l sg lp : Int32} {f : Fm} {r : List Fm} {d : List Nd} {w fn : List Wt} {k p v : Int32} (h : k ≠ 44) (h2 : k ≠ 41) : Rs.stands (35, l, sg, lp, f, r, d, w, fn) (k, p, v) sm = none := by
  show (if k = 44 then _ else if k = 41 then _ else none) = none
  rw [if_neg h, if_neg h2]
theorem sim_call (hT : TkOK T m) (hB : BsOK T B a) (hi : i < m) (hlv : lv ≤ 60) (htg : ∀ f ∈ es, f.tg = 0) (hai : a ≤ i) (hch : CH T a es op Ws c X) (hp : Pend T c W i Y) (hsz : B.bd.length + Tr.sz X + Tr.sz Y + (W ++ Ws.flatten).length + es.length ≤ i) (hk : T.tkd i = 2) (hk1 : T.tkd (i + 1) = 50) (hm : md = 31 ∨ md = 32 ∨ md = 33) : Sim T B sm a m i (B.st T md lv fr es (Tr.app X Y) (W ++ Ws.flatten)) (Mx.opn T.tkd fr (colo W) lv op 2 (i + 1)) := by
  have hi1 := hT.go hi (by omega)
  have hi2 : i + 2 < m := hT.go hi1 (by omega)
  have hle := hT.le
  have hb : B.bd.length + Tr.sz (Tr.app X Y) < 16385 := by rw [Tr.sz_app]; omega
  have s1 : (B.st T md lv fr es (Tr.app X Y) (W ++ Ws.flatten)).stands (tokC T i) sm = some (40, nI lv, nI fr, B.bl, topF B.b0 es, restF B.b0 B.bs es, (B.bd ++ Tr.pn (Tr.app X Y)) ++ [((32, T.tpl i, -1, 0, T.twd i, 1) : Nd)], ((W ++ Ws.flatten).map (We.w T)).reverse, B.bf) := by
    rw [tokC_of hk]
    refine (st_name hm).trans ?_
    rw [nadd_lf (nI i) hb, Tr.pn_app, ← List.append_assoc]
    rfl
  unfold Mx.opn
  by_cases d : lv = 60
  · subst d
    rw [if_pos rfl]
    refine ⟨1, _, rfl, nx_one s1, ?_, Or.inr (Or.inl (by omega))⟩
    rw [se_40' (by rw [tokC_of hk1]; rfl), tokC_of hk1]
    exact st_args60 (nd := (32, T.tpl i, -1, 0, T.twd i, 1))
  · rw [if_neg d]
    have htop0 : (topF B.b0 es).tg = 0 := by
      match es, htg with
      | [], _ => exact hB.tg
      | f :: _, htg => exact htg f List.mem_cons_self
    have s2 : (Rs.settle (40, nI lv, nI fr, B.bl, topF B.b0 es, restF B.b0 B.bs es, (B.bd ++ Tr.pn (Tr.app X Y)) ++ [((32, T.tpl i, -1, 0, T.twd i, 1) : Nd)], ((W ++ Ws.flatten).map (We.w T)).reverse, B.bf) (tokC T (i + 1))).stands (tokC T (i + 1)) sm = some (30, nI (lv + 1), 0, B.bl, (wiF T i (nI fr) (nI ((W ++ Ws.flatten).map (We.w T)).reverse.length) 0), (topF B.b0 es).s_tg 0 :: restF B.b0 B.bs es, B.bd ++ Tr.pn (Tr.app X Y), ((W ++ Ws.flatten).map (We.w T)).reverse, B.bf) := by
      rw [se_40' (by rw [tokC_of hk1]; rfl), tokC_of hk1]
      exact st_args (by omega) (pa := 0)
    rw [tg0 htop0, top_rest] at s2
    have e3 := se_30 (l := nI (lv + 1)) (sg := 0) (lp := B.bl) (f := (wiF T i (nI fr) (nI ((W ++ Ws.flatten).map (We.w T)).reverse.length) 0)) (r := es ++ B.b0 :: B.bs) (d := B.bd ++ Tr.pn (Tr.app X Y)) (w := ((W ++ Ws.flatten).map (We.w T)).reverse) (fn := B.bf) (t := tokC T (i + 2)) (Or.inl rfl)
    rw [show (tokC T (i + 2)).k = nI (ck (T.tkd (i + 2))) from rfl, tk_mode hT, seF_base (show (33 : Int32) ≠ 36 by decide) rfl] at e3
    have hwl : nI ((W ++ Ws.flatten).map (We.w T)).reverse.length = nI (W ++ Ws.flatten).length := by rw [List.length_reverse, List.length_map]
    have hch' : ∀ lim : Nat, lim ≤ 1 → CH T a ((wiF T i (nI fr) (nI ((W ++ Ws.flatten).map (We.w T)).reverse.length) (nI lim)) :: es) ((2, 0, lim, colo W, fr) :: op) (W :: Ws) (i + 2) (Tr.app X Y) := by
      intro lim hl
      refine ⟨i, c, X, Y, .leaf, hch, hp, Or.inr (Or.inr ⟨rfl, rfl, hk, hk1, rfl, rfl, rfl, Or.inl ⟨rfl, rfl⟩, rfl, rfl, rfl, hl⟩), ?_, hwl, rfl, rfl⟩
      rw [Tr.app_nil]
    have htg' : ∀ (F : Fm), F.tg = 0 → ∀ g ∈ F :: es, g.tg = 0 := by
      intro F hF g hg
      rcases List.mem_cons.mp hg with rfl | hg
      · exact hF
      · exact htg g hg
    by_cases e : T.tkd (i + 2) = 51
    · rw [if_pos (Or.inr ⟨rfl, e⟩)]
      refine ⟨2, _, rfl, nx_two s1 s2, ?_⟩
      rw [e3, if_pos (Or.inl e)]
      refine ⟨_, W :: Ws, [], i + 2, Tr.app X Y, hi2, by omega, htg' _ rfl, fun _ _ => by omega, by omega, Or.inr (Or.inr (Or.inr ⟨rfl, rfl, rfl, rfl, hch' 0 (by omega), ?_, rfl, _, es, rfl, Or.inl ⟨rfl, rfl, e, hk1⟩⟩))⟩
      rw [Tr.sz_app, List.flatten_cons, List.length_cons]; omega
    · rw [if_neg (show ¬ ((2 = 52 ∧ T.tkd (i + 1 + 1) = 53) ∨ (2 = 2 ∧ T.tkd (i + 1 + 1) = 51)) from fun x => x.elim (fun y => absurd y.1 (by decide)) (fun y => e y.2))]
      by_cases g : T.tkd (i + 2) = 38
      · have hi3 : i + 3 < m := hT.go hi2 (by omega)
        rw [if_pos ⟨rfl, g⟩]
        rw [if_pos (Or.inr (Or.inr g))] at e3
        have s3 : (Rs.settle (30, nI (lv + 1), 0, B.bl, (wiF T i (nI fr) (nI ((W ++ Ws.flatten).map (We.w T)).reverse.length) 0), es ++ B.b0 :: B.bs, B.bd ++ Tr.pn (Tr.app X Y), ((W ++ Ws.flatten).map (We.w T)).reverse, B.bf) (tokC T (i + 2))).stands (tokC T (i + 2)) sm = some (35, nI (lv + 1), 0, B.bl, (wiF T i (nI fr) (nI ((W ++ Ws.flatten).map (We.w T)).reverse.length) 1), es ++ B.b0 :: B.bs, B.bd ++ Tr.pn (Tr.app (Tr.app X Y) (Tr.nd (T.lb 34 (i + 2)) .leaf)), ((W ++ Ws.flatten).map (We.w T)).reverse, B.bf) := by
          rw [e3, tokC_of g]
          refine (st_all (f := wiF T i (nI fr) (nI ((W ++ Ws.flatten).map (We.w T)).reverse.length) 0) rfl (show (0 : Int32) < 2 by decide)).trans ?_
          rw [nadd_lf (nI (i + 2)) hb]
          rfl
        by_cases h : T.tkd (i + 3) = 54 ∨ T.tkd (i + 3) = 51
        · rw [if_pos h]
          refine ⟨3, _, rfl, nx_three s1 s2 s3, ?_⟩
          rw [se_id (Or.inr (Or.inr (Or.inr (Or.inr rfl))))]
          refine ⟨_, W :: Ws, [], i + 2, Tr.app X Y, hi3, by omega, htg' _ rfl, fun _ _ => by omega, by omega, Or.inr (Or.inr (Or.inl ⟨rfl, rfl, rfl, rfl, g, h, _, es, 0, colo W, fr, op, rfl, rfl, rfl, hch' 1 (by omega), ?_, rfl⟩))⟩
          rw [Tr.sz_app, List.flatten_cons, List.length_cons]; omega
        · rw [if_neg h]
          refine ⟨3 - 1 + 1, _, rfl, nx_three s1 s2 s3, ?_, Or.inr (Or.inr (by rw [se_id (Or.inr (Or.inr (Or.inr (Or.inr rfl))))]))⟩
          rw [se_id (Or.inr (Or.inr (Or.inr (Or.inr rfl))))]
          exact st_allno (tk_ne hT (j := 54) rfl (fun x => h (Or.inl x))) (tk_ne hT (j := 51) rfl (fun x => h (Or.inr x)))
      · rw [if_neg (show ¬ (2 = 2 ∧ T.tkd (i + 1 + 1) = 38) from fun x => g x.2)]
        refine ⟨2, _, rfl, nx_two s1 s2, ?_⟩
        rw [e3]
        refine ER.start (f := (wiF T i (nI fr) (nI ((W ++ Ws.flatten).map (We.w T)).reverse.length) 0)) (Ws := W :: Ws) hi2 (by omega) htg (by omega) (hch' 0 (by omega)) ?_ ⟨fun _ => ⟨g, fun _ => e⟩, fun h => absurd (show (33 : Int32) = 36 from h) (by decide)⟩ rfl rfl
        rw [Tr.sz_app, List.flatten_cons]; omega
end Sim
end
