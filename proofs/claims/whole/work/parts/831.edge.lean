section
/-! a tree that grows at its right edge -/
theorem Tr.rt0 {α : Type} {t : Tr α} (h : Tr.rt t = 0) : t = .leaf := by
  cases t with
  | leaf => rfl
  | inner z a u l r => simp only [Tr.rt] at h; omega
/-- the last root's number, the first one's being q -/
def Tr.lix {α : Type} : Nat → Tr α → Nat
  | q, .leaf => q
  | q, .inner _ _ _ l r => if Tr.rt r = 0 then q else Tr.lix (q + 1 + Tr.sz l) r
/-- F becomes the last parts of node p -/
def Tr.appAt {α : Type} (F : Tr α) : Tr α → Nat → Tr α
  | .leaf, _ => .leaf
  | .inner z a u l r, p => if Tr.rt r = 0 then (if p = 0 then .inner z a u (Tr.app l F) r else .inner z a u (Tr.appAt F l (p - 1)) r) else .inner z a u l (Tr.appAt F r (p - 1 - Tr.sz l))
/-- node p lies on the right edge -/
def Tr.OnP {α : Type} : Tr α → Nat → Prop
  | .leaf, _ => False
  | .inner _ _ _ l r, p => if Tr.rt r = 0 then (p = 0 ∨ (0 < p ∧ Tr.OnP l (p - 1))) else (1 + Tr.sz l ≤ p ∧ Tr.OnP r (p - 1 - Tr.sz l))
/-- the parts of a node on the right edge -/
def Tr.chP {α : Type} : Tr α → Nat → Tr α
  | .leaf, _ => .leaf
  | .inner _ _ _ l r, p => if Tr.rt r = 0 then (if p = 0 then l else Tr.chP l (p - 1)) else Tr.chP r (p - 1 - Tr.sz l)
section Rt
variable {α : Type} {F : Tr α}
theorem Tr.rt_appAt : ∀ (G : Tr α) (p : Nat), Tr.rt (Tr.appAt F G p) = Tr.rt G
  | .leaf, _ => rfl
  | .inner z a u l r, p => by
    unfold Tr.appAt
    by_cases c : Tr.rt r = 0
    · rw [if_pos c]
      by_cases d : p = 0
      · rw [if_pos d]; rfl
      · rw [if_neg d]; rfl
    · rw [if_neg c]
      simp only [Tr.rt]
      rw [Tr.rt_appAt r]
theorem Tr.OnP_lt : ∀ (G : Tr α) (p : Nat), Tr.OnP G p → p < Tr.sz G
  | .leaf, _, h => h.elim
  | .inner z a u l r, p, h => by
    unfold Tr.OnP at h
    simp only [Tr.sz]
    by_cases c : Tr.rt r = 0
    · rw [if_pos c] at h
      rcases h with h | ⟨h, h2⟩
      · omega
      · have := Tr.OnP_lt l _ h2; omega
    · rw [if_neg c] at h
      have := Tr.OnP_lt r _ h.2
      omega
theorem Tr.sz_appAt : ∀ (G : Tr α) (p : Nat), Tr.OnP G p → Tr.sz (Tr.appAt F G p) = Tr.sz G + Tr.sz F
  | .leaf, _, h => h.elim
  | .inner z a u l r, p, h => by
    unfold Tr.OnP at h
    unfold Tr.appAt
    by_cases c : Tr.rt r = 0
    · rw [if_pos c] at h ⊢
      rcases h with h | ⟨h, h2⟩
      · rw [if_pos h]; simp only [Tr.sz]; rw [Tr.sz_app]; omega
      · rw [if_neg (by omega)]; simp only [Tr.sz]; rw [Tr.sz_appAt l _ h2]; omega
    · rw [if_neg c] at h ⊢
      simp only [Tr.sz]
      rw [Tr.sz_appAt r _ h.2]; omega
theorem Tr.appAt_app {F2 : Tr α} : ∀ (G : Tr α) (p : Nat), Tr.OnP G p → Tr.appAt F2 (Tr.appAt F G p) p = Tr.appAt (Tr.app F F2) G p
  | .leaf, _, h => h.elim
  | .inner z a u l r, p, h => by
    unfold Tr.OnP at h
    rw [Tr.appAt, Tr.appAt]
    by_cases c : Tr.rt r = 0
    · rw [if_pos c] at h
      rw [if_pos c, if_pos c]
      rcases h with h | ⟨h, h2⟩
      · rw [if_pos h, if_pos h, Tr.appAt, if_pos c, if_pos h, Tr.app_assoc]
      · rw [if_neg (show ¬ p = 0 by omega), if_neg (show ¬ p = 0 by omega), Tr.appAt, if_pos c, if_neg (show ¬ p = 0 by omega), Tr.appAt_app l _ h2]
    · rw [if_neg c] at h
      rw [if_neg c, if_neg c, Tr.appAt, if_neg (by rw [Tr.rt_appAt]; exact c), Tr.appAt_app r _ h.2]
theorem Tr.OnP_le : ∀ (G : Tr α) (p p' : Nat), Tr.OnP G p → Tr.OnP G p' → p' ≤ p → Tr.OnP (Tr.appAt F G p) p'
  | .leaf, _, _, h, _, _ => h.elim
  | .inner z a u l r, p, p', h, h', hle => by
    unfold Tr.OnP at h h'
    rw [Tr.appAt]
    by_cases c : Tr.rt r = 0
    · rw [if_pos c] at h h' ⊢
      by_cases d : p = 0
      · rw [if_pos d, Tr.OnP, if_pos c]
        exact Or.inl (by omega)
      · rw [if_neg d, Tr.OnP, if_pos c]
        rcases h' with e | ⟨e, e2⟩
        · exact Or.inl e
        · rcases h with g | ⟨g, g2⟩
          · exact absurd g d
          · exact Or.inr ⟨e, Tr.OnP_le l _ _ g2 e2 (by omega)⟩
    · rw [if_neg c] at h h' ⊢
      rw [Tr.OnP, if_neg (by rw [Tr.rt_appAt]; exact c)]
      exact ⟨h'.1, Tr.OnP_le r _ _ h.2 h'.2 (by omega)⟩
/-- the last root of a forest with one root more -/
theorem Tr.OnP_snoc {a0 : α} {L : Tr α} : ∀ (l : Tr α), Tr.OnP (Tr.app l (Tr.nd a0 L)) (Tr.sz l)
  | .leaf => by
    show Tr.OnP (Tr.nd a0 L) 0
    rw [Tr.OnP, if_pos (show Tr.rt (.leaf : Tr α) = 0 from rfl)]
    exact Or.inl rfl
  | .inner z a u l r => by
    show Tr.OnP (.inner z a u l (Tr.app r (Tr.nd a0 L))) (Tr.sz l + Tr.sz r + 1)
    rw [Tr.OnP, if_neg (by rw [Tr.rt_app]; simp only [Tr.rt]; omega)]
    refine ⟨by omega, ?_⟩
    rw [show Tr.sz l + Tr.sz r + 1 - 1 - Tr.sz l = Tr.sz r by omega]
    exact Tr.OnP_snoc r
theorem Tr.OnP_new {a0 : α} {L : Tr α} : ∀ (G : Tr α) (p : Nat), Tr.OnP G p → Tr.OnP (Tr.appAt (Tr.nd a0 L) G p) (Tr.sz G)
  | .leaf, _, h => h.elim
  | .inner z a u l r, p, h => by
    unfold Tr.OnP at h
    rw [Tr.appAt]
    simp only [Tr.sz]
    by_cases c : Tr.rt r = 0
    · have hr := Tr.rt0 c
      subst hr
      rw [if_pos c] at h ⊢
      simp only [Tr.sz]
      by_cases d : p = 0
      · rw [if_pos d, Tr.OnP, if_pos c]
        refine Or.inr ⟨by omega, ?_⟩
        rw [show Tr.sz l + 0 + 1 - 1 = Tr.sz l by omega]
        exact Tr.OnP_snoc l
      · rw [if_neg d, Tr.OnP, if_pos c]
        rcases h with g | ⟨g, g2⟩
        · exact absurd g d
        · refine Or.inr ⟨by omega, ?_⟩
          rw [show Tr.sz l + 0 + 1 - 1 = Tr.sz l by omega]
          exact Tr.OnP_new l _ g2
    · rw [if_neg c] at h ⊢
      rw [Tr.OnP, if_neg (by rw [Tr.rt_appAt]; exact c)]
      refine ⟨by omega, ?_⟩
      rw [show Tr.sz l + Tr.sz r + 1 - 1 - Tr.sz l = Tr.sz r by omega]
      exact Tr.OnP_new r _ h.2
theorem Tr.appAt_snoc {a0 : α} {L : Tr α} : ∀ (l : Tr α), Tr.appAt F (Tr.app l (Tr.nd a0 L)) (Tr.sz l) = Tr.app l (Tr.nd a0 (Tr.app L F))
  | .leaf => by
    show Tr.appAt F (Tr.nd a0 L) 0 = _
    rw [Tr.appAt, if_pos (show Tr.rt (.leaf : Tr α) = 0 from rfl), if_pos rfl]
    rfl
  | .inner z a u l r => by
    show Tr.appAt F (.inner z a u l (Tr.app r (Tr.nd a0 L))) (Tr.sz l + Tr.sz r + 1) = .inner z a u l (Tr.app r (Tr.nd a0 (Tr.app L F)))
    rw [Tr.appAt, if_neg (by rw [Tr.rt_app]; simp only [Tr.rt]; omega), show Tr.sz l + Tr.sz r + 1 - 1 - Tr.sz l = Tr.sz r by omega, Tr.appAt_snoc r]
theorem Tr.appAt_new {a0 : α} {L : Tr α} : ∀ (G : Tr α) (p : Nat), Tr.OnP G p → Tr.appAt F (Tr.appAt (Tr.nd a0 L) G p) (Tr.sz G) = Tr.appAt (Tr.nd a0 (Tr.app L F)) G p
  | .leaf, _, h => h.elim
  | .inner z a u l r, p, h => by
    unfold Tr.OnP at h
    rw [Tr.appAt, Tr.appAt]
    simp only [Tr.sz]
    by_cases c : Tr.rt r = 0
    · have hr := Tr.rt0 c
      subst hr
      rw [if_pos c] at h
      rw [if_pos c, if_pos c]
      simp only [Tr.sz]
      by_cases d : p = 0
      · rw [if_pos d, if_pos d, Tr.appAt, if_pos c, if_neg (by omega), show Tr.sz l + 0 + 1 - 1 = Tr.sz l by omega, Tr.appAt_snoc]
      · rcases h with g | ⟨g, g2⟩
        · exact absurd g d
        · rw [if_neg d, if_neg d, Tr.appAt, if_pos c, if_neg (by omega), show Tr.sz l + 0 + 1 - 1 = Tr.sz l by omega, Tr.appAt_new l _ g2]
    · rw [if_neg c] at h
      rw [if_neg c, if_neg c, Tr.appAt, if_neg (by rw [Tr.rt_appAt]; exact c), show Tr.sz l + Tr.sz r + 1 - 1 - Tr.sz l = Tr.sz r by omega, Tr.appAt_new r _ h.2]
theorem Tr.lix_appAt : ∀ (G : Tr α) (p q : Nat), Tr.lix q (Tr.appAt F G p) = Tr.lix q G
  | .leaf, _, _ => rfl
  | .inner z a u l r, p, q => by
    rw [Tr.appAt]
    by_cases c : Tr.rt r = 0
    · rw [if_pos c]
      by_cases d : p = 0
      · rw [if_pos d, Tr.lix, Tr.lix, if_pos c, if_pos c]
      · rw [if_neg d, Tr.lix, Tr.lix, if_pos c, if_pos c]
    · rw [if_neg c, Tr.lix, Tr.lix, if_neg c, if_neg (by rw [Tr.rt_appAt]; exact c), Tr.lix_appAt r]
theorem Tr.lix_snoc {a0 : α} {L : Tr α} : ∀ (l : Tr α) (q : Nat), Tr.lix q (Tr.app l (Tr.nd a0 L)) = q + Tr.sz l
  | .leaf, q => by
    show Tr.lix q (Tr.nd a0 L) = q + 0
    rw [Tr.lix, if_pos (show Tr.rt (.leaf : Tr α) = 0 from rfl), Nat.add_zero]
  | .inner z a u l r, q => by
    show Tr.lix q (.inner z a u l (Tr.app r (Tr.nd a0 L))) = _
    rw [Tr.lix, if_neg (by rw [Tr.rt_app]; simp only [Tr.rt]; omega), Tr.lix_snoc r]
    simp only [Tr.sz]
    omega
theorem Tr.lix_lt : ∀ (l : Tr α) (q : Nat), Tr.rt l ≠ 0 → q ≤ Tr.lix q l ∧ Tr.lix q l < q + Tr.sz l
  | .leaf, _, h => absurd rfl h
  | .inner z a u l r, q, _ => by
    rw [Tr.lix]
    simp only [Tr.sz]
    by_cases c : Tr.rt r = 0
    · rw [if_pos c]; omega
    · rw [if_neg c]
      have := Tr.lix_lt r (q + 1 + Tr.sz l) c
      omega
end Rt
/-- the reference's arrays of nodes: kinds, places, second places, tokens, numbers of parts, first, last, next -/
abbrev NFn : Type := (Nat → Int32) × (Nat → Int32) × (Nat → Int32) × (Nat → Int32) × (Nat → Int32) × (Nat → Int32) × (Nat → Int32) × (Nat → Int32)
/-- node q is a, its parts l, r stands beside it -/
def NdAt (f : NFn) (q : Nat) (a : Lb) (l r : Tr Lb) : Prop :=
  f.1 q = a.k ∧ f.2.1 q = a.pl ∧ f.2.2.1 q = a.sec ∧ f.2.2.2.1 q = a.tk ∧ f.2.2.2.2.1 q = nI (Tr.rt l) ∧ f.2.2.2.2.2.1 q = (if Tr.rt l = 0 then -1 else nI (q + 1)) ∧ f.2.2.2.2.2.2.1 q = (if Tr.rt l = 0 then -1 else nI (Tr.lix (q + 1) l)) ∧ f.2.2.2.2.2.2.2 q = (if Tr.rt r = 0 then -1 else nI (q + 1 + Tr.sz l))
def Tr.NH (f : NFn) : Nat → Tr Lb → Prop
  | _, .leaf => True
  | q, .inner _ a _ l r => NdAt f q a l r ∧ Tr.NH f (q + 1) l ∧ Tr.NH f (q + 1 + Tr.sz l) r
/-- the arrays are alike from q to e - 1 -/
def NFeq (f g : NFn) (q e : Nat) : Prop := ∀ i, q ≤ i → i < e → g.1 i = f.1 i ∧ g.2.1 i = f.2.1 i ∧ g.2.2.1 i = f.2.2.1 i ∧ g.2.2.2.1 i = f.2.2.2.1 i ∧ g.2.2.2.2.1 i = f.2.2.2.2.1 i ∧ g.2.2.2.2.2.1 i = f.2.2.2.2.2.1 i ∧ g.2.2.2.2.2.2.1 i = f.2.2.2.2.2.2.1 i ∧ g.2.2.2.2.2.2.2 i = f.2.2.2.2.2.2.2 i
theorem NFeq.mono {f g : NFn} {q e q' e' : Nat} (h : NFeq f g q e) (h1 : q ≤ q') (h2 : e' ≤ e) : NFeq f g q' e' := fun i a b => h i (by omega) (by omega)
theorem NdAt.cg {f g : NFn} {q : Nat} {a : Lb} {l r : Tr Lb} {e : Nat} (h : NFeq f g q e) (hq : q < e) (hn : NdAt f q a l r) : NdAt g q a l r := by
  obtain ⟨e1, e2, e3, e4, e5, e6, e7, e8⟩ := h q (Nat.le_refl _) hq
  obtain ⟨n1, n2, n3, n4, n5, n6, n7, n8⟩ := hn
  exact ⟨e1.trans n1, e2.trans n2, e3.trans n3, e4.trans n4, e5.trans n5, e6.trans n6, e7.trans n7, e8.trans n8⟩
theorem Tr.NH_cg {f g : NFn} : ∀ (t : Tr Lb) (q e : Nat), NFeq f g q e → q + Tr.sz t ≤ e → Tr.NH f q t → Tr.NH g q t
  | .leaf, _, _, _, _, _ => trivial
  | .inner z a u l r, q, e, h, he, hn => by
    simp only [Tr.sz] at he
    obtain ⟨h1, h2, h3⟩ := hn
    exact ⟨h1.cg h (by omega), Tr.NH_cg l (q + 1) e (h.mono (by omega) (Nat.le_refl _)) (by omega) h2, Tr.NH_cg r (q + 1 + Tr.sz l) e (h.mono (by omega) (Nat.le_refl _)) (by omega) h3⟩
end
