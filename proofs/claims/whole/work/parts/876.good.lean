section
/-! the grammar gives trees of this shape -/
theorem kok0 : KOK (0 : Int32) := by unfold KOK; decide
theorem nn0 : (0 : Int32) ≠ 40 ∧ (0 : Int32) ≠ 39 ∧ (0 : Int32) ≠ 1 := by decide
theorem nt0 : ¬ ((0 : Int32) = 5 ∨ (0 : Int32) = 15 ∨ (0 : Int32) = 16 ∨ (0 : Int32) = 17 ∨ (0 : Int32) = 18 ∨ (0 : Int32) = 19 ∨ (0 : Int32) = 30 ∨ (0 : Int32) = 31 ∨ (0 : Int32) = 32 ∨ (0 : Int32) = 33 ∨ (0 : Int32) = 34 ∨ (0 : Int32) = 35 ∨ (0 : Int32) = 39) := by decide
theorem kok1 : KOK (1 : Int32) := by unfold KOK; decide
theorem nt1 : ¬ ((1 : Int32) = 5 ∨ (1 : Int32) = 15 ∨ (1 : Int32) = 16 ∨ (1 : Int32) = 17 ∨ (1 : Int32) = 18 ∨ (1 : Int32) = 19 ∨ (1 : Int32) = 30 ∨ (1 : Int32) = 31 ∨ (1 : Int32) = 32 ∨ (1 : Int32) = 33 ∨ (1 : Int32) = 34 ∨ (1 : Int32) = 35 ∨ (1 : Int32) = 39) := by decide
theorem sk1 : SK (1 : Int32) := by unfold SK; decide
theorem kok2 : KOK (2 : Int32) := by unfold KOK; decide
theorem nn2 : (2 : Int32) ≠ 40 ∧ (2 : Int32) ≠ 39 ∧ (2 : Int32) ≠ 1 := by decide
theorem nt2 : ¬ ((2 : Int32) = 5 ∨ (2 : Int32) = 15 ∨ (2 : Int32) = 16 ∨ (2 : Int32) = 17 ∨ (2 : Int32) = 18 ∨ (2 : Int32) = 19 ∨ (2 : Int32) = 30 ∨ (2 : Int32) = 31 ∨ (2 : Int32) = 32 ∨ (2 : Int32) = 33 ∨ (2 : Int32) = 34 ∨ (2 : Int32) = 35 ∨ (2 : Int32) = 39) := by decide
theorem kok3 : KOK (3 : Int32) := by unfold KOK; decide
theorem nn3 : (3 : Int32) ≠ 40 ∧ (3 : Int32) ≠ 39 ∧ (3 : Int32) ≠ 1 := by decide
theorem nt3 : ¬ ((3 : Int32) = 5 ∨ (3 : Int32) = 15 ∨ (3 : Int32) = 16 ∨ (3 : Int32) = 17 ∨ (3 : Int32) = 18 ∨ (3 : Int32) = 19 ∨ (3 : Int32) = 30 ∨ (3 : Int32) = 31 ∨ (3 : Int32) = 32 ∨ (3 : Int32) = 33 ∨ (3 : Int32) = 34 ∨ (3 : Int32) = 35 ∨ (3 : Int32) = 39) := by decide
theorem kok5 : KOK (5 : Int32) := by unfold KOK; decide
theorem nn5 : (5 : Int32) ≠ 40 ∧ (5 : Int32) ≠ 39 ∧ (5 : Int32) ≠ 1 := by decide
theorem xk5 : XK (5 : Int32) := by unfold XK; decide
theorem kok10 : KOK (10 : Int32) := by unfold KOK; decide
theorem nn10 : (10 : Int32) ≠ 40 ∧ (10 : Int32) ≠ 39 ∧ (10 : Int32) ≠ 1 := by decide
theorem nt10 : ¬ ((10 : Int32) = 5 ∨ (10 : Int32) = 15 ∨ (10 : Int32) = 16 ∨ (10 : Int32) = 17 ∨ (10 : Int32) = 18 ∨ (10 : Int32) = 19 ∨ (10 : Int32) = 30 ∨ (10 : Int32) = 31 ∨ (10 : Int32) = 32 ∨ (10 : Int32) = 33 ∨ (10 : Int32) = 34 ∨ (10 : Int32) = 35 ∨ (10 : Int32) = 39) := by decide
theorem sk10 : SK (10 : Int32) := by unfold SK; decide
theorem kok11 : KOK (11 : Int32) := by unfold KOK; decide
theorem nn11 : (11 : Int32) ≠ 40 ∧ (11 : Int32) ≠ 39 ∧ (11 : Int32) ≠ 1 := by decide
theorem nt11 : ¬ ((11 : Int32) = 5 ∨ (11 : Int32) = 15 ∨ (11 : Int32) = 16 ∨ (11 : Int32) = 17 ∨ (11 : Int32) = 18 ∨ (11 : Int32) = 19 ∨ (11 : Int32) = 30 ∨ (11 : Int32) = 31 ∨ (11 : Int32) = 32 ∨ (11 : Int32) = 33 ∨ (11 : Int32) = 34 ∨ (11 : Int32) = 35 ∨ (11 : Int32) = 39) := by decide
theorem sk11 : SK (11 : Int32) := by unfold SK; decide
theorem kok12 : KOK (12 : Int32) := by unfold KOK; decide
theorem nn12 : (12 : Int32) ≠ 40 ∧ (12 : Int32) ≠ 39 ∧ (12 : Int32) ≠ 1 := by decide
theorem nt12 : ¬ ((12 : Int32) = 5 ∨ (12 : Int32) = 15 ∨ (12 : Int32) = 16 ∨ (12 : Int32) = 17 ∨ (12 : Int32) = 18 ∨ (12 : Int32) = 19 ∨ (12 : Int32) = 30 ∨ (12 : Int32) = 31 ∨ (12 : Int32) = 32 ∨ (12 : Int32) = 33 ∨ (12 : Int32) = 34 ∨ (12 : Int32) = 35 ∨ (12 : Int32) = 39) := by decide
theorem sk12 : SK (12 : Int32) := by unfold SK; decide
theorem kok13 : KOK (13 : Int32) := by unfold KOK; decide
theorem nn13 : (13 : Int32) ≠ 40 ∧ (13 : Int32) ≠ 39 ∧ (13 : Int32) ≠ 1 := by decide
theorem nt13 : ¬ ((13 : Int32) = 5 ∨ (13 : Int32) = 15 ∨ (13 : Int32) = 16 ∨ (13 : Int32) = 17 ∨ (13 : Int32) = 18 ∨ (13 : Int32) = 19 ∨ (13 : Int32) = 30 ∨ (13 : Int32) = 31 ∨ (13 : Int32) = 32 ∨ (13 : Int32) = 33 ∨ (13 : Int32) = 34 ∨ (13 : Int32) = 35 ∨ (13 : Int32) = 39) := by decide
theorem sk13 : SK (13 : Int32) := by unfold SK; decide
theorem kok14 : KOK (14 : Int32) := by unfold KOK; decide
theorem nn14 : (14 : Int32) ≠ 40 ∧ (14 : Int32) ≠ 39 ∧ (14 : Int32) ≠ 1 := by decide
theorem nt14 : ¬ ((14 : Int32) = 5 ∨ (14 : Int32) = 15 ∨ (14 : Int32) = 16 ∨ (14 : Int32) = 17 ∨ (14 : Int32) = 18 ∨ (14 : Int32) = 19 ∨ (14 : Int32) = 30 ∨ (14 : Int32) = 31 ∨ (14 : Int32) = 32 ∨ (14 : Int32) = 33 ∨ (14 : Int32) = 34 ∨ (14 : Int32) = 35 ∨ (14 : Int32) = 39) := by decide
theorem sk14 : SK (14 : Int32) := by unfold SK; decide
theorem kok15 : KOK (15 : Int32) := by unfold KOK; decide
theorem nn15 : (15 : Int32) ≠ 40 ∧ (15 : Int32) ≠ 39 ∧ (15 : Int32) ≠ 1 := by decide
theorem sk15 : SK (15 : Int32) := by unfold SK; decide
theorem kok16 : KOK (16 : Int32) := by unfold KOK; decide
theorem nn16 : (16 : Int32) ≠ 40 ∧ (16 : Int32) ≠ 39 ∧ (16 : Int32) ≠ 1 := by decide
theorem sk16 : SK (16 : Int32) := by unfold SK; decide
theorem kok17 : KOK (17 : Int32) := by unfold KOK; decide
theorem nn17 : (17 : Int32) ≠ 40 ∧ (17 : Int32) ≠ 39 ∧ (17 : Int32) ≠ 1 := by decide
theorem sk17 : SK (17 : Int32) := by unfold SK; decide
theorem kok18 : KOK (18 : Int32) := by unfold KOK; decide
theorem nn18 : (18 : Int32) ≠ 40 ∧ (18 : Int32) ≠ 39 ∧ (18 : Int32) ≠ 1 := by decide
theorem sk18 : SK (18 : Int32) := by unfold SK; decide
theorem kok19 : KOK (19 : Int32) := by unfold KOK; decide
theorem nn19 : (19 : Int32) ≠ 40 ∧ (19 : Int32) ≠ 39 ∧ (19 : Int32) ≠ 1 := by decide
theorem sk19 : SK (19 : Int32) := by unfold SK; decide
theorem kok20 : KOK (20 : Int32) := by unfold KOK; decide
theorem nn20 : (20 : Int32) ≠ 40 ∧ (20 : Int32) ≠ 39 ∧ (20 : Int32) ≠ 1 := by decide
theorem nt20 : ¬ ((20 : Int32) = 5 ∨ (20 : Int32) = 15 ∨ (20 : Int32) = 16 ∨ (20 : Int32) = 17 ∨ (20 : Int32) = 18 ∨ (20 : Int32) = 19 ∨ (20 : Int32) = 30 ∨ (20 : Int32) = 31 ∨ (20 : Int32) = 32 ∨ (20 : Int32) = 33 ∨ (20 : Int32) = 34 ∨ (20 : Int32) = 35 ∨ (20 : Int32) = 39) := by decide
theorem sk20 : SK (20 : Int32) := by unfold SK; decide
theorem kok21 : KOK (21 : Int32) := by unfold KOK; decide
theorem nn21 : (21 : Int32) ≠ 40 ∧ (21 : Int32) ≠ 39 ∧ (21 : Int32) ≠ 1 := by decide
theorem nt21 : ¬ ((21 : Int32) = 5 ∨ (21 : Int32) = 15 ∨ (21 : Int32) = 16 ∨ (21 : Int32) = 17 ∨ (21 : Int32) = 18 ∨ (21 : Int32) = 19 ∨ (21 : Int32) = 30 ∨ (21 : Int32) = 31 ∨ (21 : Int32) = 32 ∨ (21 : Int32) = 33 ∨ (21 : Int32) = 34 ∨ (21 : Int32) = 35 ∨ (21 : Int32) = 39) := by decide
theorem sk21 : SK (21 : Int32) := by unfold SK; decide
theorem kok30 : KOK (30 : Int32) := by unfold KOK; decide
theorem nn30 : (30 : Int32) ≠ 40 ∧ (30 : Int32) ≠ 39 ∧ (30 : Int32) ≠ 1 := by decide
theorem xk30 : XK (30 : Int32) := by unfold XK; decide
theorem kok31 : KOK (31 : Int32) := by unfold KOK; decide
theorem nn31 : (31 : Int32) ≠ 40 ∧ (31 : Int32) ≠ 39 ∧ (31 : Int32) ≠ 1 := by decide
theorem xk31 : XK (31 : Int32) := by unfold XK; decide
theorem kok32 : KOK (32 : Int32) := by unfold KOK; decide
theorem nn32 : (32 : Int32) ≠ 40 ∧ (32 : Int32) ≠ 39 ∧ (32 : Int32) ≠ 1 := by decide
theorem xk32 : XK (32 : Int32) := by unfold XK; decide
theorem kok33 : KOK (33 : Int32) := by unfold KOK; decide
theorem nn33 : (33 : Int32) ≠ 40 ∧ (33 : Int32) ≠ 39 ∧ (33 : Int32) ≠ 1 := by decide
theorem xk33 : XK (33 : Int32) := by unfold XK; decide
theorem kok34 : KOK (34 : Int32) := by unfold KOK; decide
theorem nn34 : (34 : Int32) ≠ 40 ∧ (34 : Int32) ≠ 39 ∧ (34 : Int32) ≠ 1 := by decide
theorem xk34 : XK (34 : Int32) := by unfold XK; decide
theorem kok35 : KOK (35 : Int32) := by unfold KOK; decide
theorem nn35 : (35 : Int32) ≠ 40 ∧ (35 : Int32) ≠ 39 ∧ (35 : Int32) ≠ 1 := by decide
theorem xk35 : XK (35 : Int32) := by unfold XK; decide
theorem kok36 : KOK (36 : Int32) := by unfold KOK; decide
theorem nn36 : (36 : Int32) ≠ 40 ∧ (36 : Int32) ≠ 39 ∧ (36 : Int32) ≠ 1 := by decide
theorem nt36 : ¬ ((36 : Int32) = 5 ∨ (36 : Int32) = 15 ∨ (36 : Int32) = 16 ∨ (36 : Int32) = 17 ∨ (36 : Int32) = 18 ∨ (36 : Int32) = 19 ∨ (36 : Int32) = 30 ∨ (36 : Int32) = 31 ∨ (36 : Int32) = 32 ∨ (36 : Int32) = 33 ∨ (36 : Int32) = 34 ∨ (36 : Int32) = 35 ∨ (36 : Int32) = 39) := by decide
theorem xk36 : XK (36 : Int32) := by unfold XK; decide
theorem kok37 : KOK (37 : Int32) := by unfold KOK; decide
theorem nn37 : (37 : Int32) ≠ 40 ∧ (37 : Int32) ≠ 39 ∧ (37 : Int32) ≠ 1 := by decide
theorem nt37 : ¬ ((37 : Int32) = 5 ∨ (37 : Int32) = 15 ∨ (37 : Int32) = 16 ∨ (37 : Int32) = 17 ∨ (37 : Int32) = 18 ∨ (37 : Int32) = 19 ∨ (37 : Int32) = 30 ∨ (37 : Int32) = 31 ∨ (37 : Int32) = 32 ∨ (37 : Int32) = 33 ∨ (37 : Int32) = 34 ∨ (37 : Int32) = 35 ∨ (37 : Int32) = 39) := by decide
theorem xk37 : XK (37 : Int32) := by unfold XK; decide
theorem kok38 : KOK (38 : Int32) := by unfold KOK; decide
theorem nn38 : (38 : Int32) ≠ 40 ∧ (38 : Int32) ≠ 39 ∧ (38 : Int32) ≠ 1 := by decide
theorem nt38 : ¬ ((38 : Int32) = 5 ∨ (38 : Int32) = 15 ∨ (38 : Int32) = 16 ∨ (38 : Int32) = 17 ∨ (38 : Int32) = 18 ∨ (38 : Int32) = 19 ∨ (38 : Int32) = 30 ∨ (38 : Int32) = 31 ∨ (38 : Int32) = 32 ∨ (38 : Int32) = 33 ∨ (38 : Int32) = 34 ∨ (38 : Int32) = 35 ∨ (38 : Int32) = 39) := by decide
theorem xk38 : XK (38 : Int32) := by unfold XK; decide
theorem kok39 : KOK (39 : Int32) := by unfold KOK; decide
theorem xk39 : XK (39 : Int32) := by unfold XK; decide
theorem kok40 : KOK (40 : Int32) := by unfold KOK; decide
theorem nt40 : ¬ ((40 : Int32) = 5 ∨ (40 : Int32) = 15 ∨ (40 : Int32) = 16 ∨ (40 : Int32) = 17 ∨ (40 : Int32) = 18 ∨ (40 : Int32) = 19 ∨ (40 : Int32) = 30 ∨ (40 : Int32) = 31 ∨ (40 : Int32) = 32 ∨ (40 : Int32) = 33 ∨ (40 : Int32) = 34 ∨ (40 : Int32) = 35 ∨ (40 : Int32) = 39) := by decide
theorem xk40 : XK (40 : Int32) := by unfold XK; decide
theorem kok41 : KOK (41 : Int32) := by unfold KOK; decide
theorem nn41 : (41 : Int32) ≠ 40 ∧ (41 : Int32) ≠ 39 ∧ (41 : Int32) ≠ 1 := by decide
theorem nt41 : ¬ ((41 : Int32) = 5 ∨ (41 : Int32) = 15 ∨ (41 : Int32) = 16 ∨ (41 : Int32) = 17 ∨ (41 : Int32) = 18 ∨ (41 : Int32) = 19 ∨ (41 : Int32) = 30 ∨ (41 : Int32) = 31 ∨ (41 : Int32) = 32 ∨ (41 : Int32) = 33 ∨ (41 : Int32) = 34 ∨ (41 : Int32) = 35 ∨ (41 : Int32) = 39) := by decide
theorem xk41 : XK (41 : Int32) := by unfold XK; decide
/-- what the characters say of tokens -/
abbrev TkC (n : Nat) (x : Nat → Nat) : Prop := (TxK (tkT n x) (txX n x)) ∧ (TxW (tkT n x) (txX n x)) ∧ (∀ i, 0 < rkM ((tkT n x).tkd i) → F_Rk_of (F_Sc_signs (chr n x ((cutE n x).getD i (0, 0, 0)).2.1) (chr n x (((cutE n x).getD i (0, 0, 0)).2.1 + 1))) = nI (rkM ((tkT n x).tkd i))) ∧ (∀ i, ((tkT n x).tkd i = 40 ∨ (tkT n x).tkd i = 39 ∨ (tkT n x).tkd i = 49) → (chr n x ((cutE n x).getD i (0, 0, 0)).2.1 = 45 ↔ (tkT n x).tkd i = 40)) ∧ (∀ i, (tkT n x).tkd i = 48 → txX n x i = [39]) ∧ (∀ i, (tkT n x).tkd i = 49 → (tkT n x).twd i = 1)
theorem TkC.tx {n : Nat} {x : Nat → Nat} (h : TkC n x) : TxK (tkT n x) (txX n x) := h.1
theorem TkC.tw {n : Nat} {x : Nat → Nat} (h : TkC n x) : TxW (tkT n x) (txX n x) := h.2.1
theorem TkC.op {n : Nat} {x : Nat → Nat} (h : TkC n x) : ∀ i, 0 < rkM ((tkT n x).tkd i) → F_Rk_of (F_Sc_signs (chr n x ((cutE n x).getD i (0, 0, 0)).2.1) (chr n x (((cutE n x).getD i (0, 0, 0)).2.1 + 1))) = nI (rkM ((tkT n x).tkd i)) := h.2.2.1
theorem TkC.sg {n : Nat} {x : Nat → Nat} (h : TkC n x) : ∀ i, ((tkT n x).tkd i = 40 ∨ (tkT n x).tkd i = 39 ∨ (tkT n x).tkd i = 49) → (chr n x ((cutE n x).getD i (0, 0, 0)).2.1 = 45 ↔ (tkT n x).tkd i = 40) := h.2.2.2.1
theorem TkC.qt {n : Nat} {x : Nat → Nat} (h : TkC n x) : ∀ i, (tkT n x).tkd i = 48 → txX n x i = [39] := h.2.2.2.2.1
theorem TkC.nt {n : Nat} {x : Nat → Nat} (h : TkC n x) : ∀ i, (tkT n x).tkd i = 49 → (tkT n x).twd i = 1 := h.2.2.2.2.2
theorem one_tree {t : Tr Lb} (h : Tr.rt t = 1) : ∃ z a u l, t = .inner z a u l .leaf := by
  cases t with
  | leaf => cases h
  | inner z a u l r =>
    have hr : r = .leaf := Tr.rt0 (by simp only [Tr.rt] at h; omega)
    subst hr
    exact ⟨z, a, u, l, rfl⟩
theorem AllM_app {n : Nat} {x : Nat → Nat} : ∀ (s t : Tr Lb), AllM n x s → AllM n x t → AllM n x (Tr.app s t)
  | .leaf, t, _, h => h
  | .inner _ a _ l r, t, ⟨h1, h2, h3⟩, h => ⟨h1, h2, AllM_app r t h3 h⟩
theorem Sh_app {tx : Nat → List Int32} : ∀ (s t : Tr Lb), Sh tx s → Sh tx t → Sh tx (Tr.app s t)
  | .leaf, t, _, h => h
  | .inner _ a _ l r, t, ⟨h1, h2, h3⟩, h => ⟨h1, h2, Sh_app r t h3 h⟩
theorem allK_app {Q : Int32 → Prop} : ∀ (s t : Tr Lb), allK Q s → allK Q t → allK Q (Tr.app s t)
  | .leaf, t, _, h => h
  | .inner _ a _ l r, t, ⟨h1, h2⟩, h => ⟨h1, allK_app r t h2 h⟩
/-- good trees whose roots' kinds keep Q -/
def OKT (n : Nat) (x : Nat → Nat) (Q : Int32 → Prop) (t : Tr Lb) : Prop := AllM n x t ∧ Sh (txX n x) t ∧ allK Q t
theorem OKT.leaf {n : Nat} {x : Nat → Nat} {Q : Int32 → Prop} : OKT n x Q .leaf := ⟨trivial, trivial, trivial⟩
theorem OKT.app {n : Nat} {x : Nat → Nat} {Q : Int32 → Prop} {s t : Tr Lb} (h : OKT n x Q s) (g : OKT n x Q t) : OKT n x Q (Tr.app s t) := ⟨AllM_app _ _ h.1 g.1, Sh_app _ _ h.2.1 g.2.1, allK_app _ _ h.2.2 g.2.2⟩
theorem OKT.nd {n : Nat} {x : Nat → Nat} {Q Q' : Int32 → Prop} {a : Lb} {l : Tr Lb} (h : OKT n x Q' l) (h1 : MOK n x a l) (h2 : ShN (txX n x) a l) (h3 : Q a.k) : OKT n x Q (Tr.nd a l) := ⟨⟨h1, h.1, trivial⟩, ⟨h2, h.2.1, trivial⟩, ⟨h3, trivial⟩⟩
section G
variable {n : Nat} {x : Nat → Nat}
theorem kd_in (ht : TextIs n x) {i : Nat} (h : 1 < (tkT n x).tkd i) : i + 1 < (cutE n x).length := by
  have hT := tkOK ht
  have hi : i < (cutE n x).length := by
    rcases Nat.lt_or_ge i (cutE n x).length with c | c
    · exact c
    · exfalso
      have e : (cutE n x).getD i (0, 0, 0) = (0, 0, 0) := by
        rw [List.getD_eq_getElem?_getD, List.getElem?_eq_none c]
        rfl
      have : (tkT n x).tkd i = 0 := by
        show ((cutE n x).getD i (0, 0, 0)).1 = 0
        rw [e]
      omega
  have he := hT.end'
  have : i ≠ (cutE n x).length - 1 := fun e => by rw [← e] at he; omega
  omega
theorem PTk_lb (ht : TextIs n x) {i : Nat} (h : 1 < (tkT n x).tkd i) : PTk n x ((tkT n x).tpl i) ((tkT n x).twd i) (nI i) := by
  have h1 := kd_in ht h
  have h2 := (tkOK ht).le
  unfold PTk
  rw [nI_clamp' (by omega)]
  exact ⟨h1, rfl, rfl⟩
theorem OpC_lb (ht : TextIs n x) (hc : TkC n x) {i : Nat} (h : 0 < rkM ((tkT n x).tkd i)) : OpC n x ((tkT n x).lb 40 i) := by
  have hk : 1 < (tkT n x).tkd i := by
    have := rk_rng h
    omega
  have h1 := kd_in ht hk
  have h2 := (tkOK ht).le
  have hpl := cut_pl ht i
  refine ⟨PTk_lb ht hk, ?_, ?_⟩
  · show F_Rk_of (F_Sc_signs (chr n x (Int32.toNatClampNeg (nI ((cutE n x).getD i (0, 0, 0)).2.1))) (chr n x (Int32.toNatClampNeg (nI ((cutE n x).getD i (0, 0, 0)).2.1) + 1))) = nI (rkM ((tkT n x).tkd (Int32.toNatClampNeg (nI i))))
    rw [nI_clamp' (by omega), nI_clamp' (by omega)]
    exact hc.op i h
  · show 0 < rkM ((tkT n x).tkd (Int32.toNatClampNeg (nI i)))
    rw [nI_clamp' (by omega)]
    exact h
theorem SgC_lb (ht : TextIs n x) (hc : TkC n x) {i : Nat} (h : (tkT n x).tkd i = 40 ∨ (tkT n x).tkd i = 39 ∨ (tkT n x).tkd i = 49) : SgC n x ((tkT n x).lb 39 i) := by
  have hk : 1 < (tkT n x).tkd i := by omega
  have h1 := kd_in ht hk
  have h2 := (tkOK ht).le
  have hpl := cut_pl ht i
  refine ⟨PTk_lb ht hk, ?_⟩
  show chr n x (Int32.toNatClampNeg (nI ((cutE n x).getD i (0, 0, 0)).2.1)) = 45 ↔ (tkT n x).tkd (Int32.toNatClampNeg (nI i)) = 40
  rw [nI_clamp' (by omega), nI_clamp' (by omega)]
  exact hc.sg i h
/-- a node that is no operation, sign or function -/
theorem MOK.plain {a : Lb} {l : Tr Lb} (h1 : KOK a.k) (h2 : (a.k = 5 ∨ a.k = 15 ∨ a.k = 16 ∨ a.k = 17 ∨ a.k = 18 ∨ a.k = 19 ∨ a.k = 30 ∨ a.k = 31 ∨ a.k = 32 ∨ a.k = 33 ∨ a.k = 34 ∨ a.k = 35 ∨ a.k = 39) → PTk n x a.pl a.wd a.tk) (h3 : a.k ≠ 40) (h4 : a.k ≠ 39) (h5 : a.k ≠ 1) : MOK n x a l := ⟨h1, h2, fun e => absurd e h3, fun e => absurd e h4, fun e => absurd e h5⟩
/-- a leaf of an expression -/
theorem leafX (ht : TextIs n x) {k : Int32} {i : Nat} (hk : k = 30 ∨ k = 31 ∨ k = 32 ∨ k = 34 ∨ k = 35) (h : 1 < (tkT n x).tkd i) : OKT n x XK (Tr.nd ((tkT n x).lb k i) .leaf) := by
  have hp := PTk_lb ht h
  rcases hk with e | e | e | e | e <;> subst e
  · exact (OKT.leaf (Q := XK)).nd (MOK.plain kok30 (fun _ => hp) nn30.1 nn30.2.1 nn30.2.2) (Or.inl ⟨Or.inl ⟨Or.inr (Or.inl rfl), rfl⟩, trivial⟩) xk30
  · exact (OKT.leaf (Q := XK)).nd (MOK.plain kok31 (fun _ => hp) nn31.1 nn31.2.1 nn31.2.2) (Or.inl ⟨Or.inl ⟨Or.inr (Or.inr (Or.inl rfl)), rfl⟩, trivial⟩) xk31
  · exact (OKT.leaf (Q := XK)).nd (MOK.plain kok32 (fun _ => hp) nn32.1 nn32.2.1 nn32.2.2) (Or.inl ⟨Or.inl ⟨Or.inr (Or.inr (Or.inr (Or.inl rfl))), rfl⟩, trivial⟩) xk32
  · exact (OKT.leaf (Q := XK)).nd (MOK.plain kok34 (fun _ => hp) nn34.1 nn34.2.1 nn34.2.2) (Or.inl ⟨Or.inl ⟨Or.inr (Or.inr (Or.inr (Or.inr (Or.inl rfl)))), rfl⟩, trivial⟩) xk34
  · exact (OKT.leaf (Q := XK)).nd (MOK.plain kok35 (fun _ => hp) nn35.1 nn35.2.1 nn35.2.2) (Or.inl ⟨Or.inl ⟨Or.inr (Or.inr (Or.inr (Or.inr (Or.inr rfl)))), rfl⟩, trivial⟩) xk35
theorem signX (ht : TextIs n x) (hc : TkC n x) {i : Nat} {l : Tr Lb} (h : (tkT n x).tkd i = 40 ∨ (tkT n x).tkd i = 39 ∨ (tkT n x).tkd i = 49) (hl : OKT n x XK l) (h1 : Tr.rt l = 1) : OKT n x XK (Tr.nd ((tkT n x).lb 39 i) l) :=
  hl.nd ⟨kok39, fun _ => PTk_lb ht (by omega), fun e => absurd e (show ¬ (39 : Int32) = 40 by decide), fun _ => ⟨SgC_lb ht hc h, h1⟩, fun e => absurd e (show ¬ (39 : Int32) = 1 by decide)⟩ (Or.inl ⟨Or.inr (Or.inr (Or.inr (Or.inr (Or.inr (Or.inl rfl))))), hl.2.2⟩) xk39
/-- expressions -/
theorem Vx.ok (ht : TextIs n x) (hc : TkC n x) : ∀ (f md r a b : Nat) (t : Tr Lb), Vx (tkT n x) f md r a b t → OKT n x XK t
  | 0, _, _, _, _, _, h => h.elim
  | f + 1, 0, r, a, b, t, h => by
    have ih := Vx.ok ht hc f
    have r1 : ∀ {r a b t}, Vx (tkT n x) f 0 r a b t → Tr.rt t = 1 := fun y => VV.rt1 ⟨f, y⟩
    rcases h with ⟨_, _, h⟩ | ⟨_, _, b', _, _, r', h⟩ | ⟨_, h1, _, b', _, _, l, h2, h3⟩ | ⟨_, h1, b', _, _, l, h2, h3⟩ | ⟨_, b', _, h1, r', l, _, h2, h3⟩ | ⟨_, h1, r', l, _, h2, h3⟩ | ⟨h0, _, m, h1, r1', t1, t2, _, h2, h3, h4⟩ | ⟨_, m, h1, r1', r2, t1, t2, _, _, h2, h3, h4⟩ | ⟨_, m, m2, h1, _, r1', r2, r3, t1, t2, t3, _, _, _, h2, h3, h4, h5⟩
    · rcases h with ⟨h, e⟩ | ⟨h, e⟩ | ⟨h, e⟩ | ⟨h, e⟩ <;> subst e
      · exact leafX ht (by decide) (by omega)
      · exact leafX ht (by decide) (by omega)
      · exact leafX ht (by decide) (by omega)
      · exact leafX ht (by decide) (by omega)
    · exact ih _ _ _ _ _ h
    · subst h2
      have hl : OKT n x XK l := by
        rcases h3 with ⟨_, e⟩ | h3
        · subst e; exact OKT.leaf
        · exact ih _ _ _ _ _ h3
      exact hl.nd (MOK.plain kok33 (fun _ => PTk_lb ht (by omega)) nn33.1 nn33.2.1 nn33.2.2) (Or.inl ⟨Or.inr (Or.inl rfl), hl.2.2⟩) xk33
    · subst h2
      have hl : OKT n x XK l := by
        rcases h3 with ⟨_, e⟩ | h3
        · subst e; exact OKT.leaf
        · exact ih _ _ _ _ _ h3
      exact hl.nd (MOK.plain kok36 (fun e => absurd e nt36) nn36.1 nn36.2.1 nn36.2.2) (Or.inl ⟨Or.inr (Or.inr (Or.inl rfl)), hl.2.2⟩) xk36
    · subst h3
      have hl := ih _ _ _ _ _ h2
      have hi := kd_in ht (show 1 < (tkT n x).tkd b' by omega)
      have hm := (tkOK ht).le
      exact hl.nd (MOK.plain kok38 (fun e => absurd e nt38) nn38.1 nn38.2.1 nn38.2.2) (Or.inl ⟨Or.inr (Or.inr (Or.inr (Or.inr (Or.inl ⟨rfl, by
        show txX n x (Int32.toNatClampNeg (nI b')) = [39]
        rw [nI_clamp' (by omega)]
        exact hc.qt b' h1⟩)))), hl.2.2⟩) xk38
    · subst h3
      exact signX ht hc h1 (ih _ _ _ _ _ h2) (r1 h2)
    · subst h4
      have hl1 := ih _ _ _ _ _ h2
      have hl2 : OKT n x XK t2 ∧ Tr.rt t2 = 1 := by
        rcases h3 with ⟨r2, _, h3⟩ | ⟨_, h5, r3, l, _, h3, h6⟩
        · exact ⟨ih _ _ _ _ _ h3, r1 h3⟩
        · subst h6
          exact ⟨signX ht hc (Or.inl h5) (ih _ _ _ _ _ h3) (r1 h3), rfl⟩
      have hl := hl1.app hl2.1
      exact hl.nd ⟨kok40, fun e => absurd e nt40, fun _ => ⟨OpC_lb ht hc (by omega), by rw [Tr.rt_app, r1 h2, hl2.2]⟩, fun e => absurd e (show ¬ (40 : Int32) = 39 by decide), fun e => absurd e (show ¬ (40 : Int32) = 1 by decide)⟩ (Or.inl ⟨Or.inr (Or.inr (Or.inr (Or.inr (Or.inr (Or.inr (Or.inl rfl)))))), hl.2.2⟩) xk40
    · subst h4
      have hl := (ih _ _ _ _ _ h2).app (ih _ _ _ _ _ h3)
      exact hl.nd (MOK.plain kok41 (fun e => absurd e nt41) nn41.1 nn41.2.1 nn41.2.2) (Or.inl ⟨Or.inr (Or.inr (Or.inr (Or.inr (Or.inr (Or.inr (Or.inr rfl)))))), hl.2.2⟩) xk41
    · subst h5
      have hl := (ih _ _ _ _ _ h2).app ((ih _ _ _ _ _ h3).app (ih _ _ _ _ _ h4))
      exact hl.nd (MOK.plain kok41 (fun e => absurd e nt41) nn41.1 nn41.2.1 nn41.2.2) (Or.inl ⟨Or.inr (Or.inr (Or.inr (Or.inr (Or.inr (Or.inr (Or.inr rfl)))))), hl.2.2⟩) xk41
  | f + 1, 1, r, a, b, t, h => by
    have ih := Vx.ok ht hc f
    have el : ∀ {c a b t}, VEl (tkT n x) (Vx (tkT n x) f) c a b t → OKT n x XK t := fun y => by
      rcases y with ⟨r, y⟩ | ⟨_, _, y, e⟩
      · exact ih _ _ _ _ _ y
      · subst e; exact leafX ht (by decide) (by omega)
    rcases h with h | ⟨m, t1, t2, _, h1, h2, h3⟩
    · exact el h
    · subst h3; exact (ih _ _ _ _ _ h1).app (el h2)
  | f + 1, 2, r, a, b, t, h => by
    have ih := Vx.ok ht hc f
    have el : ∀ {c a b t}, VEl (tkT n x) (Vx (tkT n x) f) c a b t → OKT n x XK t := fun y => by
      rcases y with ⟨r, y⟩ | ⟨_, _, y, e⟩
      · exact ih _ _ _ _ _ y
      · subst e; exact leafX ht (by decide) (by omega)
    rcases h with h | ⟨m, t1, t2, _, h1, h2, h3⟩
    · exact el h
    · subst h3; exact (ih _ _ _ _ _ h1).app (el h2)
  | f + 1, 3, r, a, b, t, h => by
    have ih := Vx.ok ht hc f
    have row : ∀ {a b l}, Vx (tkT n x) f 2 0 a b l → OKT n x XK (Tr.nd ((tkT n x).lb 37 a) l) := fun y => by
      have hl := ih _ _ _ _ _ y
      exact hl.nd (MOK.plain kok37 (fun e => absurd e nt37) nn37.1 nn37.2.1 nn37.2.2) (Or.inl ⟨Or.inr (Or.inr (Or.inr (Or.inl rfl))), hl.2.2⟩) xk37
    rcases h with ⟨l, h1, h2⟩ | ⟨m, t1, l, _, h1, h2, h3⟩
    · subst h2; exact row h1
    · subst h3; exact (ih _ _ _ _ _ h1).app (row h2)
  | f + 1, _ + 4, r, a, b, t, h => h.elim
theorem VV.ok (ht : TextIs n x) (hc : TkC n x) {md r a b : Nat} {t : Tr Lb} (h : VV (tkT n x) md r a b t) : OKT n x XK t := by
  obtain ⟨f, h⟩ := h
  exact Vx.ok ht hc f md r a b t h
end G
end

section
/-- pairs of a condition and a block -/
def IfP : Tr Lb → Prop
  | .leaf => True
  | .inner _ _ _ _ .leaf => False
  | .inner _ e _ _ (.inner _ b _ _ r) => XK e.k ∧ b.k = 3 ∧ IfP r
theorem IfP.app : ∀ {s t : Tr Lb}, IfP s → IfP t → IfP (Tr.app s t)
  | .leaf, t, _, h => h
  | .inner _ _ _ _ .leaf, t, h, _ => h.elim
  | .inner _ e _ _ (.inner _ b _ _ r), t, ⟨h1, h2, h3⟩, h => ⟨h1, h2, IfP.app h3 h⟩
theorem IfP.sh : ∀ {s : Tr Lb}, IfP s → IfSh s
  | .leaf, _ => trivial
  | .inner _ _ _ _ .leaf, h => h.elim
  | .inner _ e _ _ (.inner _ b _ _ r), ⟨h1, h2, h3⟩ => ⟨h1, h2, IfP.sh h3⟩
theorem IfP.el {b : Lb} {S : Tr Lb} (hb : b.k = 3) : ∀ {s : Tr Lb}, IfP s → IfSh (Tr.app s (Tr.nd b S))
  | .leaf, _ => hb
  | .inner _ _ _ _ .leaf, h => h.elim
  | .inner _ e _ _ (.inner _ b _ _ r), ⟨h1, h2, h3⟩ => ⟨h1, h2, IfP.el hb h3⟩
def anyK (_ : Int32) : Prop := True
theorem allK_any : ∀ (t : Tr Lb), allK anyK t
  | .leaf => trivial
  | .inner _ _ _ _ r => ⟨trivial, allK_any r⟩
theorem OKT.any {n : Nat} {x : Nat → Nat} {Q : Int32 → Prop} {t : Tr Lb} (h : OKT n x Q t) : OKT n x anyK t := ⟨h.1, h.2.1, allK_any t⟩
section G
variable {n : Nat} {x : Nat → Nat}
theorem NmL.ok (ht : TextIs n x) (hc : TkC n x) {tg : Bool} {a : Nat} : ∀ {k : Nat} {l : Tr Lb}, NmL (tkT n x) tg a k l → OKT n x XK l
  | 0, l, h => by
    have h : l = .leaf := h
    subst h; exact OKT.leaf
  | k + 1, l, ⟨t0, h1, _, h3⟩ => by
    have ih := NmL.ok ht hc (k := k) h1
    rcases h3 with ⟨h, e⟩ | ⟨_, h, e⟩
    · subst e
      exact ih.app (leafX ht (by decide) (by omega))
    · subst e
      have hp : PTk n x ((tkT n x).tpl (a + 2 * k)) 1 (nI (a + 2 * k)) := by
        have := PTk_lb ht (i := a + 2 * k) (by omega)
        rw [hc.nt _ h] at this
        exact this
      exact ih.app ((OKT.leaf (Q := XK)).nd (MOK.plain kok5 (fun _ => hp) nn5.1 nn5.2.1 nn5.2.2) (Or.inl ⟨Or.inl ⟨Or.inl rfl, rfl⟩, trivial⟩) xk5)
theorem blkT {c : Nat} {S : Tr Lb} (h : OKT n x SK S) : OKT n x anyK (Tr.nd ((tkT n x).blk c) S) :=
  h.nd (MOK.plain kok3 (fun e => absurd e nt3) nn3.1 nn3.2.1 nn3.2.2) (Or.inr (Or.inr (Or.inl ⟨Or.inl rfl, h.2.2⟩))) trivial
theorem nmsT {c : Nat} {S : Tr Lb} (h : OKT n x XK S) : OKT n x anyK (Tr.nd ((tkT n x).nms c) S) :=
  h.nd (MOK.plain kok2 (fun e => absurd e nt2) nn2.1 nn2.2.1 nn2.2.2) (Or.inr (Or.inl ⟨rfl, h.2.2⟩)) trivial
theorem FHd.ok (ht : TextIs n x) (hc : TkC n x) {a nm' c : Nat} {R Q : Tr Lb} (h : FHd (tkT n x) a nm' c R Q) : OKT n x XK R ∧ OKT n x XK Q := by
  obtain ⟨f1, f2, f3, f4, k, f5, f6, f7⟩ := h
  refine ⟨?_, NmL.ok ht hc f5⟩
  rcases f2 with ⟨_, k1, _, h, _⟩ | ⟨h, _, e, _⟩ | ⟨e, _⟩
  · exact NmL.ok ht hc h
  · subst e; exact leafX ht (by decide) (by omega)
  · subst e; exact OKT.leaf
theorem SS.ok (ht : TextIs n x) (hc : TkC n x) : ∀ {md a b : Nat} {t : Tr Lb}, SS (tkT n x) (fun md _ _ t => (md ≤ 1 → OKT n x SK t) ∧ (md = 2 → OKT n x anyK t ∧ IfP t ∧ 2 ≤ Tr.rt t)) md a b t → (md ≤ 1 → OKT n x SK t) ∧ (md = 2 → OKT n x anyK t ∧ IfP t ∧ 2 ≤ Tr.rt t)
  | 0, a, b, t, h => by
    refine ⟨fun _ => ?_, fun e => by cases e⟩
    rcases h with ⟨_, _, h⟩ | ⟨b', l, _, _, h1, _, h⟩ | ⟨b', r, l, _, _, _, h1, _, h⟩ | ⟨g, b', r1, r2, t1, t2, _, _, _, _, h1, h2, _, _, h⟩ | ⟨k, l, g, c, l2, _, _, h1, _, _, _, h2, _, h3, _, _, _, h⟩ | ⟨d, l, h1, ⟨h2, h2a⟩, h⟩ | ⟨c, r, l, e, S, _, _, h1, _, ⟨h2, _⟩, _, _, h⟩ | ⟨c, r, l, e, S, _, _, h0, _, h1, _, ⟨h2, _⟩, _, _, h⟩ | ⟨c, e, S1, S2, _, ⟨h1, _⟩, _, ⟨h2, _⟩, _, _, h⟩ | ⟨nm', c, e, R, Q, S, h1, ⟨h2, _⟩, _, _, h⟩
    · rcases h with ⟨h, e⟩ | ⟨h, e⟩ | ⟨h, e⟩ <;> subst e
      · exact (OKT.leaf (Q := XK)).nd (MOK.plain kok15 (fun _ => PTk_lb ht (by omega)) nn15.1 nn15.2.1 nn15.2.2) (Or.inr (Or.inr (Or.inr (Or.inl ⟨Or.inl rfl, rfl⟩)))) sk15
      · exact (OKT.leaf (Q := XK)).nd (MOK.plain kok16 (fun _ => PTk_lb ht (by omega)) nn16.1 nn16.2.1 nn16.2.2) (Or.inr (Or.inr (Or.inr (Or.inl ⟨Or.inr (Or.inl rfl), rfl⟩)))) sk16
      · exact (OKT.leaf (Q := XK)).nd (MOK.plain kok17 (fun _ => PTk_lb ht (by omega)) nn17.1 nn17.2.1 nn17.2.2) (Or.inr (Or.inr (Or.inr (Or.inl ⟨Or.inr (Or.inr rfl), rfl⟩)))) sk17
    · have hl := VV.ok ht hc h1
      rcases h with ⟨h, e⟩ | ⟨h, e⟩ <;> subst e
      · exact hl.nd (MOK.plain kok18 (fun _ => PTk_lb ht (by omega)) nn18.1 nn18.2.1 nn18.2.2) (Or.inr (Or.inr (Or.inr (Or.inr (Or.inl ⟨Or.inl rfl, hl.2.2⟩))))) sk18
      · exact hl.nd (MOK.plain kok19 (fun _ => PTk_lb ht (by omega)) nn19.1 nn19.2.1 nn19.2.2) (Or.inr (Or.inr (Or.inr (Or.inr (Or.inl ⟨Or.inr (Or.inl rfl), hl.2.2⟩))))) sk19
    · have hl := VV.ok ht hc h1
      subst h
      exact hl.nd (MOK.plain kok20 (fun e => absurd e nt20) nn20.1 nn20.2.1 nn20.2.2) (Or.inr (Or.inr (Or.inr (Or.inr (Or.inl ⟨Or.inr (Or.inr (Or.inl rfl)), hl.2.2⟩))))) sk20
    · have hl := (VV.ok ht hc h1).app (VV.ok ht hc h2)
      subst h
      exact hl.nd (MOK.plain kok21 (fun e => absurd e nt21) nn21.1 nn21.2.1 nn21.2.2) (Or.inr (Or.inr (Or.inr (Or.inr (Or.inl ⟨Or.inr (Or.inr (Or.inr rfl)), hl.2.2⟩))))) sk21
    · have hl2 : OKT n x XK l2 := by
        rcases h3 with ⟨_, e⟩ | h3
        · subst e; exact OKT.leaf
        · exact VV.ok ht hc h3
      have hcall : OKT n x XK (Tr.nd (33, (tkT n x).tpl (g + 1), (tkT n x).tpl (g + 2), (tkT n x).twd (g + 1), nI (g + 1)) l2) := hl2.nd (MOK.plain kok33 (fun _ => PTk_lb ht (by omega)) nn33.1 nn33.2.1 nn33.2.2) (Or.inl ⟨Or.inr (Or.inl rfl), hl2.2.2⟩) xk33
      have hl := (nmsT (c := a) (NmL.ok ht hc h1)).app hcall.any
      subst h
      exact hl.nd (MOK.plain kok10 (fun e => absurd e nt10) nn10.1 nn10.2.1 nn10.2.2) (Or.inr (Or.inr (Or.inr (Or.inr (Or.inr (Or.inl ⟨rfl, _, _, _, _, _, _, _, _, rfl, rfl, xk33⟩)))))) sk10
    · obtain ⟨g1, g2, g3⟩ := h2a rfl
      rcases h with ⟨_, _, h⟩ | ⟨_, e, S, ⟨k1, _⟩, _, _, h⟩
      · subst h
        exact g1.nd (MOK.plain kok11 (fun e => absurd e nt11) nn11.1 nn11.2.1 nn11.2.2) (Or.inr (Or.inr (Or.inr (Or.inr (Or.inr (Or.inr (Or.inl ⟨rfl, g2.sh, g3⟩))))))) sk11
      · subst h
        exact (g1.app (blkT (c := d) (k1 (by omega)))).nd (MOK.plain kok11 (fun e => absurd e nt11) nn11.1 nn11.2.1 nn11.2.2) (Or.inr (Or.inr (Or.inr (Or.inr (Or.inr (Or.inr (Or.inl ⟨rfl, g2.el rfl, by rw [Tr.rt_app]; omega⟩))))))) sk11
    · have hl := VV.ok ht hc h1
      obtain ⟨z1, a1, u1, l1, el⟩ := one_tree (VV.rt1 h1)
      have hx : XK a1.k := by have := hl.2.2; rw [el] at this; exact this.1
      have hall := hl.any.app (blkT (c := c) (h2 (by omega)))
      subst h
      exact hall.nd (MOK.plain kok12 (fun e => absurd e nt12) nn12.1 nn12.2.1 nn12.2.2) (Or.inr (Or.inr (Or.inr (Or.inr (Or.inr (Or.inr (Or.inr (Or.inl ⟨rfl, z1, a1, u1, l1, _, _, _, _, by rw [el]; rfl, hx, rfl⟩)))))))) sk12
    · have hl := VV.ok ht hc h1
      obtain ⟨z1, a1, u1, l1, el⟩ := one_tree (VV.rt1 h1)
      have hx : XK a1.k := by have := hl.2.2; rw [el] at this; exact this.1
      have hall := (leafX ht (k := 32) (i := a + 2) (by decide) (by omega)).any.app (hl.any.app (blkT (c := c) (h2 (by omega))))
      subst h
      exact hall.nd (MOK.plain kok13 (fun e => absurd e nt13) nn13.1 nn13.2.1 nn13.2.2) (Or.inr (Or.inr (Or.inr (Or.inr (Or.inr (Or.inr (Or.inr (Or.inr (Or.inl ⟨rfl, _, _, _, _, z1, a1, u1, l1, _, _, _, _, by rw [el]; rfl, xk32, hx, rfl⟩))))))))) sk13
    · have hall := (blkT (c := a) (h1 (by omega))).app (blkT (c := c) (h2 (by omega)))
      subst h
      exact hall.nd (MOK.plain kok14 (fun e => absurd e nt14) nn14.1 nn14.2.1 nn14.2.2) (Or.inr (Or.inr (Or.inr (Or.inr (Or.inr (Or.inr (Or.inr (Or.inr (Or.inr (Or.inl ⟨rfl, _, _, _, _, _, _, _, _, rfl, rfl, rfl⟩)))))))))) sk14
    · obtain ⟨hR, hQ⟩ := FHd.ok ht hc h1
      have h3 : (tkT n x).tkd nm' = 2 := h1.2.2.1
      have hall := (nmsT (c := nm') hR).app ((nmsT (c := nm' + 1) hQ).app (blkT (c := c) (h2 (by omega))))
      subst h
      exact hall.nd ⟨kok1, fun e => absurd e nt1, fun e => absurd e (show ¬ (1 : Int32) = 40 by decide), fun e => absurd e (show ¬ (1 : Int32) = 39 by decide), fun _ => ⟨_, _, _, _, _, rfl, PTk_lb ht (by omega)⟩⟩ (Or.inr (Or.inr (Or.inr (Or.inr (Or.inr (Or.inr (Or.inr (Or.inr (Or.inr (Or.inr ⟨rfl, _, _, _, _, _, _, _, _, _, _, _, _, rfl, rfl, rfl, rfl⟩)))))))))) sk1
  | 1, a, b, t, h => by
    refine ⟨fun _ => ?_, fun e => by cases e⟩
    rcases h with ⟨_, e⟩ | ⟨m, t1, t2, ⟨h1, _⟩, ⟨h2, _⟩, e⟩
    · subst e; exact OKT.leaf
    · subst e; exact (h1 (by omega)).app (h2 (by omega))
  | 2, a, b, t, h => by
    refine ⟨fun e => by omega, fun _ => ?_⟩
    have one : ∀ {c r e S a'}, VV (tkT n x) 0 r a' c e → OKT n x SK S → OKT n x anyK (Tr.app e (Tr.nd ((tkT n x).blk c) S)) ∧ IfP (Tr.app e (Tr.nd ((tkT n x).blk c) S)) ∧ 2 ≤ Tr.rt (Tr.app e (Tr.nd ((tkT n x).blk c) S)) := fun {c r e S a'} h1 h2 => by
      have hl := VV.ok ht hc h1
      obtain ⟨z1, a1, u1, l1, el⟩ := one_tree (VV.rt1 h1)
      have hx : XK a1.k := by have := hl.2.2; rw [el] at this; exact this.1
      refine ⟨hl.any.app (blkT h2), ?_, ?_⟩
      · rw [el]
        exact ⟨hx, rfl, trivial⟩
      · rw [Tr.rt_app, VV.rt1 h1]
        exact Nat.le_refl 2
    rcases h with ⟨c, r, e, S, _, h1, _, ⟨h2, _⟩, h⟩ | ⟨m, c, r, e, S, l1, ⟨_, h0⟩, _, _, h1, _, ⟨h2, _⟩, h⟩
    · subst h
      exact one h1 (h2 (by omega))
    · subst h
      obtain ⟨g1, g2, g3⟩ := h0 rfl
      obtain ⟨k1, k2, k3⟩ := one h1 (h2 (by omega))
      exact ⟨g1.app k1, g2.app k2, by rw [Tr.rt_app]; omega⟩
  | _ + 3, a, b, t, h => h.elim
/-- **the grammar's programs are good trees** -/
theorem SV.ok (ht : TextIs n x) (hc : TkC n x) {a b : Nat} {t : Tr Lb} (h : SV (tkT n x) 1 a b t) : OKT n x SK t := (h (fun md _ _ t => (md ≤ 1 → OKT n x SK t) ∧ (md = 2 → OKT n x anyK t ∧ IfP t ∧ 2 ≤ Tr.rt t)) (fun _ _ _ _ y => SS.ok ht hc y)).1 (by omega)
end G
end
