section
/-! what is written of a tree is its text -/
def XK (k : Int32) : Prop := k = 5 ∨ k = 30 ∨ k = 31 ∨ k = 32 ∨ k = 33 ∨ k = 34 ∨ k = 35 ∨ k = 36 ∨ k = 37 ∨ k = 38 ∨ k = 39 ∨ k = 40 ∨ k = 41
/-- an expression's node -/
def NX (tx : Nat → List Int32) (a : Lb) (l : Tr Lb) : Prop := ((a.k = 5 ∨ a.k = 30 ∨ a.k = 31 ∨ a.k = 32 ∨ a.k = 34 ∨ a.k = 35) ∧ l = .leaf) ∨ a.k = 33 ∨ a.k = 36 ∨ a.k = 37 ∨ (a.k = 38 ∧ tkW tx a = [39]) ∨ a.k = 39 ∨ a.k = 40 ∨ a.k = 41
def XSh (tx : Nat → List Int32) : Tr Lb → Prop
  | .leaf => True
  | .inner _ a _ l r => NX tx a l ∧ XSh tx l ∧ XSh tx r
/-- wholes whose parts are written one behind the other -/
def PK (k : Int32) : Prop := k = 2 ∨ k = 18 ∨ k = 19 ∨ k = 20 ∨ k = 21 ∨ k = 33 ∨ k = 36 ∨ k = 37 ∨ k = 38 ∨ k = 39 ∨ k = 40 ∨ k = 41
def sepX (T : Tks) (tx : Nat → List Int32) (p : Lb) : List Int32 := if p.k = 2 ∨ p.k = 18 ∨ p.k = 19 ∨ p.k = 33 ∨ p.k = 37 then [44, 32] else if p.k = 36 then [59, 32] else if p.k = 21 then [32, 61, 32] else if p.k = 41 then [58] else if p.k = 40 then opW T tx p else []
section S
variable {T : Tks} {tx : Nat → List Int32}
theorem PK.lf {p : Lb} {l : Tr Lb} {d : Nat} (h : PK p.k) : lfW p l d = [] := by
  unfold lfW
  rcases h with e | e | e | e | e | e | e | e | e | e | e | e <;> simp (decide := true) only [e, ↓reduceIte]
theorem PK.ld {p : Lb} {P : Tr Lb} {a : Lb} {r : Tr Lb} {d : Nat} (h : PK p.k) : ldW T tx p P a r d = sepX T tx p := by
  unfold ldW sepX
  rcases h with e | e | e | e | e | e | e | e | e | e | e | e <;> simp (decide := true) only [e, ↓reduceIte, or_true, true_or, or_false, false_or]
theorem PK.tr {p a : Lb} {l : Tr Lb} {b : Bool} (h : PK p.k) : trW tx b p a l = [] := by
  unfold trW
  rcases h with e | e | e | e | e | e | e | e | e | e | e | e <;> simp (decide := true) only [e, ↓reduceIte, or_true, true_or, or_false, false_or]
theorem br_wrap {p : Lb} {P : Tr Lb} {j : Nat} {a : Lb} {w : List Int32} : brW T p P j a 40 ++ (w ++ brW T p P j a 41) = wrapW (decide (rkA T a < needW T p P j)) w := by
  unfold brW wrapW
  by_cases c : rkA T a < needW T p P j
  · rw [if_pos c, if_pos c, decide_eq_true c, if_pos rfl, List.append_assoc]
  · rw [if_neg c, if_neg c, decide_eq_false c, if_neg (by decide), List.nil_append, List.append_nil]
theorem wTail_nil : ∀ L : List (List Int32), wTail [] L = L.flatten
  | [] => rfl
  | x :: L => by rw [wTail, List.nil_append, wTail_nil L, List.flatten_cons]
theorem wSep_nil (L : List (List Int32)) : wSep [] L = L.flatten := by
  cases L with
  | nil => rfl
  | cons x L => rw [wSep, wTail_nil, List.flatten_cons]
/-- an expression's node says its body, if its parts do -/
theorem body_of {a : Lb} {l : Tr Lb} {d : Nat} (h : NX tx a l) (e : PK a.k → emF T tx l a l 0 d = wSep (sepX T tx a) (wF T tx l (needW T a l))) : bgW tx a d ++ (emF T tx l a l 0 d ++ fiW a d) = bodyW T tx a (wF T tx l (needW T a l)) := by
  have hsep : PK a.k → (a.k = 33 → sepX T tx a = [44, 32]) ∧ (a.k = 36 → sepX T tx a = [59, 32]) ∧ (a.k = 37 → sepX T tx a = [44, 32]) ∧ (a.k = 38 → sepX T tx a = []) ∧ (a.k = 39 → sepX T tx a = []) ∧ (a.k = 40 → sepX T tx a = opW T tx a) ∧ (a.k = 41 → sepX T tx a = [58]) := fun _ => by
    unfold sepX
    refine ⟨fun e => ?_, fun e => ?_, fun e => ?_, fun e => ?_, fun e => ?_, fun e => ?_, fun e => ?_⟩ <;> simp (decide := true) only [e, ↓reduceIte, or_true, true_or, or_false, false_or]
  rcases h with ⟨h, hl⟩ | h | h | h | ⟨h, hq⟩ | h | h | h
  · subst hl
    rw [show emF T tx .leaf a .leaf 0 d = [] from rfl, List.nil_append]
    unfold bgW fiW bodyW
    rcases h with e | e | e | e | e | e <;> (simp (decide := true) only [e, ↓reduceIte, or_true, true_or, or_false, false_or, List.append_nil]; rfl)
  · have hp : PK a.k := by unfold PK; simp (decide := true) only [h, or_true, true_or]
    rw [e hp, (hsep hp).1 h]
    unfold bgW fiW bodyW
    simp (decide := true) only [h, ↓reduceIte, or_true, true_or, or_false, false_or, List.append_assoc]
    rfl
  · have hp : PK a.k := by unfold PK; simp (decide := true) only [h, or_true, true_or]
    rw [e hp, (hsep hp).2.1 h]
    unfold bgW fiW bodyW
    simp (decide := true) only [h, ↓reduceIte, or_true, true_or, or_false, false_or, List.append_assoc]
  · have hp : PK a.k := by unfold PK; simp (decide := true) only [h, or_true, true_or]
    rw [e hp, (hsep hp).2.2.1 h]
    unfold bgW fiW bodyW
    simp (decide := true) only [h, ↓reduceIte, or_true, true_or, or_false, false_or, List.append_nil, List.nil_append]
  · have hp : PK a.k := by unfold PK; simp (decide := true) only [h, or_true, true_or]
    rw [e hp, (hsep hp).2.2.2.1 h, wSep_nil]
    have hq' : tx (Int32.toNatClampNeg a.tk) = [39] := hq
    unfold bgW fiW bodyW
    simp (decide := true) only [h, hq', ↓reduceIte, or_true, true_or, or_false, false_or, List.nil_append]
  · have hp : PK a.k := by unfold PK; simp (decide := true) only [h, or_true, true_or]
    rw [e hp, (hsep hp).2.2.2.2.1 h, wSep_nil]
    unfold bgW fiW bodyW
    simp (decide := true) only [h, ↓reduceIte, or_true, true_or, or_false, false_or, List.append_nil]
    rfl
  · have hp : PK a.k := by unfold PK; simp (decide := true) only [h, or_true, true_or]
    rw [e hp, (hsep hp).2.2.2.2.2.1 h]
    unfold bgW fiW bodyW
    simp (decide := true) only [h, ↓reduceIte, or_true, true_or, or_false, false_or, List.append_nil, List.nil_append]
    rfl
  · have hp : PK a.k := by unfold PK; simp (decide := true) only [h, or_true, true_or]
    rw [e hp, (hsep hp).2.2.2.2.2.2 h]
    unfold bgW fiW bodyW
    simp (decide := true) only [h, ↓reduceIte, or_true, true_or, or_false, false_or, List.append_nil, List.nil_append]
theorem NX.n3 {a : Lb} {l : Tr Lb} (h : NX tx a l) : a.k ≠ 3 := by
  intro e
  rcases h with ⟨h | h | h | h | h | h, _⟩ | h | h | h | ⟨h, _⟩ | h | h | h <;> (rw [e] at h; exact absurd h (by decide))
/-- parts in a row -/
theorem emF_x : ∀ (t : Tr Lb) (p : Lb) (P : Tr Lb) (j d : Nat), PK p.k → XSh tx t → emF T tx t p P j d = (if j = 0 then wSep (sepX T tx p) else wTail (sepX T tx p)) (wF T tx t (fun i => needW T p P (i + j)))
  | .leaf, p, P, j, d, _, _ => by
    rw [emF, wF]
    split <;> rfl
  | .inner z a u l r, p, P, j, d, hp, ⟨h1, h2, h3⟩ => by
    have hb : bgW tx a d ++ (emF T tx l a l 0 d ++ fiW a d) = bodyW T tx a (wF T tx l (needW T a l)) := body_of h1 (fun hk => by
      have := emF_x l a l 0 d hk h2
      rw [if_pos rfl] at this
      exact this)
    have ih := emF_x r p P (j + 1) d hp h3
    rw [if_neg (by omega)] at ih
    rw [emF, wF, if_neg h1.n3, hp.tr, hp.lf, hp.ld, ih, Nat.zero_add, show (fun i => needW T p P (i + 1 + j)) = (fun i => needW T p P (i + (j + 1))) from funext (fun i => by congr 1; omega), ← br_wrap (w := bodyW T tx a (wF T tx l (needW T a l))), ← hb]
    by_cases c : j = 0
    · rw [if_pos c, if_pos c, wSep]
      simp only [List.append_assoc, List.nil_append, List.append_nil]
    · rw [if_neg c, if_neg c, wTail]
      simp only [List.append_assoc, List.append_nil]
end S
end

section
def SK (k : Int32) : Prop := k = 1 ∨ k = 10 ∨ k = 11 ∨ k = 12 ∨ k = 13 ∨ k = 14 ∨ k = 15 ∨ k = 16 ∨ k = 17 ∨ k = 18 ∨ k = 19 ∨ k = 20 ∨ k = 21
def allK (Q : Int32 → Prop) : Tr Lb → Prop
  | .leaf => True
  | .inner _ a _ _ r => Q a.k ∧ allK Q r
def IfSh : Tr Lb → Prop
  | .leaf => True
  | .inner _ b _ _ .leaf => b.k = 3
  | .inner _ e _ _ (.inner _ b _ _ r) => XK e.k ∧ b.k = 3 ∧ IfSh r
/-- the shape of a node -/
def ShN (tx : Nat → List Int32) (a : Lb) (l : Tr Lb) : Prop :=
  (NX tx a l ∧ allK XK l) ∨ (a.k = 2 ∧ allK XK l) ∨ ((a.k = 3 ∨ a.k = 0) ∧ allK SK l)
  ∨ ((a.k = 15 ∨ a.k = 16 ∨ a.k = 17) ∧ l = .leaf) ∨ ((a.k = 18 ∨ a.k = 19 ∨ a.k = 20 ∨ a.k = 21) ∧ allK XK l)
  ∨ (a.k = 10 ∧ ∃ (z1 : Nat) (a1 : Lb) (u1 : Unit) (l1 : Tr Lb) (z2 : Nat) (a2 : Lb) (u2 : Unit) (l2 : Tr Lb), l = .inner z1 a1 u1 l1 (.inner z2 a2 u2 l2 .leaf) ∧ a1.k = 2 ∧ XK a2.k)
  ∨ (a.k = 11 ∧ IfSh l ∧ 2 ≤ Tr.rt l)
  ∨ (a.k = 12 ∧ ∃ (z1 : Nat) (a1 : Lb) (u1 : Unit) (l1 : Tr Lb) (z2 : Nat) (a2 : Lb) (u2 : Unit) (l2 : Tr Lb), l = .inner z1 a1 u1 l1 (.inner z2 a2 u2 l2 .leaf) ∧ XK a1.k ∧ a2.k = 3)
  ∨ (a.k = 13 ∧ ∃ (z1 : Nat) (a1 : Lb) (u1 : Unit) (l1 : Tr Lb) (z2 : Nat) (a2 : Lb) (u2 : Unit) (l2 : Tr Lb) (z3 : Nat) (a3 : Lb) (u3 : Unit) (l3 : Tr Lb), l = .inner z1 a1 u1 l1 (.inner z2 a2 u2 l2 (.inner z3 a3 u3 l3 .leaf)) ∧ XK a1.k ∧ XK a2.k ∧ a3.k = 3)
  ∨ (a.k = 14 ∧ ∃ (z1 : Nat) (a1 : Lb) (u1 : Unit) (l1 : Tr Lb) (z2 : Nat) (a2 : Lb) (u2 : Unit) (l2 : Tr Lb), l = .inner z1 a1 u1 l1 (.inner z2 a2 u2 l2 .leaf) ∧ a1.k = 3 ∧ a2.k = 3)
  ∨ (a.k = 1 ∧ ∃ (z1 : Nat) (a1 : Lb) (u1 : Unit) (l1 : Tr Lb) (z2 : Nat) (a2 : Lb) (u2 : Unit) (l2 : Tr Lb) (z3 : Nat) (a3 : Lb) (u3 : Unit) (l3 : Tr Lb), l = .inner z1 a1 u1 l1 (.inner z2 a2 u2 l2 (.inner z3 a3 u3 l3 .leaf)) ∧ a1.k = 2 ∧ a2.k = 2 ∧ a3.k = 3)
def Sh (tx : Nat → List Int32) : Tr Lb → Prop
  | .leaf => True
  | .inner _ a _ l r => ShN tx a l ∧ Sh tx l ∧ Sh tx r
section S
variable {T : Tks} {tx : Nat → List Int32}
theorem ShN.x {a : Lb} {l : Tr Lb} (h : ShN tx a l) (hk : XK a.k) : NX tx a l ∧ allK XK l := by
  rcases h with h | ⟨h, _⟩ | ⟨h | h, _⟩ | ⟨h | h | h, _⟩ | ⟨h | h | h | h, _⟩ | ⟨h, _⟩ | ⟨h, _⟩ | ⟨h, _⟩ | ⟨h, _⟩ | ⟨h, _⟩ | ⟨h, _⟩
  · exact h
  all_goals (rw [h] at hk; exact absurd hk (by unfold XK; decide))
theorem Sh.x : ∀ {t : Tr Lb}, Sh tx t → allK XK t → XSh tx t
  | .leaf, _, _ => trivial
  | .inner z a u l r, ⟨h1, h2, h3⟩, ⟨k1, k2⟩ => by
    obtain ⟨g1, g2⟩ := h1.x k1
    exact ⟨g1, Sh.x h2 g2, Sh.x h3 k2⟩
/-- the blocks among the roots say their statements -/
def KidsOK (T : Tks) (tx : Nat → List Int32) : Tr Lb → Prop
  | .leaf => True
  | .inner _ a _ l r => (a.k = 3 → ∀ d, emF T tx l a l 0 d = (wL T tx l d).flatten) ∧ KidsOK T tx r
theorem need1 {p : Lb} {P : Tr Lb} {j : Nat} (h : SK p.k ∨ p.k = 2 ∨ p.k = 3 ∨ p.k = 0) : needW T p P j = 1 := by
  unfold needW
  unfold SK at h
  rcases h with (e | e | e | e | e | e | e | e | e | e | e | e | e) | e | e | e <;> simp (decide := true) only [e, ↓reduceIte]
/-- the text of an expression that is a part of a statement -/
def xpW (T : Tks) (tx : Nat → List Int32) (e : Lb) (l : Tr Lb) : List Int32 := wrapW (decide (rkA T e < 1)) (bodyW T tx e (wF T tx l (needW T e l)))
theorem ch_x {p e : Lb} {P le : Tr Lb} {j d : Nat} (hp : SK p.k) (hk : XK e.k) (hs : ShN tx e le) (hl : Sh tx le) (w : List Int32) : brW T p P j e 40 ++ (bgW tx e d ++ (emF T tx le e le 0 d ++ (fiW e d ++ (brW T p P j e 41 ++ w)))) = xpW T tx e le ++ w := by
  obtain ⟨h1, h2⟩ := hs.x hk
  have hb : bgW tx e d ++ (emF T tx le e le 0 d ++ fiW e d) = bodyW T tx e (wF T tx le (needW T e le)) := body_of h1 (fun hk => by
    have := emF_x (T := T) le e le 0 d hk (hl.x h2)
    rw [if_pos rfl] at this
    exact this)
  have := br_wrap (T := T) (p := p) (P := P) (j := j) (a := e) (w := bodyW T tx e (wF T tx le (needW T e le)))
  rw [need1 (Or.inl hp), ← hb] at this
  unfold xpW
  rw [← hb, ← this]
  simp only [List.append_assoc]
theorem ch_n {p e : Lb} {P le : Tr Lb} {j d : Nat} (hp : SK p.k) (hk : e.k = 2) (hs : ShN tx e le) (hl : Sh tx le) (w : List Int32) : brW T p P j e 40 ++ (bgW tx e d ++ (emF T tx le e le 0 d ++ (fiW e d ++ (brW T p P j e 41 ++ w)))) = wSep [44, 32] (wF T tx le (fun _ => 1)) ++ w := by
  have hx : allK XK le := by
    rcases hs with h | ⟨_, h⟩ | ⟨h | h, _⟩ | ⟨h | h | h, _⟩ | ⟨h | h | h | h, _⟩ | ⟨h, _⟩ | ⟨h, _⟩ | ⟨h, _⟩ | ⟨h, _⟩ | ⟨h, _⟩ | ⟨h, _⟩
    · exact h.2
    · exact h
    all_goals (rw [h] at hk; exact absurd hk (by decide))
  have hr : rkA T e = 10 := by unfold rkA; simp (decide := true) only [hk, ↓reduceIte]
  have hb : ∀ c, brW T p P j e c = [] := fun c => by unfold brW; rw [need1 (Or.inl hp), hr]; rfl
  have h1 : bgW tx e d = [] := by unfold bgW; simp (decide := true) only [hk, ↓reduceIte, or_false]
  have h2 : fiW e d = [] := by unfold fiW; simp (decide := true) only [hk, ↓reduceIte, or_false]
  have h3 := emF_x (T := T) le e le 0 d (Or.inl hk) (hl.x hx)
  rw [if_pos rfl, show sepX T tx e = [44, 32] by unfold sepX; simp (decide := true) only [hk, ↓reduceIte, true_or], show (fun i => needW T e le (i + 0)) = (fun _ => 1) from funext (fun i => need1 (Or.inr (Or.inl hk)))] at h3
  rw [hb, hb, h1, h2, h3, List.nil_append, List.nil_append, List.nil_append, List.nil_append]
theorem ch_b {p e : Lb} {P le : Tr Lb} {j d : Nat} (hp : SK p.k) (hk : e.k = 3) (he : ∀ d, emF T tx le e le 0 d = (wL T tx le d).flatten) (w : List Int32) : brW T p P j e 40 ++ (bgW tx e d ++ (emF T tx le e le 0 (d + 1) ++ (fiW e d ++ (brW T p P j e 41 ++ w)))) = (wL T tx le (d + 1)).flatten ++ w := by
  have hr : rkA T e = 10 := by unfold rkA; simp (decide := true) only [hk, ↓reduceIte]
  have hb : ∀ c, brW T p P j e c = [] := fun c => by unfold brW; rw [need1 (Or.inl hp), hr]; rfl
  have h1 : bgW tx e d = [] := by unfold bgW; simp (decide := true) only [hk, ↓reduceIte, or_false]
  have h2 : fiW e d = [] := by unfold fiW; simp (decide := true) only [hk, ↓reduceIte, or_false]
  rw [hb, hb, h1, h2, he, List.nil_append, List.nil_append, List.nil_append, List.nil_append]
theorem XK.n3 {k : Int32} (h : XK k) : k ≠ 3 := by
  intro e
  rw [e] at h
  exact absurd h (by unfold XK; decide)
end S
end

section
theorem kw10 : kwW 10 = [105, 102] := rfl
theorem kw11 : kwW 11 = [101, 108, 115, 101, 105, 102] := rfl
theorem kw12 : kwW 12 = [101, 108, 115, 101] := rfl
theorem kw13 : kwW 13 = [101, 110, 100] := rfl
theorem kw14 : kwW 14 = [119, 104, 105, 108, 101] := rfl
theorem kw15 : kwW 15 = [102, 111, 114] := rfl
theorem kw19 : kwW 19 = [102, 117, 110, 99, 116, 105, 111, 110] := rfl
theorem kw22 : kwW 22 = [116, 114, 121] := rfl
theorem kw23 : kwW 23 = [99, 97, 116, 99, 104] := rfl
section S
variable {T : Tks} {tx : Nat → List Int32}
theorem emF_if {a : Lb} {P : Tr Lb} {d : Nat} (ha : a.k = 11) : ∀ (t : Tr Lb) (j : Nat), IfSh t → Sh tx t → KidsOK T tx t → Tr.rt t % 2 = Tr.rt P % 2 → (j = 0 → 2 ≤ Tr.rt t) → emF T tx t a P j d = elW d (if j = 0 then 10 else 11) (wF T tx t (fun _ => 1)) (wL T tx t (d + 1))
  | .leaf, j, _, _, _, _, _ => rfl
  | .inner z b u lb .leaf, j, h, _, ⟨hb, _⟩, hp, hj => by
    have h : b.k = 3 := h
    have hj0 : j ≠ 0 := fun e => by
      have := hj e
      simp only [Tr.rt] at this
      omega
    have hs : SK a.k := by unfold SK; simp (decide := true) only [ha, or_true, true_or]
    have hP : Tr.rt P % 2 = 1 := by rw [← hp]; rfl
    have hld : ldW T tx a P b .leaf d = indW d ++ [101, 108, 115, 101, 10] := by
      unfold ldW
      simp (decide := true) only [ha, h, hP, ↓reduceIte, or_false, Tr.rt, and_self]
    have htr : trW tx (decide (j = 0)) a b lb = [] := by
      unfold trW
      simp (decide := true) only [ha, h, ↓reduceIte, true_or]
    have hw := ch_b (T := T) (tx := tx) (P := P) (j := j) (d := d) hs h (hb h) []
    rw [emF, emF, if_neg hj0, if_neg hj0, if_pos h, hld, htr, wF, wF, wL, wL, if_pos h]
    show _ = wordW d 12 ++ (wL T tx lb (d + 1)).flatten
    simp only [List.append_nil] at hw
    rw [← hw]
    unfold wordW
    rw [kw12, sW82]
    simp only [List.append_assoc, List.cons_append, List.nil_append, List.append_nil]
  | .inner z e u le (.inner z2 b u2 lb r), j, ⟨h1, h2, h3⟩, ⟨s1, s2, s3, s4, s5⟩, ⟨_, hb, hk⟩, hp, hj => by
    have hs : SK a.k := by unfold SK; simp (decide := true) only [ha, or_true, true_or]
    have hrt : Tr.rt (.inner z e u le (.inner z2 b u2 lb r)) = Tr.rt r + 2 := rfl
    rw [hrt] at hp
    have ih := emF_if (P := P) (d := d) ha r (j + 2) h3 s5 hk (by omega) (fun e => by omega)
    rw [if_neg (by omega)] at ih
    have hld2 : ldW T tx a P b r d = [] := by
      unfold ldW
      simp (decide := true) only [ha, h2, ↓reduceIte, or_false]
      rw [if_neg]
      intro y
      omega
    have htr2 : ∀ f, trW tx f a b lb = [] := fun f => by
      unfold trW
      simp (decide := true) only [ha, h2, ↓reduceIte, true_or]
    have htr1 : ∀ f, trW tx f a e le = [41, 10] := fun f => by
      unfold trW
      simp (decide := true) only [ha, h1.n3, ↓reduceIte, true_or]
    have hld1 : ∀ r', ldW T tx a P e r' d = indW d ++ [101, 108, 115, 101, 105, 102, 32, 40] := fun r' => by
      unfold ldW
      simp (decide := true) only [ha, h1.n3, ↓reduceIte, or_false]
    have hlf1 : lfW a le d = indW d ++ [105, 102, 32, 40] := by
      unfold lfW
      simp (decide := true) only [ha, ↓reduceIte]
    have w1 := fun w => ch_x (T := T) (tx := tx) (P := P) (j := j) (d := d) hs h1 s1 s2 w
    have w2 := fun w => ch_b (T := T) (tx := tx) (P := P) (j := j + 1) (d := d) hs h2 (hb h2) w
    rw [emF, emF, if_neg (show ¬ j + 1 = 0 by omega), if_neg h1.n3, if_pos h2, hld2, htr2, htr1, hld1, hlf1, show j + 1 + 1 = j + 2 from rfl, ih, wF, wF, wL, wL, if_pos h2]
    have hR : elW d (if j = 0 then 10 else 11) (xpW T tx e le :: wrapW (decide (rkA T b < 1)) (bodyW T tx b (wF T tx lb (needW T b lb))) :: wF T tx r (fun _ => 1)) ((if e.k = 3 then (wL T tx le (d + 1)).flatten else stW T tx e (d + 1) le (wF T tx le (fun _ => 1)) (wL T tx le (d + 1 + 1))) :: (wL T tx lb (d + 1)).flatten :: wL T tx r (d + 1)) = headW d (if j = 0 then 10 else 11) ([40] ++ xpW T tx e le ++ [41]) ++ ((wL T tx lb (d + 1)).flatten ++ elW d 11 (wF T tx r (fun _ => 1)) (wL T tx r (d + 1))) := rfl
    refine Eq.trans ?_ hR.symm
    simp only [List.append_assoc, List.nil_append, w1, w2]
    by_cases c : j = 0
    · rw [if_pos c, if_pos c]
      unfold headW
      rw [kw10, sW82, sW83]
      simp only [List.append_assoc, List.cons_append, List.nil_append, w1, w2]
    · rw [if_neg c, if_neg c]
      unfold headW
      rw [kw11, sW82, sW83]
      simp only [List.append_assoc, List.cons_append, List.nil_append, w1, w2]
end S
end

section
section S
variable {T : Tks} {tx : Nat → List Int32}
/-- a statement's node says its text -/
theorem st_of {a : Lb} {l : Tr Lb} {d : Nat} (hk : SK a.k) (hs : ShN tx a l) (hl : Sh tx l) (hK : KidsOK T tx l) : bgW tx a d ++ (emF T tx l a l 0 d ++ fiW a d) = stW T tx a d l (wF T tx l (fun _ => 1)) (wL T tx l (d + 1)) := by
  have hn : ∀ {P : Tr Lb}, (fun i => needW T a P (i + 0)) = (fun _ => 1) := fun {P} => funext (fun i => need1 (Or.inl hk))
  rcases hs with h | ⟨h, _⟩ | ⟨h, _⟩ | ⟨h, hl0⟩ | ⟨h, hx⟩ | ⟨h, z1, a1, u1, l1, z2, a2, u2, l2, e, k1, k2⟩ | ⟨h, hi, hi2⟩ | ⟨h, z1, a1, u1, l1, z2, a2, u2, l2, e, k1, k2⟩ | ⟨h, z1, a1, u1, l1, z2, a2, u2, l2, z3, a3, u3, l3, e, k1, k2, k3⟩ | ⟨h, z1, a1, u1, l1, z2, a2, u2, l2, e, k1, k2⟩ | ⟨h, z1, a1, u1, l1, z2, a2, u2, l2, z3, a3, u3, l3, e, k1, k2, k3⟩
  · exfalso
    rcases h.1 with ⟨h | h | h | h | h | h, _⟩ | h | h | h | ⟨h, _⟩ | h | h | h <;> (rw [h] at hk; exact absurd hk (by unfold SK; decide))
  · rw [h] at hk; exact absurd hk (by unfold SK; decide)
  · rcases h with h | h <;> (rw [h] at hk; exact absurd hk (by unfold SK; decide))
  · subst hl0
    have hst : stW T tx a d .leaf (wF T tx .leaf (fun _ => 1)) (wL T tx .leaf (d + 1)) = lineW d (tkW tx a) := by
      unfold stW
      rw [if_pos h]; rfl
    rw [hst, show emF T tx .leaf a .leaf 0 d = [] from rfl]
    unfold lineW
    rw [sW84]
    rcases h with h | h | h
    all_goals
      have h1 : bgW tx a d = indW d ++ tkW tx a := by unfold bgW; simp (decide := true) only [h, ↓reduceIte, or_true, true_or, or_false, false_or]
      have h2 : fiW a d = [59, 10] := by unfold fiW; simp (decide := true) only [h, ↓reduceIte, or_true, true_or, or_false, false_or]
      rw [h1, h2]
      simp only [List.append_assoc, List.nil_append]
  · have hp : PK a.k := by
      unfold PK
      rcases h with h | h | h | h <;> simp (decide := true) only [h, or_true, true_or]
    have he := emF_x (T := T) l a l 0 d hp (hl.x hx)
    rw [if_pos rfl, hn] at he
    rw [he]
    rcases h with h | h | h | h
    · have h1 : bgW tx a d = indW d ++ (tkW tx a ++ [32]) := by unfold bgW; simp (decide := true) only [h, ↓reduceIte, or_true, true_or, or_false, false_or]
      have h2 : fiW a d = [59, 10] := by unfold fiW; simp (decide := true) only [h, ↓reduceIte, or_true, true_or, or_false, false_or]
      have h3 : sepX T tx a = [44, 32] := by unfold sepX; simp (decide := true) only [h, ↓reduceIte, or_true, true_or, or_false, false_or]
      unfold stW lineW
      simp (decide := true) only [h, ↓reduceIte, or_true, true_or, or_false, false_or]
      rw [h1, h2, h3, sW84, sW83]
      simp only [List.append_assoc]
      rfl
    · have h1 : bgW tx a d = indW d ++ (tkW tx a ++ [32]) := by unfold bgW; simp (decide := true) only [h, ↓reduceIte, or_true, true_or, or_false, false_or]
      have h2 : fiW a d = [59, 10] := by unfold fiW; simp (decide := true) only [h, ↓reduceIte, or_true, true_or, or_false, false_or]
      have h3 : sepX T tx a = [44, 32] := by unfold sepX; simp (decide := true) only [h, ↓reduceIte, or_true, true_or, or_false, false_or]
      unfold stW lineW
      simp (decide := true) only [h, ↓reduceIte, or_true, true_or, or_false, false_or]
      rw [h1, h2, h3, sW84, sW83]
      simp only [List.append_assoc]
      rfl
    · have h1 : bgW tx a d = indW d := by unfold bgW; simp (decide := true) only [h, ↓reduceIte, or_true, true_or, or_false, false_or]
      have h2 : fiW a d = [59, 10] := by unfold fiW; simp (decide := true) only [h, ↓reduceIte, or_true, true_or, or_false, false_or]
      have h3 : sepX T tx a = [] := by unfold sepX; simp (decide := true) only [h, ↓reduceIte, or_true, true_or, or_false, false_or]
      unfold stW lineW
      simp (decide := true) only [h, ↓reduceIte, or_true, true_or, or_false, false_or]
      rw [h1, h2, h3, sW84]
      simp only [List.append_assoc]
    · have h1 : bgW tx a d = indW d := by unfold bgW; simp (decide := true) only [h, ↓reduceIte, or_true, true_or, or_false, false_or]
      have h2 : fiW a d = [59, 10] := by unfold fiW; simp (decide := true) only [h, ↓reduceIte, or_true, true_or, or_false, false_or]
      have h3 : sepX T tx a = [32, 61, 32] := by unfold sepX; simp (decide := true) only [h, ↓reduceIte, or_true, true_or, or_false, false_or]
      unfold stW lineW
      simp (decide := true) only [h, ↓reduceIte, or_true, true_or, or_false, false_or]
      rw [h1, h2, h3, sW84]
      simp only [List.append_assoc]
  · subst e
    obtain ⟨s1, s2, s3, s4, _⟩ := hl
    have n1 : a1.k ≠ 3 := by rw [k1]; decide
    have h1 : bgW tx a d = indW d := by unfold bgW; simp (decide := true) only [h, ↓reduceIte, or_true, true_or, or_false, false_or]
    have h2 : fiW a d = [59, 10] := by unfold fiW; simp (decide := true) only [h, ↓reduceIte, or_true, true_or, or_false, false_or]
    have h3 : lfW a l1 d = [91] := by unfold lfW; simp (decide := true) only [h, ↓reduceIte]
    have h4 : ∀ P, ldW T tx a P a2 .leaf d = [] := fun P => by unfold ldW; simp (decide := true) only [h, ↓reduceIte, or_false]
    have h5 : trW tx (decide ((0 : Nat) = 0)) a a1 l1 = [93, 32, 61, 32] := by unfold trW; simp (decide := true) only [h, ↓reduceIte]
    have h6 : trW tx (decide ((0 : Nat) + 1 = 0)) a a2 l2 = [] := by unfold trW; simp (decide := true) only [h, ↓reduceIte]
    have w1 := fun w => ch_n (T := T) (tx := tx) (P := .inner z1 a1 u1 l1 (.inner z2 a2 u2 l2 .leaf)) (j := 0) (d := d) hk k1 s1 s2 w
    have w2 := fun w => ch_x (T := T) (tx := tx) (P := .inner z1 a1 u1 l1 (.inner z2 a2 u2 l2 .leaf)) (j := 0 + 1) (d := d) hk k2 s3 s4 w
    have hst : stW T tx a d (.inner z1 a1 u1 l1 (.inner z2 a2 u2 l2 .leaf)) (wF T tx (.inner z1 a1 u1 l1 (.inner z2 a2 u2 l2 .leaf)) (fun _ => 1)) (wL T tx (.inner z1 a1 u1 l1 (.inner z2 a2 u2 l2 .leaf)) (d + 1)) = lineW d ([91] ++ wSep [44, 32] (wF T tx l1 (fun _ => 1)) ++ [93, 32, 61, 32] ++ xpW T tx a2 l2) := by
      unfold stW
      simp (decide := true) only [h, ↓reduceIte, or_false]
      rfl
    rw [hst, h1, h2, emF, emF, emF, if_pos rfl, if_neg (show ¬ (0 : Nat) + 1 = 0 by decide), if_neg n1, if_neg k2.n3, h3, h4, h5, h6]
    unfold lineW
    rw [sW84]
    simp only [List.append_assoc, List.cons_append, List.nil_append, List.append_nil, w1, w2]
  · have hI := emF_if (T := T) (P := l) (d := d) h l 0 hi hl hK rfl (fun _ => hi2)
    have h1 : bgW tx a d = [] := by unfold bgW; simp (decide := true) only [h, ↓reduceIte, or_true, true_or, or_false, false_or]
    have h2 : fiW a d = indW d ++ [101, 110, 100, 10] := by unfold fiW; simp (decide := true) only [h, ↓reduceIte, or_true, true_or, or_false, false_or]
    rw [hI, h1, h2, if_pos rfl]
    unfold stW wordW
    simp (decide := true) only [h, ↓reduceIte, or_false]
    rw [kw13, sW82]
    simp only [List.append_assoc, List.cons_append, List.nil_append]
  · subst e
    obtain ⟨s1, s2, s3, s4, _⟩ := hl
    obtain ⟨_, b2, _⟩ := hK
    have h1 : bgW tx a d = [] := by unfold bgW; simp (decide := true) only [h, ↓reduceIte, or_true, true_or, or_false, false_or]
    have h2 : fiW a d = indW d ++ [101, 110, 100, 10] := by unfold fiW; simp (decide := true) only [h, ↓reduceIte, or_true, true_or, or_false, false_or]
    have h3 : lfW a l1 d = indW d ++ [119, 104, 105, 108, 101, 32, 40] := by unfold lfW; simp (decide := true) only [h, ↓reduceIte]
    have h4 : ∀ P, ldW T tx a P a2 .leaf d = [] := fun P => by unfold ldW; simp (decide := true) only [h, ↓reduceIte, or_false]
    have h5 : ∀ f, trW tx f a a1 l1 = [41, 10] := fun f => by unfold trW; simp (decide := true) only [h, k1.n3, ↓reduceIte, or_true]
    have h6 : ∀ f, trW tx f a a2 l2 = [] := fun f => by unfold trW; simp (decide := true) only [h, k2, ↓reduceIte, or_true]
    have w1 := fun w => ch_x (T := T) (tx := tx) (P := .inner z1 a1 u1 l1 (.inner z2 a2 u2 l2 .leaf)) (j := 0) (d := d) hk k1 s1 s2 w
    have w2 := fun w => ch_b (T := T) (tx := tx) (P := .inner z1 a1 u1 l1 (.inner z2 a2 u2 l2 .leaf)) (j := 0 + 1) (d := d) hk k2 (b2 k2) w
    have hbs : (wL T tx (.inner z1 a1 u1 l1 (.inner z2 a2 u2 l2 .leaf)) (d + 1)).getD 1 [] = (wL T tx l2 (d + 1)).flatten := by
      rw [wL, wL, wL, if_pos k2]; rfl
    have hst : stW T tx a d (.inner z1 a1 u1 l1 (.inner z2 a2 u2 l2 .leaf)) (wF T tx (.inner z1 a1 u1 l1 (.inner z2 a2 u2 l2 .leaf)) (fun _ => 1)) (wL T tx (.inner z1 a1 u1 l1 (.inner z2 a2 u2 l2 .leaf)) (d + 1)) = headW d 14 ([40] ++ xpW T tx a1 l1 ++ [41]) ++ ((wL T tx l2 (d + 1)).flatten ++ wordW d 13) := by
      rw [← hbs]
      unfold stW
      simp (decide := true) only [h, ↓reduceIte, or_false]
      rfl
    rw [hst, h1, h2, emF, emF, emF, if_pos rfl, if_neg (show ¬ (0 : Nat) + 1 = 0 by decide), if_neg k1.n3, if_pos k2, h3, h4, h5, h6]
    unfold headW wordW
    rw [kw13, kw14, sW82, sW83]
    simp only [List.append_assoc, List.cons_append, List.nil_append, List.append_nil, w1, w2]
  · subst e
    obtain ⟨s1, s2, s3, s4, s5, s6, _⟩ := hl
    obtain ⟨_, _, b3, _⟩ := hK
    have h1 : bgW tx a d = [] := by unfold bgW; simp (decide := true) only [h, ↓reduceIte, or_true, true_or, or_false, false_or]
    have h2 : fiW a d = indW d ++ [101, 110, 100, 10] := by unfold fiW; simp (decide := true) only [h, ↓reduceIte, or_true, true_or, or_false, false_or]
    have h3 : lfW a l1 d = indW d ++ [102, 111, 114, 32, 40] := by unfold lfW; simp (decide := true) only [h, ↓reduceIte]
    have h4 : ∀ P b r, ldW T tx a P b r d = [] := fun P b r => by unfold ldW; simp (decide := true) only [h, ↓reduceIte, or_false]
    have h5 : trW tx (decide ((0 : Nat) = 0)) a a1 l1 = [32, 61, 32] := by unfold trW; simp (decide := true) only [h, ↓reduceIte]
    have h6 : trW tx (decide ((0 : Nat) + 1 = 0)) a a2 l2 = [41, 10] := by unfold trW; simp (decide := true) only [h, k2.n3, ↓reduceIte]
    have h7 : trW tx (decide ((0 : Nat) + 1 + 1 = 0)) a a3 l3 = [] := by unfold trW; simp (decide := true) only [h, k3, ↓reduceIte]
    have w1 := fun w => ch_x (T := T) (tx := tx) (P := .inner z1 a1 u1 l1 (.inner z2 a2 u2 l2 (.inner z3 a3 u3 l3 .leaf))) (j := 0) (d := d) hk k1 s1 s2 w
    have w2 := fun w => ch_x (T := T) (tx := tx) (P := .inner z1 a1 u1 l1 (.inner z2 a2 u2 l2 (.inner z3 a3 u3 l3 .leaf))) (j := 0 + 1) (d := d) hk k2 s3 s4 w
    have w3 := fun w => ch_b (T := T) (tx := tx) (P := .inner z1 a1 u1 l1 (.inner z2 a2 u2 l2 (.inner z3 a3 u3 l3 .leaf))) (j := 0 + 1 + 1) (d := d) hk k3 (b3 k3) w
    have hbs : (wL T tx (.inner z1 a1 u1 l1 (.inner z2 a2 u2 l2 (.inner z3 a3 u3 l3 .leaf))) (d + 1)).getD 2 [] = (wL T tx l3 (d + 1)).flatten := by
      rw [wL, wL, wL, wL, if_pos k3]; rfl
    have hst : stW T tx a d (.inner z1 a1 u1 l1 (.inner z2 a2 u2 l2 (.inner z3 a3 u3 l3 .leaf))) (wF T tx (.inner z1 a1 u1 l1 (.inner z2 a2 u2 l2 (.inner z3 a3 u3 l3 .leaf))) (fun _ => 1)) (wL T tx (.inner z1 a1 u1 l1 (.inner z2 a2 u2 l2 (.inner z3 a3 u3 l3 .leaf))) (d + 1)) = headW d 15 ([40] ++ xpW T tx a1 l1 ++ [32, 61, 32] ++ xpW T tx a2 l2 ++ [41]) ++ ((wL T tx l3 (d + 1)).flatten ++ wordW d 13) := by
      rw [← hbs]
      unfold stW
      simp (decide := true) only [h, ↓reduceIte, or_false]
      rfl
    rw [hst, h1, h2, emF, emF, emF, emF, if_pos rfl, if_neg (show ¬ (0 : Nat) + 1 = 0 by decide), if_neg (show ¬ (0 : Nat) + 1 + 1 = 0 by decide), if_neg k1.n3, if_neg k2.n3, if_pos k3, h3, h4, h4, h5, h6, h7]
    unfold headW wordW
    rw [kw13, kw15, sW82, sW83]
    simp only [List.append_assoc, List.cons_append, List.nil_append, List.append_nil, w1, w2, w3]
  · subst e
    obtain ⟨b1, b2, _⟩ := hK
    have h1 : bgW tx a d = [] := by unfold bgW; simp (decide := true) only [h, ↓reduceIte, or_true, true_or, or_false, false_or]
    have h2 : fiW a d = indW d ++ [101, 110, 100, 10] := by unfold fiW; simp (decide := true) only [h, ↓reduceIte, or_true, true_or, or_false, false_or]
    have h3 : lfW a l1 d = indW d ++ [116, 114, 121, 10] := by unfold lfW; simp (decide := true) only [h, ↓reduceIte]
    have h4 : ∀ P, ldW T tx a P a2 .leaf d = indW d ++ [99, 97, 116, 99, 104, 10] := fun P => by unfold ldW; simp (decide := true) only [h, ↓reduceIte, or_false]
    have h5 : ∀ f b r, trW tx f a b r = [] := fun f b r => by unfold trW; simp (decide := true) only [h, ↓reduceIte, or_false]
    have w1 := fun w => ch_b (T := T) (tx := tx) (P := .inner z1 a1 u1 l1 (.inner z2 a2 u2 l2 .leaf)) (j := 0) (d := d) hk k1 (b1 k1) w
    have w2 := fun w => ch_b (T := T) (tx := tx) (P := .inner z1 a1 u1 l1 (.inner z2 a2 u2 l2 .leaf)) (j := 0 + 1) (d := d) hk k2 (b2 k2) w
    have hbs0 : (wL T tx (.inner z1 a1 u1 l1 (.inner z2 a2 u2 l2 .leaf)) (d + 1)).getD 0 [] = (wL T tx l1 (d + 1)).flatten := by
      rw [wL, wL, wL, if_pos k1]; rfl
    have hbs : (wL T tx (.inner z1 a1 u1 l1 (.inner z2 a2 u2 l2 .leaf)) (d + 1)).getD 1 [] = (wL T tx l2 (d + 1)).flatten := by
      rw [wL, wL, wL, if_pos k2]; rfl
    have hst : stW T tx a d (.inner z1 a1 u1 l1 (.inner z2 a2 u2 l2 .leaf)) (wF T tx (.inner z1 a1 u1 l1 (.inner z2 a2 u2 l2 .leaf)) (fun _ => 1)) (wL T tx (.inner z1 a1 u1 l1 (.inner z2 a2 u2 l2 .leaf)) (d + 1)) = wordW d 22 ++ ((wL T tx l1 (d + 1)).flatten ++ (wordW d 23 ++ ((wL T tx l2 (d + 1)).flatten ++ wordW d 13))) := by
      rw [← hbs, ← hbs0]
      unfold stW
      simp (decide := true) only [h, ↓reduceIte, or_false]
    rw [hst, h1, h2, emF, emF, emF, if_pos rfl, if_neg (show ¬ (0 : Nat) + 1 = 0 by decide), if_pos k1, if_pos k2, h3, h4, h5, h5]
    unfold wordW
    rw [kw13, kw22, kw23, sW82]
    simp only [List.append_assoc, List.cons_append, List.nil_append, List.append_nil, w1, w2]
  · subst e
    obtain ⟨s1, s2, s3, s4, _⟩ := hl
    obtain ⟨_, _, b3, _⟩ := hK
    have n1 : a1.k ≠ 3 := by rw [k1]; decide
    have n2 : a2.k ≠ 3 := by rw [k2]; decide
    have h1 : bgW tx a d = indW d ++ [102, 117, 110, 99, 116, 105, 111, 110, 32] := by unfold bgW; simp (decide := true) only [h, ↓reduceIte]
    have h2 : fiW a d = indW d ++ [101, 110, 100, 10] := by unfold fiW; simp (decide := true) only [h, ↓reduceIte, or_true, true_or, or_false, false_or]
    have h3 : lfW a l1 d = if Tr.rt l1 ≤ 1 then [] else [91] := by unfold lfW; simp (decide := true) only [h, ↓reduceIte]
    have h4 : ∀ P b r, ldW T tx a P b r d = [] := fun P b r => by unfold ldW; simp (decide := true) only [h, ↓reduceIte, or_false]
    have h5 : trW tx (decide ((0 : Nat) = 0)) a a1 l1 = (if Tr.rt l1 = 0 then [] else if Tr.rt l1 = 1 then [32, 61, 32] else [93, 32, 61, 32]) ++ (tkW tx a ++ [40]) := by unfold trW; simp (decide := true) only [h, ↓reduceIte]
    have h6 : trW tx (decide ((0 : Nat) + 1 = 0)) a a2 l2 = [41, 10] := by unfold trW; simp (decide := true) only [h, k2, ↓reduceIte]
    have h7 : trW tx (decide ((0 : Nat) + 1 + 1 = 0)) a a3 l3 = [] := by unfold trW; simp (decide := true) only [h, k3, ↓reduceIte]
    have w1 := fun w => ch_n (T := T) (tx := tx) (P := .inner z1 a1 u1 l1 (.inner z2 a2 u2 l2 (.inner z3 a3 u3 l3 .leaf))) (j := 0) (d := d) hk k1 s1 s2 w
    have w2 := fun w => ch_n (T := T) (tx := tx) (P := .inner z1 a1 u1 l1 (.inner z2 a2 u2 l2 (.inner z3 a3 u3 l3 .leaf))) (j := 0 + 1) (d := d) hk k2 s3 s4 w
    have w3 := fun w => ch_b (T := T) (tx := tx) (P := .inner z1 a1 u1 l1 (.inner z2 a2 u2 l2 (.inner z3 a3 u3 l3 .leaf))) (j := 0 + 1 + 1) (d := d) hk k3 (b3 k3) w
    have hbs : (wL T tx (.inner z1 a1 u1 l1 (.inner z2 a2 u2 l2 (.inner z3 a3 u3 l3 .leaf))) (d + 1)).getD 2 [] = (wL T tx l3 (d + 1)).flatten := by
      rw [wL, wL, wL, wL, if_pos k3]; rfl
    have hst : stW T tx a d (.inner z1 a1 u1 l1 (.inner z2 a2 u2 l2 (.inner z3 a3 u3 l3 .leaf))) (wF T tx (.inner z1 a1 u1 l1 (.inner z2 a2 u2 l2 (.inner z3 a3 u3 l3 .leaf))) (fun _ => 1)) (wL T tx (.inner z1 a1 u1 l1 (.inner z2 a2 u2 l2 (.inner z3 a3 u3 l3 .leaf))) (d + 1)) = headW d 19 (resW (wF T tx l1 (fun _ => 1)) ++ tkW tx a ++ [40] ++ wSep [44, 32] (wF T tx l2 (fun _ => 1)) ++ [41]) ++ ((wL T tx l3 (d + 1)).flatten ++ wordW d 13) := by
      rw [← hbs]
      unfold stW
      simp (decide := true) only [h, ↓reduceIte, or_false]
      rfl
    have hres : resW (wF T tx l1 (fun _ => 1)) = (if Tr.rt l1 ≤ 1 then [] else [91]) ++ (wSep [44, 32] (wF T tx l1 (fun _ => 1)) ++ (if Tr.rt l1 = 0 then [] else if Tr.rt l1 = 1 then [32, 61, 32] else [93, 32, 61, 32])) := by
      unfold resW
      rw [wF_len]
      by_cases c0 : Tr.rt l1 = 0
      · have := Tr.rt0 c0
        subst this
        rfl
      · rw [if_neg c0, if_neg c0]
        by_cases c1 : Tr.rt l1 = 1
        · rw [if_pos c1, if_pos c1, if_pos (by omega), List.nil_append]
        · rw [if_neg c1, if_neg c1, if_neg (by omega), List.append_assoc]
    rw [hst, hres, h1, h2, emF, emF, emF, emF, if_pos rfl, if_neg (show ¬ (0 : Nat) + 1 = 0 by decide), if_neg (show ¬ (0 : Nat) + 1 + 1 = 0 by decide), if_neg n1, if_neg n2, if_pos k3, h3, h4, h4, h5, h6, h7]
    unfold headW wordW
    rw [kw13, kw19, sW82, sW83]
    simp only [List.append_assoc, List.cons_append, List.nil_append, List.append_nil, w1, w2, w3]
/-- **what is written of statements is their text** -/
theorem emF_s : ∀ (t : Tr Lb), Sh tx t → KidsOK T tx t ∧ (allK SK t → ∀ (p : Lb) (P : Tr Lb) (j d : Nat), p.k = 3 ∨ p.k = 0 → emF T tx t p P j d = (wL T tx t d).flatten)
  | .leaf, _ => ⟨trivial, fun _ _ _ _ _ _ => rfl⟩
  | .inner z a u l r, ⟨h1, h2, h3⟩ => by
    obtain ⟨i1, i2⟩ := emF_s l h2
    obtain ⟨j1, j2⟩ := emF_s r h3
    refine ⟨⟨fun hk d => ?_, j1⟩, fun ⟨k1, k2⟩ p P j d hp => ?_⟩
    · refine i2 ?_ a l 0 d (Or.inl hk)
      rcases h1 with h | ⟨h, _⟩ | ⟨_, h⟩ | ⟨h | h | h, _⟩ | ⟨h | h | h | h, _⟩ | ⟨h, _⟩ | ⟨h, _⟩ | ⟨h, _⟩ | ⟨h, _⟩ | ⟨h, _⟩ | ⟨h, _⟩
      · exact absurd hk h.1.n3
      · rw [h] at hk; exact absurd hk (by decide)
      · exact h
      all_goals (rw [h] at hk; exact absurd hk (by decide))
    · have hn3 : a.k ≠ 3 := fun e => by rw [e] at k1; exact absurd k1 (by unfold SK; decide)
      have hst := st_of (T := T) (d := d) k1 h1 h2 i1
      have hr : rkA T a = 10 := by
        unfold rkA
        unfold SK at k1
        rcases k1 with e | e | e | e | e | e | e | e | e | e | e | e | e <;> simp (decide := true) only [e, ↓reduceIte]
      have hb : ∀ c, brW T p P j a c = [] := fun c => by
        unfold brW
        rw [need1 (Or.inr (Or.inr hp)), hr]; rfl
      have hlf : lfW p l d = [] := by unfold lfW; rcases hp with e | e <;> simp (decide := true) only [e, ↓reduceIte]
      have hld : ldW T tx p P a r d = [] := by unfold ldW; rcases hp with e | e <;> simp (decide := true) only [e, ↓reduceIte, or_false]
      have htr : ∀ f, trW tx f p a l = [] := fun f => by unfold trW; rcases hp with e | e <;> simp (decide := true) only [e, ↓reduceIte, or_false]
      rw [emF, wL, if_neg hn3, if_neg hn3, List.flatten_cons, hb, hb, hlf, hld, htr, ← j2 k2 p P (j + 1) d hp, ← hst]
      by_cases c : j = 0
      · rw [if_pos c]
        simp only [List.append_assoc, List.nil_append, List.append_nil]
      · rw [if_neg c]
        simp only [List.append_assoc, List.nil_append, List.append_nil]
end S
end
