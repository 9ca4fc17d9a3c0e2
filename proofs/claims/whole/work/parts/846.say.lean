section
/-! what the tokens say, and the text of a tree -/
def eOb (k : Nat) : Bool := decide (k = 2) || decide (k = 3) || decide (k = 4) || decide (k = 13) || decide (k = 51) || decide (k = 53) || decide (k = 48)
theorem eOb_iff (k : Nat) : eOb k = true ↔ eO k := by
  unfold eOb eO
  simp only [Bool.or_eq_true, decide_eq_true_eq]
  omega
/-- an operator that stands between blanks, in a line that begins at token p -/
def bopB (T : Tks) (p i : Nat) : Bool := decide (0 < rkM (T.tkd i)) && decide (rkM (T.tkd i) < 8) && decide (T.tkd i ≠ 38) && decide (p < i) && eOb (T.tkd (i - 1))
theorem bopB_iff (T : Tks) (p i : Nat) : bopB T p i = true ↔ 0 < rkM (T.tkd i) ∧ rkM (T.tkd i) < 8 ∧ T.tkd i ≠ 38 ∧ p < i ∧ eO (T.tkd (i - 1)) := by
  unfold bopB
  simp only [Bool.and_eq_true, decide_eq_true_eq, eOb_iff]
  constructor
  · rintro ⟨⟨⟨⟨h1, h2⟩, h3⟩, h4⟩, h5⟩
    exact ⟨h1, h2, h3, h4, h5⟩
  · rintro ⟨h1, h2, h3, h4, h5⟩
    exact ⟨⟨⟨⟨h1, h2⟩, h3⟩, h4⟩, h5⟩
def spB (T : Tks) (p i : Nat) : List Int32 := if bopB T p i = true ∨ T.tkd i = 56 then [32] else []
def spA (T : Tks) (p i : Nat) : List Int32 := if bopB T p i = true ∨ T.tkd i = 56 ∨ T.tkd i = 54 ∨ T.tkd i = 55 then [32] else []
def sayT (T : Tks) (tx : Nat → List Int32) (p : Nat) (mk ex : Nat → Nat) (i : Nat) : List Int32 := (if 2 ≤ mk i then [40] else []) ++ (if mk i % 2 = 0 then spB T p i ++ tx i ++ spA T p i else []) ++ List.replicate (ex i) 41
def sayN (T : Tks) (tx : Nat → List Int32) (p : Nat) (mk ex : Nat → Nat) : Nat → Nat → List Int32
  | _, 0 => []
  | a, n + 1 => sayT T tx p mk ex a ++ sayN T tx p mk ex (a + 1) n
/-- what the tokens from a to b - 1 say -/
def Say (T : Tks) (tx : Nat → List Int32) (p : Nat) (mk ex : Nat → Nat) (a b : Nat) : List Int32 := sayN T tx p mk ex a (b - a)
section S
variable {T : Tks} {tx : Nat → List Int32} {p : Nat} {mk ex mk' ex' : Nat → Nat}
theorem sayN_app : ∀ (n k a : Nat), sayN T tx p mk ex a (n + k) = sayN T tx p mk ex a n ++ sayN T tx p mk ex (a + n) k
  | 0, k, a => by rw [Nat.zero_add, Nat.add_zero]; rfl
  | n + 1, k, a => by
    rw [show n + 1 + k = (n + k) + 1 by omega, sayN, sayN_app n k (a + 1), sayN, List.append_assoc, show a + 1 + n = a + (n + 1) by omega]
theorem Say.cut {a c b : Nat} (h1 : a ≤ c) (h2 : c ≤ b) : Say T tx p mk ex a b = Say T tx p mk ex a c ++ Say T tx p mk ex c b := by
  unfold Say
  rw [show b - a = (c - a) + (b - c) by omega, sayN_app, show a + (c - a) = c by omega]
theorem Say.one {a : Nat} : Say T tx p mk ex a (a + 1) = sayT T tx p mk ex a := by
  unfold Say
  rw [show a + 1 - a = 0 + 1 by omega, sayN, sayN, List.append_nil]
theorem Say.nil {a : Nat} : Say T tx p mk ex a a = [] := by
  unfold Say
  rw [Nat.sub_self]; rfl
theorem sayN_cg : ∀ (n a : Nat), (∀ i, a ≤ i → i < a + n → mk' i = mk i ∧ ex' i = ex i) → sayN T tx p mk' ex' a n = sayN T tx p mk ex a n
  | 0, a, _ => rfl
  | n + 1, a, h => by
    rw [sayN, sayN, sayN_cg n (a + 1) (fun i h1 h2 => h i (by omega) (by omega))]
    have := h a (Nat.le_refl _) (by omega)
    unfold sayT
    rw [this.1, this.2]
theorem Say.cg {a b : Nat} (h : ∀ i, a ≤ i → i < b → mk' i = mk i ∧ ex' i = ex i) : Say T tx p mk' ex' a b = Say T tx p mk ex a b := sayN_cg _ _ (fun i h1 h2 => h i h1 (by omega))
end S
/-- x, and the rest with sp before each -/
def wTail (sp : List Int32) : List (List Int32) → List Int32
  | [] => []
  | x :: L => sp ++ x ++ wTail sp L
def wSep (sp : List Int32) : List (List Int32) → List Int32
  | [] => []
  | x :: L => x ++ wTail sp L
def Tr.sib : Tr Lb → Tr Lb
  | .leaf => .leaf
  | .inner _ _ _ _ r => r
def rkA (T : Tks) (a : Lb) : Nat := if a.k = 38 then 9 else if a.k = 39 then 7 else if a.k = 40 then rkM (T.tkd (Int32.toNatClampNeg a.tk)) else if a.k = 41 then 4 else 10
/-- the rank that a node's part j must have -/
def needW (T : Tks) (a : Lb) (l : Tr Lb) (j : Nat) : Nat := if a.k = 38 then 9 else if a.k = 39 then 7 else if a.k = 40 then (if j = 0 then rkM (T.tkd (Int32.toNatClampNeg a.tk)) else ndT T (rkM (T.tkd (Int32.toNatClampNeg a.tk))) l.sib) else if a.k = 41 then 5 else 1
def bodyW (T : Tks) (tx : Nat → List Int32) (a : Lb) (ps : List (List Int32)) : List Int32 :=
  if a.k = 33 then tx (Int32.toNatClampNeg a.tk) ++ [40] ++ wSep [44, 32] ps ++ [41]
  else if a.k = 36 then [91] ++ wSep [59, 32] ps ++ [93]
  else if a.k = 37 then wSep [44, 32] ps
  else if a.k = 38 then ps.flatten ++ tx (Int32.toNatClampNeg a.tk)
  else if a.k = 39 then tx (Int32.toNatClampNeg a.tk) ++ ps.flatten
  else if a.k = 40 then wSep (if rkM (T.tkd (Int32.toNatClampNeg a.tk)) < 8 then [32] ++ tx (Int32.toNatClampNeg a.tk) ++ [32] else tx (Int32.toNatClampNeg a.tk)) ps
  else if a.k = 41 then wSep [58] ps
  else tx (Int32.toNatClampNeg a.tk)
def wrapW (b : Bool) (x : List Int32) : List Int32 := if b = true then [40] ++ x ++ [41] else x
/-- the texts of a forest's trees, of which tree j must have rank nd j -/
def wF (T : Tks) (tx : Nat → List Int32) : Tr Lb → (Nat → Nat) → List (List Int32)
  | .leaf, _ => []
  | .inner _ a _ l r, nd => wrapW (decide (rkA T a < nd 0)) (bodyW T tx a (wF T tx l (needW T a l))) :: wF T tx r (fun j => nd (j + 1))
theorem wF_app (T : Tks) (tx : Nat → List Int32) : ∀ (x y : Tr Lb) (nd : Nat → Nat), wF T tx (Tr.app x y) nd = wF T tx x nd ++ wF T tx y (fun j => nd (j + Tr.rt x))
  | .leaf, y, nd => rfl
  | .inner z a u l r, y, nd => by
    rw [Tr.app, wF, wF, wF_app T tx r y (fun j => nd (j + 1)), List.cons_append]
    rfl
/-- the text of one tree where rank need is wanted -/
def wX (T : Tks) (tx : Nat → List Int32) (need : Nat) (t : Tr Lb) : List Int32 := (wF T tx t (fun _ => need)).flatten
theorem wX_nd (T : Tks) (tx : Nat → List Int32) (need : Nat) (a : Lb) (l : Tr Lb) : wX T tx need (Tr.nd a l) = wrapW (decide (rkA T a < need)) (bodyW T tx a (wF T tx l (needW T a l))) := by
  unfold wX
  rw [wF, wF, List.flatten_cons, List.flatten_nil, List.append_nil]
/-- the fixed texts -/
def TxK (T : Tks) (tx : Nat → List Int32) : Prop := ∀ i, (T.tkd i = 50 → tx i = [40]) ∧ (T.tkd i = 51 → tx i = [41]) ∧ (T.tkd i = 52 → tx i = [91]) ∧ (T.tkd i = 53 → tx i = [93]) ∧ (T.tkd i = 54 → tx i = [44]) ∧ (T.tkd i = 55 → tx i = [59]) ∧ (T.tkd i = 56 → tx i = [61]) ∧ (T.tkd i = 38 → tx i = [58])
section S
variable {T : Tks} {tx : Nat → List Int32} {p : Nat} {mk ex : Nat → Nat}
/-- an unmarked token without blanks -/
theorem sayT_plain {i : Nat} (h : mk i = 0) (h1 : bopB T p i = false) (h2 : T.tkd i ≠ 56) (h3 : T.tkd i ≠ 54) (h4 : T.tkd i ≠ 55) : sayT T tx p mk ex i = tx i ++ List.replicate (ex i) 41 := by
  unfold sayT spB spA
  rw [h, h1, if_neg (by decide), if_pos rfl, if_neg (fun x => x.elim (fun y => by cases y) h2), if_neg (fun x => x.elim (fun y => by cases y) (fun y => y.elim h2 (fun y => y.elim h3 h4))), List.nil_append, List.nil_append, List.append_nil]
theorem bopB_k {i : Nat} (h : rkM (T.tkd i) = 0 ∨ 8 ≤ rkM (T.tkd i) ∨ T.tkd i = 38 ∨ ¬ eO (T.tkd (i - 1)) ∨ i ≤ p) : bopB T p i = false := by
  cases e : bopB T p i with
  | false => rfl
  | true =>
    rw [bopB_iff] at e
    obtain ⟨e1, e2, e3, e4, e5⟩ := e
    rcases h with h | h | h | h | h
    · omega
    · omega
    · exact absurd h e3
    · exact absurd e5 h
    · omega
/-- an operator between blanks -/
theorem sayT_op {i : Nat} (h : mk i = 0) (hx : ex i = 0) (h1 : 0 < rkM (T.tkd i)) (h2 : T.tkd i ≠ 38) (h3 : p < i) (h4 : eO (T.tkd (i - 1))) : sayT T tx p mk ex i = if rkM (T.tkd i) < 8 then [32] ++ tx i ++ [32] else tx i := by
  by_cases c : rkM (T.tkd i) < 8
  · have hb : bopB T p i = true := (bopB_iff T p i).mpr ⟨h1, c, h2, h3, h4⟩
    rw [if_pos c]
    unfold sayT spB spA
    rw [h, hx, hb, if_neg (by decide), if_pos rfl, if_pos (Or.inl rfl), if_pos (Or.inl rfl), List.nil_append]
    exact List.append_nil _
  · rw [if_neg c]
    have hr := rk_rng h1
    rw [sayT_plain h (bopB_k (Or.inr (Or.inl (by omega)))) (by omega) (by omega) (by omega), hx]
    exact List.append_nil _
/-- a token that is left out -/
theorem sayT_out {i : Nat} (h : mk i = 1) : sayT T tx p mk ex i = List.replicate (ex i) 41 := by
  unfold sayT
  rw [h, if_neg (by decide), if_neg (by decide)]
  rfl
end S
end
