section
/-! lists between separators -/
abbrev Piece : Type := Nat × Nat × Tr Lb
def EC (P : Nat → Nat → Tr Lb → Prop) (K : Nat → Nat) (sep : Nat) : Nat → List Piece → Nat → Prop
  | _, [], _ => False
  | a, x :: L, b => x.1 = a ∧ P x.1 x.2.1 x.2.2 ∧ ((L = [] ∧ x.2.1 = b) ∨ (K x.2.1 = sep ∧ EC P K sep (x.2.1 + 1) L b))
def joinT : List Piece → Tr Lb
  | [] => .leaf
  | x :: L => Tr.app x.2.2 (joinT L)
theorem joinT_app : ∀ L M : List Piece, joinT (L ++ M) = Tr.app (joinT L) (joinT M)
  | [], M => rfl
  | x :: L, M => by rw [List.cons_append, joinT, joinT_app L M, joinT, Tr.app_assoc]
theorem EC.snoc {P : Nat → Nat → Tr Lb → Prop} {K : Nat → Nat} {sep m b : Nat} {t : Tr Lb} (hm : K m = sep) (ht : P (m + 1) b t) : ∀ {L : List Piece} {a : Nat}, EC P K sep a L m → EC P K sep a (L ++ [(m + 1, b, t)]) b
  | [], a, h => h.elim
  | x :: L, a, ⟨h1, h2, h3⟩ => by
    refine ⟨h1, h2, Or.inr ?_⟩
    rcases h3 with ⟨h4, h5⟩ | ⟨h4, h5⟩
    · subst h4
      refine ⟨by rw [h5]; exact hm, by rw [h5]; exact ⟨rfl, ht, Or.inl ⟨rfl, rfl⟩⟩⟩
    · exact ⟨h4, EC.snoc hm ht h5⟩
theorem EC.one {P : Nat → Nat → Tr Lb → Prop} {K : Nat → Nat} {sep a b : Nat} {t : Tr Lb} (ht : P a b t) : EC P K sep a [(a, b, t)] b := ⟨rfl, ht, Or.inl ⟨rfl, rfl⟩⟩
section G
variable {T : Tks}
theorem VV.args : ∀ {f a b : Nat} {t : Tr Lb}, Vx T f 1 0 a b t → ∃ L, EC (VEl T (VV T) true) T.tkd 54 a L b ∧ t = joinT L
  | 0, _, _, _, x => x.elim
  | f + 1, a, b, t, x => by
    rcases x with x | ⟨m, t1, t2, x1, x, y, x2⟩
    · exact ⟨[(a, b, t)], EC.one (x.mono (fun _ _ _ _ _ z => ⟨f, z⟩)), by show t = Tr.app t .leaf; rw [Tr.app_nil]⟩
    · obtain ⟨L, h1, h2⟩ := VV.args x
      refine ⟨L ++ [(m + 1, b, t2)], EC.snoc x1 (y.mono (fun _ _ _ _ _ z => ⟨f, z⟩)) h1, ?_⟩
      rw [joinT_app, x2, h2]
      show _ = Tr.app _ (Tr.app t2 .leaf)
      rw [Tr.app_nil]
theorem VV.elts : ∀ {f a b : Nat} {t : Tr Lb}, Vx T f 2 0 a b t → ∃ L, EC (VEl T (VV T) true) T.tkd 54 a L b ∧ t = joinT L
  | 0, _, _, _, x => x.elim
  | f + 1, a, b, t, x => by
    have up : ∀ {a b : Nat} {t : Tr Lb}, VEl T (Vx T f) false a b t → VEl T (VV T) true a b t := by
      intro a b t y
      rcases y with ⟨r, y⟩ | ⟨h, _⟩
      · exact Or.inl ⟨r, f, y⟩
      · cases h
    rcases x with x | ⟨m, t1, t2, x1, x, y, x2⟩
    · exact ⟨[(a, b, t)], EC.one (up x), by show t = Tr.app t .leaf; rw [Tr.app_nil]⟩
    · obtain ⟨L, h1, h2⟩ := VV.elts x
      refine ⟨L ++ [(m + 1, b, t2)], EC.snoc x1 (up y) h1, ?_⟩
      rw [joinT_app, x2, h2]
      show _ = Tr.app _ (Tr.app t2 .leaf)
      rw [Tr.app_nil]
/-- one row -/
def VRow (T : Tks) (a b : Nat) (t : Tr Lb) : Prop := ∃ l, VV T 2 0 a b l ∧ t = Tr.nd (T.lb 37 a) l
theorem VV.rows : ∀ {f a b : Nat} {t : Tr Lb}, Vx T f 3 0 a b t → ∃ L, EC (VRow T) T.tkd 55 a L b ∧ t = joinT L
  | 0, _, _, _, x => x.elim
  | f + 1, a, b, t, x => by
    rcases x with ⟨l, x, x1⟩ | ⟨m, t1, l, x1, x, y, x2⟩
    · exact ⟨[(a, b, t)], EC.one ⟨l, ⟨f, x⟩, x1⟩, by show t = Tr.app t .leaf; rw [Tr.app_nil]⟩
    · obtain ⟨L, h1, h2⟩ := VV.rows x
      refine ⟨L ++ [(m + 1, b, Tr.nd (T.lb 37 (m + 1)) l)], EC.snoc x1 ⟨l, ⟨f, y⟩, rfl⟩ h1, ?_⟩
      rw [joinT_app, x2, h2]
      show _ = Tr.app _ (Tr.app (Tr.nd (T.lb 37 (m + 1)) l) .leaf)
      rw [Tr.app_nil]
theorem VEl.lay {c : Bool} {a b : Nat} {t : Tr Lb} (x : VEl T (VV T) c a b t) : Lay T.tkd a b ∧ a < b ∧ (∀ i, Top T.tkd a b i → T.tkd i ≠ 54 ∧ T.tkd i ≠ 55 ∧ T.tkd i ≠ 56) ∧ Tr.rt t = 1 ∧ Tr.sz t + a ≤ b := by
  rcases x with ⟨r, x⟩ | ⟨_, h1, h2, h3⟩
  · have hs := x.szle (by decide)
    refine ⟨x.lay.1, x.lt, fun i ht => ?_, x.rt1, by omega⟩
    have := x.lay.2.1 i ht
    unfold xk at this
    omega
  · subst h1 h3
    refine ⟨Lay.one (by omega) (by omega) (by omega) (by omega), by omega, fun i ht => by rw [ht.one]; omega, rfl, by simp only [Tr.sz]; omega⟩
theorem VRow.lay {a b : Nat} {t : Tr Lb} (x : VRow T a b t) : Lay T.tkd a b ∧ a < b ∧ (∀ i, Top T.tkd a b i → T.tkd i ≠ 55) := by
  obtain ⟨l, x, _⟩ := x
  refine ⟨x.lay.1, x.lt, fun i ht => ?_⟩
  have := x.lay.2.1 i ht
  unfold xk at this
  omega
theorem EC.le {P : Nat → Nat → Tr Lb → Prop} {K : Nat → Nat} {sep : Nat} (hP : ∀ s e t, P s e t → s < e) : ∀ {L : List Piece} {a b : Nat}, EC P K sep a L b → a + L.length ≤ b ∧ a < b
  | [], a, b, h => h.elim
  | x :: L, a, b, ⟨h1, h2, h3⟩ => by
    have := hP _ _ _ h2
    rcases h3 with ⟨h4, h5⟩ | ⟨h4, h5⟩
    · subst h4
      exact ⟨by show a + 1 ≤ b; omega, by omega⟩
    · have := EC.le hP h5
      refine ⟨?_, by omega⟩
      show a + (L.length + 1) ≤ b
      omega
end G
section Md
variable {T : Tks} {m N5 : Nat} {a5 : Nat → Int32}
variable {q1 q2 q3 q4 q5 q6 q7 q8 q9 q0 : Int32}
/-- the look for a comma passes over a piece -/
theorem Mo_ex_pass (hT : TkOK T m) (hk : KdIs m N5 a5 T.tkd) {s e to p : Nat} {z : Int32} {N : Nat} {b : Nat → Int32} (hl : Lay T.tkd s e) (hno : ∀ i, Top T.tkd s e i → T.tkd i ≠ 54) (he : e ≤ to) (hto : to ≤ m) : ∀ (n i fu : Nat), e - i ≤ n → s ≤ i → i ≤ e → dp T.tkd s i = 0 → e - i ≤ fu →
    ∃ fu', fu ≤ fu' + (e - i) ∧ F_Mo_expressions_6 (nI p) (nI to) q1 q2 q3 q4 q5 q6 q7 q8 q9 q0 N5 a5 fu (nI s) (nI i) z N b = F_Mo_expressions_6 (nI p) (nI to) q1 q2 q3 q4 q5 q6 q7 q8 q9 q0 N5 a5 fu' (nI s) (nI e) z N b := by
  intro n
  induction n with
  | zero =>
    intro i fu h1 h2 h3 h4 h5
    have : i = e := by omega
    subst this
    exact ⟨fu, by omega, rfl⟩
  | succ n ih =>
    intro i fu h1 h2 h3 h4 h5
    have hle := hT.le
    by_cases hie : i = e
    · subst hie
      exact ⟨fu, by omega, rfl⟩
    · obtain ⟨f2, rfl⟩ : ∃ f2, fu = f2 + 1 := ⟨fu - 1, by omega⟩
      have ht : Top T.tkd s e i := ⟨h2, by omega, h4⟩
      have e54 : (a5 (Int32.toNatClampNeg (nI i)) = 54) = (T.tkd i = 54) := Mo_kd hk (by omega) (p := 54) (by omega)
      have e50 : (a5 (Int32.toNatClampNeg (nI i)) = 50) = (T.tkd i = 50) := Mo_kd hk (by omega) (p := 50) (by omega)
      have e52 : (a5 (Int32.toNatClampNeg (nI i)) = 52) = (T.tkd i = 52) := Mo_kd hk (by omega) (p := 52) (by omega)
      rw [F_Mo_expressions_6, if_neg (show ¬ nI to ≤ nI i by rw [nI_le' (by omega) (by omega)]; omega), Mo_at hk (by omega), Option.bind_some]
      simp only [e54]
      rw [if_neg (hno i ht)]
      unfold F_Mo_expressions_47
      simp only [e50, e52]
      by_cases o : T.tkd i = 50 ∨ T.tkd i = 52
      · obtain ⟨d, g1, g2, g3, g4⟩ := hl.hop ht o (by omega)
        obtain ⟨fu', w1, w2⟩ := ih (d + 1) f2 (by omega) (by omega) (by omega) g4 (by omega)
        refine ⟨fu', by omega, ?_⟩
        rw [Mo_cl hk g1 (by omega) (by omega), Option.bind_some, show nI d + 1 = nI (d + 1) from nI_add' d 1]
        by_cases o1 : T.tkd i = 50
        · rw [if_pos o1]; exact w2
        · rw [if_neg o1, if_pos (o.resolve_left o1)]; exact w2
      · obtain ⟨fu', w1, w2⟩ := ih (i + 1) f2 (by omega) (by omega) (by omega) (hl.step ht (fun x => o (Or.inl x)) (fun x => o (Or.inr x))) (by omega)
        refine ⟨fu', by omega, ?_⟩
        rw [if_neg (fun x => o (Or.inl x)), if_neg (fun x => o (Or.inr x)), show nI i + 1 = nI (i + 1) from nI_add' i 1]
        exact w2
def exT (p : Nat) (L : List Piece) : List Tsk := L.map (fun x => (1, p, x.1, x.2.1, 1))
/-- a task for each piece -/
theorem Mo_ex6 (hT : TkOK T m) (hk : KdIs m N5 a5 T.tkd) {to p : Nat} (hto : to ≤ m) : ∀ (L : List Piece) (s : Nat) (A : List Tsk) (N : Nat) (b : Nat → Int32) (fu : Nat), EC (VEl T (VV T) true) T.tkd 54 s L to → to - s < fu → VecT N b (flT A) → A.length + L.length ≤ 18000 →
    ∃ N' b' c sl, F_Mo_expressions_6 (nI p) (nI to) q1 q2 q3 q4 q5 q6 q7 q8 q9 q0 N5 a5 fu (nI s) (nI s) (nI (5 * A.length)) N b = some ((nI (5 * (A ++ exT p L).length), N', b'), c, sl) ∧ VecT N' b' (flT (A ++ exT p L)) ∧ Grow N N' c sl
  | [], s, A, N, b, fu, h, _, _, _ => h.elim
  | x :: L, s, A, N, b, fu, h, hf, hv, hA => by
    obtain ⟨h1, h2, h3⟩ := h
    obtain ⟨l1, l2, l3, _, _⟩ := h2.lay
    have hle := hT.le
    subst h1
    have hA : A.length + (L.length + 1) ≤ 18000 := hA
    have hend : x.2.1 ≤ to := by
      rcases h3 with ⟨_, h5⟩ | ⟨_, h5⟩
      · omega
      · have := EC.le (fun s e t h => (VEl.lay h).2.1) h5; omega
    obtain ⟨fu', w1, w2⟩ := Mo_ex_pass hT hk (q1 := q1) (q2 := q2) (q3 := q3) (q4 := q4) (q5 := q5) (q6 := q6) (q7 := q7) (q8 := q8) (q9 := q9) (p := p) (z := nI (5 * A.length)) (N := N) (b := b) l1 (fun i t => (l3 i t).1) hend hto (x.2.1 - x.1) x.1 fu (by omega) (Nat.le_refl _) (by omega) dp_self (by omega)
    obtain ⟨N1, b1, c1, s1, e1, v1, g1, z1⟩ := Mo_task (q1 := q1) (q2 := q2) (q3 := q3) (q4 := q4) (q5 := q5) (q6 := q6) (q7 := q7) (q8 := q8) (q9 := q9) hv (by omega) (1, p, x.1, x.2.1, 1) rfl
    dsimp only at e1
    obtain ⟨f2, rfl⟩ : ∃ f2, fu' = f2 + 1 := ⟨fu' - 1, by omega⟩
    rw [w2, F_Mo_expressions_6]
    rcases h3 with ⟨h4, h5⟩ | ⟨h4, h5⟩
    · subst h4
      rw [if_pos (show nI to ≤ nI x.2.1 by rw [nI_le' (by omega) (by omega)]; omega), if_neg (show ¬ nI to ≤ nI x.1 by rw [nI_le' (by omega) (by omega)]; omega), ← h5]
      refine ⟨N1, b1, c1 + 0, s1 + 0, ?_, v1, g1.trans Grow.rfl⟩
      refine bw_ok e1 ?_
      dsimp only
      rw [z1]
      rfl
    · have hlt := EC.le (fun s e t h => (VEl.lay h).2.1) h5
      have e54 : (a5 (Int32.toNatClampNeg (nI x.2.1)) = 54) = (T.tkd x.2.1 = 54) := Mo_kd hk (by omega) (p := 54) (by omega)
      have e50 : (a5 (Int32.toNatClampNeg (nI x.2.1)) = 50) = (T.tkd x.2.1 = 50) := Mo_kd hk (by omega) (p := 50) (by omega)
      have e52 : (a5 (Int32.toNatClampNeg (nI x.2.1)) = 52) = (T.tkd x.2.1 = 52) := Mo_kd hk (by omega) (p := 52) (by omega)
      rw [if_neg (show ¬ nI to ≤ nI x.2.1 by rw [nI_le' (by omega) (by omega)]; omega), Mo_at hk (by omega), Option.bind_some]
      simp only [e54]
      rw [if_pos h4]
      have hlA : (A ++ [(1, p, x.1, x.2.1, 1)]).length = A.length + 1 := by rw [List.length_append]; rfl
      obtain ⟨N2, b2, c2, s2, e2, v2, g2⟩ := Mo_ex6 hT hk hto L (x.2.1 + 1) (A ++ [(1, p, x.1, x.2.1, 1)]) N1 b1 f2 h5 (by omega) v1 (by rw [hlA]; omega)
      have hAA : A ++ [(1, p, x.1, x.2.1, 1)] ++ exT p L = A ++ exT p (x :: L) := by rw [List.append_assoc]; rfl
      rw [hAA] at e2 v2
      refine ⟨N2, b2, c1 + c2, s1 + s2, ?_, v2, g1.trans g2⟩
      refine bw_ok e1 ?_
      dsimp only
      unfold F_Mo_expressions_47
      simp only [e50, e52]
      rw [if_neg (by omega), if_neg (by omega), z1, show nI x.2.1 + 1 = nI (x.2.1 + 1) from nI_add' _ 1]
      exact e2
end Md
end
