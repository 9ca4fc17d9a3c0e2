section
theorem Tr.appAt_nil {α : Type} : ∀ (G : Tr α) (p : Nat), Tr.appAt .leaf G p = G
  | .leaf, _ => rfl
  | .inner z a u l r, p => by
    unfold Tr.appAt
    by_cases c : Tr.rt r = 0
    · rw [if_pos c]
      by_cases d : p = 0
      · rw [if_pos d, Tr.app_nil]
      · rw [if_neg d, Tr.appAt_nil l]
    · rw [if_neg c, Tr.appAt_nil r]
theorem wF_one {T : Tks} {tx : Nat → List Int32} {t : Tr Lb} {nd : Nat → Nat} (h : Tr.rt t = 1) : wF T tx t nd = [wX T tx (nd 0) t] := by
  cases t with
  | leaf => cases h
  | inner z a u l r =>
    have hr : r = .leaf := Tr.rt0 (by simp only [Tr.rt] at h; omega)
    subst hr
    unfold wX
    rw [wF, wF, wF, wF, List.flatten_cons, List.flatten_nil, List.append_nil]
theorem sib_app {t1 t2 : Tr Lb} (h : Tr.rt t1 = 1) : Tr.sib (Tr.app t1 t2) = t2 := by
  cases t1 with
  | leaf => cases h
  | inner z a u l r =>
    have hr : r = .leaf := Tr.rt0 (by simp only [Tr.rt] at h; omega)
    subst hr
    rfl
theorem wF_join {T : Tks} {tx : Nat → List Int32} {n : Nat} : ∀ (L : List Piece), (∀ x ∈ L, Tr.rt x.2.2 = 1) → wF T tx (joinT L) (fun _ => n) = L.map (fun x => wX T tx n x.2.2)
  | [], _ => rfl
  | x :: L, h => by
    rw [joinT, wF_app, wF_one (h x List.mem_cons_self), wF_join L (fun y hy => h y (List.mem_cons_of_mem _ hy))]
    rfl
theorem EC.mem {P : Nat → Nat → Tr Lb → Prop} {K : Nat → Nat} {sep : Nat} : ∀ {L : List Piece} {a b : Nat}, (∀ s e t, P s e t → s < e) → EC P K sep a L b → ∀ x ∈ L, P x.1 x.2.1 x.2.2 ∧ a ≤ x.1 ∧ x.2.1 ≤ b
  | [], a, b, _, h, _, _ => h.elim
  | y :: L, a, b, hP, ⟨h1, h2, h3⟩, x, hx => by
    have hlt := hP _ _ _ h2
    rcases List.mem_cons.mp hx with e | e
    · subst e
      refine ⟨h2, by omega, ?_⟩
      rcases h3 with ⟨_, h5⟩ | ⟨_, h5⟩
      · omega
      · have := EC.le hP h5; omega
    · rcases h3 with ⟨h4, _⟩ | ⟨_, h5⟩
      · subst h4; cases e
      · obtain ⟨g1, g2, g3⟩ := EC.mem hP h5 x e
        exact ⟨g1, by omega, g3⟩
section Md
variable {T : Tks} {m N5 N6 : Nat} {a5 a6 : Nat → Int32} {tx : Nat → List Int32}
variable {n2 : Nat} {b2 : Nat → Int32}
variable {q1 q2 q3 q4 q5 q6 q7 q8 q0 z6 z34 z35 : Int32} {N34 N35 : Nat}
/-- two tasks below one node -/
theorem Run2 {z a1 b1 u1 a2 b2' u2 k1 k2 : Nat} {F1 F2 : Tr Lb} {W1 W2 : List Int32} (R1 : RunT T tx m q1 q2 q3 q4 q5 q6 q7 q8 q0 z6 N6 a6 N5 a5 n2 b2 z34 N34 z35 N35 (1, z, a1, b1, u1) F1 W1 k1) (R2 : RunT T tx m q1 q2 q3 q4 q5 q6 q7 q8 q0 z6 N6 a6 N5 a5 n2 b2 z34 N34 z35 N35 (1, z, a2, b2', u2) F2 W2 k2) (h12 : b1 ≤ a2) (hl1 : a1 < b1) (hl2 : a2 < b2') (S : List Tsk) (G : Tr Lb) (mu xu : Nat → Nat) (s : BS) (x1 x2 : Nat) (hB : BOK m N34 N35 G ((1, z, a1, b1, u1) :: (1, z, a2, b2', u2) :: S) mu xu s) (hz : Tr.OnP G z) (hsz : Tr.sz G + Tr.sz (Tr.app F1 F2) ≤ 16400) (hS1 : S.length + 1 + (b1 - a1) ≤ 17000) (hS2 : S.length + (b2' - a2) ≤ 17000) (h1 : ∀ i, a1 ≤ i → i < b1 → mu i = 0) (g1 : ∀ i, a1 ≤ i → i + 1 < b1 → xu i = 0) (y1 : xu (b1 - 1) = x1) (h2 : ∀ i, a2 ≤ i → i < b2' → mu i = 0) (g2 : ∀ i, a2 ≤ i → i + 1 < b2' → xu i = 0) (y2 : xu (b2' - 1) = x2) :
    ∃ (tn : Nat) (s' : BS) (mk' ex' : Nat → Nat) (c sl : Nat), tn ≤ k1 + k2 ∧ BOK m N34 N35 (Tr.appAt (Tr.app F1 F2) G z) S mk' ex' s' ∧ BG s s' c sl ∧ (∀ i, (i < a1 ∨ b1 ≤ i) → (i < a2 ∨ b2' ≤ i) → mk' i = mu i ∧ ex' i = xu i) ∧ (∀ p0, p0 ≤ a1 → (p0 < a1 → ¬ eO (T.tkd (a1 - 1))) → Say T tx p0 mk' ex' a1 b1 = W1 ++ List.replicate x1 41) ∧ (∀ p0, p0 ≤ a2 → (p0 < a2 → ¬ eO (T.tkd (a2 - 1))) → Say T tx p0 mk' ex' a2 b2' = W2 ++ List.replicate x2 41) ∧ ∀ fu R c' sl', BLp q1 q2 q3 q4 q5 q6 q7 q8 q0 z6 N6 a6 N5 a5 n2 b2 z34 N34 z35 N35 fu (Tr.sz G + Tr.sz (Tr.app F1 F2)) S.length s' = some (R, c', sl') → BLp q1 q2 q3 q4 q5 q6 q7 q8 q0 z6 N6 a6 N5 a5 n2 b2 z34 N34 z35 N35 (fu + tn) (Tr.sz G) (S.length + 2) s = some (R, c + c', sl + sl') := by
  rw [Tr.sz_app] at hsz ⊢
  obtain ⟨t1, s1, m1, e1, c1, l1, w1, w2, w3, w4, w5, w6⟩ := R1 ((1, z, a2, b2', u2) :: S) G mu xu s x1 hB hz (by omega) hS1 h1 g1 y1
  dsimp only at w2 w4 w5
  have hG1 : Tr.sz (Tr.appAt F1 G z) = Tr.sz G + Tr.sz F1 := Tr.sz_appAt G z hz
  have hz1 : Tr.OnP (Tr.appAt F1 G z) z := Tr.OnP_le G z z hz hz (Nat.le_refl _)
  obtain ⟨t2, s2, m2, e2, c2, l2, v1, v2, v3, v4, v5, v6⟩ := R2 S (Tr.appAt F1 G z) m1 e1 s1 x2 w2 hz1 (by rw [hG1]; omega) hS2 (fun i a b => by rw [(w4 i (Or.inr (Nat.le_trans h12 a))).1]; exact h2 i a b) (fun i a b => by rw [(w4 i (Or.inr (Nat.le_trans h12 a))).2]; exact g2 i a b) (by show e1 (b2' - 1) = x2; rw [(w4 (b2' - 1) (Or.inr (by omega))).2]; exact y2)
  dsimp only at v2 v4 v5
  refine ⟨t1 + t2, s2, m2, e2, c1 + c2, l1 + l2, by omega, ?_, w3.trans v3, fun i d1 d2 => ?_, fun p0 d1 d2 => ?_, v5, fun fu R c' sl' hh => ?_⟩
  · rw [Tr.appAt_app G z hz] at v2
    exact v2
  · have q1 := v4 i d2
    have q2 := w4 i d1
    exact ⟨q1.1.trans q2.1, q1.2.trans q2.2⟩
  · rw [Say.cg (fun i b1' b2'' => v4 i (Or.inl (by omega)))]
    exact w5 p0 d1 d2
  · have a3 := v6 fu R c' sl' (by rw [hG1, show Tr.sz G + Tr.sz F1 + Tr.sz F2 = Tr.sz G + (Tr.sz F1 + Tr.sz F2) by omega]; exact hh)
    rw [hG1] at a3
    have a4 := w6 (fu + t2) R _ _ a3
    rw [show fu + (t1 + t2) = fu + t2 + t1 by omega, show c1 + c2 + c' = c1 + (c2 + c') by omega, show l1 + l2 + sl' = l1 + (l2 + sl') by omega]
    exact a4
/-- what running the tasks of an expression's root does -/
def InR (T : Tks) (tx : Nat → List Int32) (m : Nat) (q1 q2 q3 q4 q5 q6 q7 q8 q0 z6 : Int32) (N6 : Nat) (a6 : Nat → Int32) (N5 : Nat) (a5 : Nat → Int32) (n2 : Nat) (b2 : Nat → Int32) (z34 : Int32) (N34 : Nat) (z35 : Int32) (N35 : Nat) (z r a b : Nat) (lab : Lb) (l : Tr Lb) (Ts : List Tsk) : Prop :=
  ∀ (S : List Tsk) (G : Tr Lb) (mk ex : Nat → Nat) (s : BS) (x1 : Nat), BOK m N34 N35 G (Ts ++ S) mk ex s → Tr.OnP G z → Tr.sz G + Tr.sz l ≤ 16400 → S.length + (b - a) ≤ 17000 → (∀ i, a < i → i < b → mk i = 0) → (mk a = 0 ∨ (mk a = 2 ∧ r = 7)) → (∀ i, a ≤ i → i + 1 < b → ex i = 0) → ex (b - 1) = x1 →
  ∃ (tn : Nat) (s' : BS) (mk' ex' : Nat → Nat) (c sl : Nat), tn + 1 ≤ b - a ∧ BOK m N34 N35 (Tr.appAt l G z) S mk' ex' s' ∧ BG s s' c sl ∧ (∀ i, i < a ∨ b ≤ i → mk' i = mk i ∧ ex' i = ex i) ∧ (∀ p0, p0 ≤ a → (p0 < a → ¬ eO (T.tkd (a - 1))) → Say T tx p0 mk' ex' a b = (if mk a = 2 then [40] else []) ++ bodyW T tx lab (wF T tx l (needW T lab l)) ++ List.replicate x1 41) ∧ ∀ fu R c' sl', BLp q1 q2 q3 q4 q5 q6 q7 q8 q0 z6 N6 a6 N5 a5 n2 b2 z34 N34 z35 N35 fu (Tr.sz G + Tr.sz l) S.length s' = some (R, c', sl') → BLp q1 q2 q3 q4 q5 q6 q7 q8 q0 z6 N6 a6 N5 a5 n2 b2 z34 N34 z35 N35 (fu + tn) (Tr.sz G) (Ts.length + S.length) s = some (R, c + c', sl + sl')
/-- an operator between two operands -/
theorem In_two {z r a b c u1 u2 k1 k2 : Nat} {lab : Lb} {t1 t2 : Tr Lb} {sp : List Int32} (hac : a < c) (hcb : c + 1 < b) (hr7 : r ≠ 7) (R1 : RunT T tx m q1 q2 q3 q4 q5 q6 q7 q8 q0 z6 N6 a6 N5 a5 n2 b2 z34 N34 z35 N35 (1, z, a, c, u1) t1 (wX T tx u1 t1) k1) (R2 : RunT T tx m q1 q2 q3 q4 q5 q6 q7 q8 q0 z6 N6 a6 N5 a5 n2 b2 z34 N34 z35 N35 (1, z, c + 1, b, u2) t2 (wX T tx u2 t2) k2) (hk1 : k1 ≤ c - a) (hk2 : k2 ≤ b - (c + 1)) (hne : ¬ eO (T.tkd c)) (hsay : ∀ p0 mk ex, p0 ≤ a → mk c = 0 → ex c = 0 → sayT T tx p0 mk ex c = sp) (hbody : bodyW T tx lab (wF T tx (Tr.app t1 t2) (needW T lab (Tr.app t1 t2))) = wX T tx u1 t1 ++ (sp ++ wX T tx u2 t2)) : InR T tx m q1 q2 q3 q4 q5 q6 q7 q8 q0 z6 N6 a6 N5 a5 n2 b2 z34 N34 z35 N35 z r a b lab (Tr.app t1 t2) [(1, z, a, c, u1), (1, z, c + 1, b, u2)] := by
  intro S G mu xu s x1 hB hz hsz hS h0 h0a hx hx1
  have hma : mu a = 0 := h0a.resolve_right (fun h => hr7 h.2)
  obtain ⟨tn, s', mk', ex', cc, sl, g1, g2, g3, g4, g5, g6, g7⟩ := Run2 R1 R2 (by omega) hac hcb S G mu xu s 0 x1 hB hz hsz (by omega) (by omega) (fun i a1 a2 => by
    by_cases e : i = a
    · rw [e]; exact hma
    · exact h0 i (by omega) (by omega)) (fun i a1 a2 => hx i a1 (by omega)) (hx _ (by omega) (by omega)) (fun i a1 a2 => h0 i (by omega) a2) (fun i a1 a2 => hx i (by omega) a2) hx1
  refine ⟨tn, s', mk', ex', cc, sl, by omega, g2, g3, fun i hi => g4 i (by omega) (by omega), fun p0 d1 d2 => ?_, fun fu R c' sl' hh => ?_⟩
  · have hc := g4 c (Or.inr (Nat.le_refl _)) (Or.inl (by omega))
    rw [Say.cut (a := a) (c := c) (by omega) (by omega), Say.cut (a := c) (c := c + 1) (by omega) (by omega), Say.one, g5 p0 d1 d2, hsay p0 mk' ex' d1 (by rw [hc.1]; exact h0 c hac (by omega)) (by rw [hc.2]; exact hx c (by omega) (by omega)), g6 p0 (by omega) (fun _ => by rw [Nat.add_sub_cancel]; exact hne), hma, if_neg (by decide), hbody, List.replicate_zero, List.append_nil, List.nil_append, List.append_assoc, List.append_assoc]
  · rw [show [(1, z, a, c, u1), (1, z, c + 1, b, u2)].length + S.length = S.length + 2 from Nat.add_comm 2 _]
    exact g7 fu R c' sl' hh
end Md
end
