section
/-! running tasks -/
/-- running the task t puts the forest F below its node and makes its tokens say W -/
def RunT (T : Tks) (tx : Nat → List Int32) (m : Nat) (q1 q2 q3 q4 q5 q6 q7 q8 q0 z6 : Int32) (N6 : Nat) (a6 : Nat → Int32) (N5 : Nat) (a5 : Nat → Int32) (n2 : Nat) (b2 : Nat → Int32) (z34 : Int32) (N34 : Nat) (z35 : Int32) (N35 : Nat) (t : Tsk) (F : Tr Lb) (W : List Int32) (tb : Nat) : Prop :=
  ∀ (S : List Tsk) (G : Tr Lb) (mk ex : Nat → Nat) (s : BS) (x0 : Nat), BOK m N34 N35 G (t :: S) mk ex s → Tr.OnP G t.2.1 → Tr.sz G + Tr.sz F ≤ 16400 → S.length + (t.2.2.2.1 - t.2.2.1) ≤ 17000 → (∀ i, t.2.2.1 ≤ i → i < t.2.2.2.1 → mk i = 0) → (∀ i, t.2.2.1 ≤ i → i + 1 < t.2.2.2.1 → ex i = 0) → ex (t.2.2.2.1 - 1) = x0 →
  ∃ (tn : Nat) (s' : BS) (mk' ex' : Nat → Nat) (c sl : Nat), tn ≤ tb ∧ BOK m N34 N35 (Tr.appAt F G t.2.1) S mk' ex' s' ∧ BG s s' c sl ∧ (∀ i, i < t.2.2.1 ∨ t.2.2.2.1 ≤ i → mk' i = mk i ∧ ex' i = ex i) ∧ (∀ p0, p0 ≤ t.2.2.1 → (p0 < t.2.2.1 → ¬ eO (T.tkd (t.2.2.1 - 1))) → Say T tx p0 mk' ex' t.2.2.1 t.2.2.2.1 = W ++ List.replicate x0 41) ∧ ∀ fu R c' sl', BLp q1 q2 q3 q4 q5 q6 q7 q8 q0 z6 N6 a6 N5 a5 n2 b2 z34 N34 z35 N35 fu (Tr.sz G + Tr.sz F) S.length s' = some (R, c', sl') → BLp q1 q2 q3 q4 q5 q6 q7 q8 q0 z6 N6 a6 N5 a5 n2 b2 z34 N34 z35 N35 (fu + tn) (Tr.sz G) (S.length + 1) s = some (R, c + c', sl + sl')
theorem wSep_cons (sp x y : List Int32) (L : List (List Int32)) : wSep sp (x :: y :: L) = x ++ (sp ++ wSep sp (y :: L)) := by
  show x ++ (sp ++ y ++ wTail sp L) = x ++ (sp ++ (y ++ wTail sp L))
  rw [List.append_assoc]
section Md
variable {T : Tks} {m N5 N6 : Nat} {a5 a6 : Nat → Int32} {tx : Nat → List Int32}
variable {n2 : Nat} {b2 : Nat → Int32}
variable {q1 q2 q3 q4 q5 q6 q7 q8 q0 z6 z34 z35 : Int32} {N34 N35 : Nat}
/-- running a list of tasks -/
theorem RunL {sep z b d : Nat} {sc : Int32} {P : Nat → Nat → Tr Lb → Prop} {tk : Piece → Tsk} {W : Piece → List Int32} (hsep : sep = 54 ∨ sep = 55) (hsc : ∀ i, T.tkd i = sep → tx i = [sc]) (hP : ∀ s e t, P s e t → s < e) (hd : d ≤ 1) (htk : ∀ x, (tk x).2.1 = z ∧ (tk x).2.2.1 = x.1 ∧ (tk x).2.2.2.1 = x.2.1) : ∀ (L : List Piece) (a : Nat), EC P T.tkd sep a L b → (∀ x ∈ L, RunT T tx m q1 q2 q3 q4 q5 q6 q7 q8 q0 z6 N6 a6 N5 a5 n2 b2 z34 N34 z35 N35 (tk x) x.2.2 (W x) (x.2.1 - x.1 + d)) → ∀ (S : List Tsk) (G : Tr Lb) (mk ex : Nat → Nat) (s : BS) (x0 : Nat), BOK m N34 N35 G (L.map tk ++ S) mk ex s → Tr.OnP G z → Tr.sz G + Tr.sz (joinT L) ≤ 16400 → S.length + (b - a) ≤ 17000 → (∀ i, a ≤ i → i < b → mk i = 0) → (∀ i, a ≤ i → i + 1 < b → ex i = 0) → ex (b - 1) = x0 →
    ∃ (tn : Nat) (s' : BS) (mk' ex' : Nat → Nat) (c sl : Nat), tn ≤ b - a + d ∧ BOK m N34 N35 (Tr.appAt (joinT L) G z) S mk' ex' s' ∧ BG s s' c sl ∧ (∀ i, i < a ∨ b ≤ i → mk' i = mk i ∧ ex' i = ex i) ∧ (∀ p0, p0 ≤ a → (p0 < a → ¬ eO (T.tkd (a - 1))) → Say T tx p0 mk' ex' a b = wSep [sc, 32] (L.map W) ++ List.replicate x0 41) ∧ ∀ fu R c' sl', BLp q1 q2 q3 q4 q5 q6 q7 q8 q0 z6 N6 a6 N5 a5 n2 b2 z34 N34 z35 N35 fu (Tr.sz G + Tr.sz (joinT L)) S.length s' = some (R, c', sl') → BLp q1 q2 q3 q4 q5 q6 q7 q8 q0 z6 N6 a6 N5 a5 n2 b2 z34 N34 z35 N35 (fu + tn) (Tr.sz G) (L.length + S.length) s = some (R, c + c', sl + sl')
  | [], a, h, _, _, _, _, _, _, _, _, _, _, _, _, _, _ => h.elim
  | x :: L, a, h, hR, S, G, mu, xu, s, x0, hB, hz, hsz, hS, h0, hx, hx0 => by
    obtain ⟨h1, h2, h3⟩ := h
    obtain ⟨k1, k2, k3⟩ := htk x
    have hlt := hP _ _ _ h2
    have hx1 := hR x List.mem_cons_self
    subst h1
    rcases h3 with ⟨h4, h5⟩ | ⟨h4, h5⟩
    · subst h4 h5
      have hj : joinT [x] = x.2.2 := Tr.app_nil _
      rw [hj] at hsz ⊢
      obtain ⟨tn, s', mk', ex', c, sl, g1, g2, g3, g4, g5, g6⟩ := hx1 S G mu xu s x0 hB (by rw [k1]; exact hz) hsz (by rw [k2, k3]; exact hS) (by rw [k2, k3]; exact h0) (by rw [k2, k3]; exact hx) (by rw [k3]; exact hx0)
      rw [k1] at g2
      rw [k2, k3] at g4 g5
      refine ⟨tn, s', mk', ex', c, sl, g1, g2, g3, g4, fun p0 a1 a2 => ?_, fun fu R c' sl' hh => ?_⟩
      · rw [g5 p0 a1 a2]
        show _ = (W x ++ []) ++ _
        rw [List.append_nil]
      · rw [show [x].length + S.length = S.length + 1 from Nat.add_comm 1 _]
        exact g6 fu R c' sl' hh
    · have hlen := EC.le hP h5
      have hmap : (L.map tk ++ S).length = L.length + S.length := by rw [List.length_append, List.length_map]
      have hszj : Tr.sz (joinT (x :: L)) = Tr.sz x.2.2 + Tr.sz (joinT L) := Tr.sz_app _ _
      obtain ⟨tn1, s1, mk1, ex1, c1, sl1, g1, g2, g3, g4, g5, g6⟩ := hx1 (L.map tk ++ S) G mu xu s 0 hB (by rw [k1]; exact hz) (by omega) (by rw [k2, k3, hmap]; omega) (by rw [k2, k3]; exact fun i a1 a2 => h0 i a1 (by omega)) (by rw [k2, k3]; exact fun i a1 a2 => hx i a1 (by omega)) (by rw [k3]; exact hx _ (by omega) (by omega))
      rw [k1] at g2
      rw [k2, k3] at g4 g5
      have hG1 : Tr.sz (Tr.appAt x.2.2 G z) = Tr.sz G + Tr.sz x.2.2 := Tr.sz_appAt G z hz
      have hz1 : Tr.OnP (Tr.appAt x.2.2 G z) z := Tr.OnP_le G z z hz hz (Nat.le_refl _)
      obtain ⟨tn2, s2, mk2, ex2, c2, sl2, w1, w2, w3, w4, w5, w6⟩ := RunL hsep hsc hP hd htk L (x.2.1 + 1) h5 (fun y hy => hR y (List.mem_cons_of_mem _ hy)) S (Tr.appAt x.2.2 G z) mk1 ex1 s1 x0 g2 hz1 (by rw [hG1]; omega) (by omega) (fun i a1 a2 => by rw [(g4 i (Or.inr (by omega))).1]; exact h0 i (by omega) a2) (fun i a1 a2 => by rw [(g4 i (Or.inr (by omega))).2]; exact hx i (by omega) a2) (by rw [(g4 (b - 1) (Or.inr (by omega))).2]; exact hx0)
      refine ⟨tn1 + tn2, s2, mk2, ex2, c1 + c2, sl1 + sl2, by omega, ?_, g3.trans w3, fun i hi => ?_, fun p0 a1 a2 => ?_, fun fu R c' sl' hh => ?_⟩
      · rw [Tr.appAt_app G z hz] at w2
        exact w2
      · have q1 := w4 i (by omega)
        have q2 := g4 i (by omega)
        exact ⟨q1.1.trans q2.1, q1.2.trans q2.2⟩
      · have heq : ∀ i, x.1 ≤ i → i < x.2.1 + 1 → mk2 i = mk1 i ∧ ex2 i = ex1 i := fun i b1 b2 => w4 i (Or.inl b2)
        have hme : mk2 x.2.1 = 0 := by rw [(heq _ (by omega) (by omega)).1, (g4 _ (Or.inr (Nat.le_refl _))).1]; exact h0 _ (by omega) (by omega)
        have hee : ex2 x.2.1 = 0 := by rw [(heq _ (by omega) (by omega)).2, (g4 _ (Or.inr (Nat.le_refl _))).2]; exact hx _ (by omega) (by omega)
        have hkz : rkM (T.tkd x.2.1) = 0 := by rcases hsep with e | e <;> (rw [h4, e]; rfl)
        have hsay : sayT T tx p0 mk2 ex2 x.2.1 = [sc, 32] := by
          have hb0 : bopB T p0 x.2.1 = false := bopB_k (Or.inl hkz)
          unfold sayT spB spA
          rw [hme, hee, hb0, if_neg (by decide), if_pos rfl, if_neg (fun y => y.elim (fun y => by cases y) (fun y => by omega)), if_pos (Or.inr (Or.inr (by omega))), hsc _ h4]
          rfl
        rw [Say.cut (a := x.1) (c := x.2.1) (by omega) (by omega), Say.cut (a := x.2.1) (c := x.2.1 + 1) (by omega) (by omega), Say.one, hsay, Say.cg (fun i b1 b2 => heq i b1 (by omega)), g5 p0 a1 a2, w5 (p0) (by omega) (fun _ => by
          rw [Nat.add_sub_cancel, h4]
          unfold eO; omega)]
        match L, h5 with
        | [], h5 => exact h5.elim
        | y :: L', h5 =>
          show _ = wSep [sc, 32] (W x :: W y :: L'.map W) ++ _
          rw [wSep_cons, List.replicate_zero, List.append_nil, List.append_assoc, List.append_assoc]
          rfl
      · have a1 := w6 fu R c' sl' (by rw [hG1]; rw [show Tr.sz G + Tr.sz x.2.2 + Tr.sz (joinT L) = Tr.sz G + Tr.sz (joinT (x :: L)) by omega]; exact hh)
        rw [hG1] at a1
        have a2 := g6 (fu + tn2) R _ _ (by rw [hmap]; exact a1)
        rw [hmap] at a2
        rw [show fu + (tn1 + tn2) = fu + tn2 + tn1 by omega, show (x :: L).length + S.length = L.length + S.length + 1 by rw [List.length_cons]; omega, show c1 + c2 + c' = c1 + (c2 + c') by omega, show sl1 + sl2 + sl' = sl1 + (sl2 + sl') by omega]
        exact a2
end Md
end
