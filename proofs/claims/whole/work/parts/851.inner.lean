section
section Md
variable {T : Tks} {m N5 N6 : Nat} {a5 a6 : Nat → Int32} {tx : Nat → List Int32}
variable {n2 : Nat} {b2 : Nat → Int32}
variable {q1 q2 q3 q4 q5 q6 q7 q8 q0 z6 z34 z35 : Int32} {N34 N35 : Nat}
/-- a mark behind -/
theorem In_post {z r a c k1 : Nat} {l : Tr Lb} (hac : a < c) (hc31 : c < 2 ^ 31) (hr7 : r ≠ 7) (h48 : T.tkd c = 48) (hrt : Tr.rt l = 1) (R1 : RunT T tx m q1 q2 q3 q4 q5 q6 q7 q8 q0 z6 N6 a6 N5 a5 n2 b2 z34 N34 z35 N35 (1, z, a, c, 9) l (wX T tx 9 l) k1) (hk1 : k1 ≤ c - a) : InR T tx m q1 q2 q3 q4 q5 q6 q7 q8 q0 z6 N6 a6 N5 a5 n2 b2 z34 N34 z35 N35 z r a (c + 1) (T.lb 38 c) l [(1, z, a, c, 9)] := by
  intro S G mu xu s x1 hB hz hsz hS h0 h0a hx hx1
  have hma : mu a = 0 := h0a.resolve_right (fun h => hr7 h.2)
  obtain ⟨tn, s', mk', ex', cc, sl, g1, g2, g3, g4, g5, g6⟩ := R1 S G mu xu s 0 hB hz hsz (by show S.length + (c - a) ≤ 17000; omega) (fun i a1 a2 => by
    have a1 : a ≤ i := a1
    have a2 : i < c := a2
    by_cases e : i = a
    · rw [e]; exact hma
    · exact h0 i (by omega) (by omega)) (fun i a1 a2 => hx i a1 (by have a2 : i + 1 < c := a2; omega)) (hx _ (by show a ≤ c - 1; omega) (by show c - 1 + 1 < c + 1; omega))
  dsimp only at g2 g4 g5
  refine ⟨tn, s', mk', ex', cc, sl, by omega, g2, g3, fun i hi => g4 i (by omega), fun p0 d1 d2 => ?_, fun fu R c' sl' hh => ?_⟩
  · have hc := g4 c (Or.inr (Nat.le_refl _))
    have hmc : mk' c = 0 := by rw [hc.1]; exact h0 c hac (by omega)
    have hxc : ex' c = x1 := by rw [hc.2]; rw [Nat.add_sub_cancel] at hx1; exact hx1
    have hk : rkM (T.tkd c) = 0 := by rw [h48]; rfl
    have hb : bodyW T tx (T.lb 38 c) (wF T tx l (needW T (T.lb 38 c) l)) = wX T tx 9 l ++ tx c := by
      rw [wF_one hrt]
      show [wX T tx 9 l].flatten ++ tx (Int32.toNatClampNeg (nI c)) = _
      rw [nI_clamp' hc31, List.flatten_cons, List.flatten_nil, List.append_nil]
    rw [Say.cut (a := a) (c := c) (by omega) (by omega), Say.one, g5 p0 d1 d2, sayT_plain hmc (bopB_k (Or.inl hk)) (by omega) (by omega) (by omega), hma, if_neg (by decide), hb, hxc, List.replicate_zero, List.append_nil, List.nil_append, List.append_assoc]
  · rw [show [(1, z, a, c, 9)].length + S.length = S.length + 1 from Nat.add_comm 1 _]
    exact g6 fu R c' sl' hh
/-- a sign -/
theorem In_sign {z r a b k1 : Nat} {l : Tr Lb} (hab : a + 1 < b) (ha31 : a < 2 ^ 31) (hs : T.tkd a = 40 ∨ T.tkd a = 39 ∨ T.tkd a = 49) (hrt : Tr.rt l = 1) (R1 : RunT T tx m q1 q2 q3 q4 q5 q6 q7 q8 q0 z6 N6 a6 N5 a5 n2 b2 z34 N34 z35 N35 (1, z, a + 1, b, 7) l (wX T tx 7 l) k1) (hk1 : k1 ≤ b - (a + 1)) : InR T tx m q1 q2 q3 q4 q5 q6 q7 q8 q0 z6 N6 a6 N5 a5 n2 b2 z34 N34 z35 N35 z r a b (T.lb 39 a) l [(1, z, a + 1, b, 7)] := by
  intro S G mu xu s x1 hB hz hsz hS h0 h0a hx hx1
  obtain ⟨tn, s', mk', ex', cc, sl, g1, g2, g3, g4, g5, g6⟩ := R1 S G mu xu s x1 hB hz hsz (by show S.length + (b - (a + 1)) ≤ 17000; omega) (fun i a1 a2 => h0 i (by have a1 : a + 1 ≤ i := a1; omega) a2) (fun i a1 a2 => hx i (by have a1 : a + 1 ≤ i := a1; omega) a2) hx1
  dsimp only at g2 g4 g5
  refine ⟨tn, s', mk', ex', cc, sl, by omega, g2, g3, fun i hi => g4 i (by omega), fun p0 d1 d2 => ?_, fun fu R c' sl' hh => ?_⟩
  · have hc := g4 a (Or.inl (by omega))
    have hxa : ex' a = 0 := by rw [hc.2]; exact hx a (Nat.le_refl _) hab
    have hbp : bopB T p0 a = false := by
      by_cases e : p0 < a
      · exact bopB_k (Or.inr (Or.inr (Or.inr (Or.inl (d2 e)))))
      · exact bopB_k (Or.inr (Or.inr (Or.inr (Or.inr (by omega)))))
    have hsa : sayT T tx p0 mk' ex' a = (if mu a = 2 then [40] else []) ++ tx a := by
      rcases h0a with h | ⟨h, _⟩
      · rw [sayT_plain (by rw [hc.1]; exact h) hbp (by omega) (by omega) (by omega), h, hxa, if_neg (by decide)]
        exact List.append_nil _
      · unfold sayT spB spA
        rw [hc.1, h, hxa, hbp, if_pos (by decide), if_pos rfl, if_neg (fun y => y.elim (fun y => by cases y) (fun y => by omega)), if_neg (fun y => y.elim (fun y => by cases y) (fun y => by omega)), if_pos rfl, List.nil_append, List.append_nil]
        exact List.append_nil _
    have hb : bodyW T tx (T.lb 39 a) (wF T tx l (needW T (T.lb 39 a) l)) = tx a ++ wX T tx 7 l := by
      rw [wF_one hrt]
      show tx (Int32.toNatClampNeg (nI a)) ++ [wX T tx 7 l].flatten = _
      rw [nI_clamp' ha31, List.flatten_cons, List.flatten_nil, List.append_nil]
    rw [Say.cut (a := a) (c := a + 1) (by omega) (by omega), Say.one, g5 p0 (by omega) (fun _ => by rw [Nat.add_sub_cancel]; unfold eO; omega), hsa, hb, List.append_assoc, List.append_assoc, List.append_assoc]
  · rw [show [(1, z, a + 1, b, 7)].length + S.length = S.length + 1 from Nat.add_comm 1 _]
    exact g6 fu R c' sl' hh
/-- three operands, two colons -/
theorem In_three {z r a b c1 c2 k1 k2 k3 : Nat} {lab : Lb} {t1 t2 t3 : Tr Lb} (hTx : TxK T tx) (h1 : a < c1) (h2 : c1 + 1 < c2) (h3 : c2 + 1 < b) (hr7 : r ≠ 7) (e1 : T.tkd c1 = 38) (e2 : T.tkd c2 = 38) (R1 : RunT T tx m q1 q2 q3 q4 q5 q6 q7 q8 q0 z6 N6 a6 N5 a5 n2 b2 z34 N34 z35 N35 (1, z, a, c1, 5) t1 (wX T tx 5 t1) k1) (R2 : RunT T tx m q1 q2 q3 q4 q5 q6 q7 q8 q0 z6 N6 a6 N5 a5 n2 b2 z34 N34 z35 N35 (1, z, c1 + 1, c2, 5) t2 (wX T tx 5 t2) k2) (R3 : RunT T tx m q1 q2 q3 q4 q5 q6 q7 q8 q0 z6 N6 a6 N5 a5 n2 b2 z34 N34 z35 N35 (1, z, c2 + 1, b, 5) t3 (wX T tx 5 t3) k3) (hk1 : k1 ≤ c1 - a) (hk2 : k2 ≤ c2 - (c1 + 1)) (hk3 : k3 ≤ b - (c2 + 1)) (hbody : bodyW T tx lab (wF T tx (Tr.app t1 (Tr.app t2 t3)) (needW T lab (Tr.app t1 (Tr.app t2 t3)))) = wX T tx 5 t1 ++ ([58] ++ (wX T tx 5 t2 ++ ([58] ++ wX T tx 5 t3)))) : InR T tx m q1 q2 q3 q4 q5 q6 q7 q8 q0 z6 N6 a6 N5 a5 n2 b2 z34 N34 z35 N35 z r a b lab (Tr.app t1 (Tr.app t2 t3)) [(1, z, a, c1, 5), (1, z, c1 + 1, c2, 5), (1, z, c2 + 1, b, 5)] := by
  intro S G mu xu s x1 hB hz hsz hS h0 h0a hx hx1
  have hma : mu a = 0 := h0a.resolve_right (fun h => hr7 h.2)
  have hsz' := hsz
  rw [Tr.sz_app] at hsz'
  obtain ⟨tn1, s1, m1, x1', cc1, l1, w1, w2, w3, w4, w5, w6⟩ := R1 ((1, z, c1 + 1, c2, 5) :: (1, z, c2 + 1, b, 5) :: S) G mu xu s 0 hB hz (by omega) (by show S.length + 1 + 1 + (c1 - a) ≤ 17000; omega) (fun i a1 a2 => by
    have a1 : a ≤ i := a1
    have a2 : i < c1 := a2
    by_cases e : i = a
    · rw [e]; exact hma
    · exact h0 i (by omega) (by omega)) (fun i a1 a2 => hx i a1 (by have a2 : i + 1 < c1 := a2; omega)) (hx _ (by show a ≤ c1 - 1; omega) (by show c1 - 1 + 1 < b; omega))
  dsimp only at w2 w4 w5
  have hG1 : Tr.sz (Tr.appAt t1 G z) = Tr.sz G + Tr.sz t1 := Tr.sz_appAt G z hz
  have hz1 : Tr.OnP (Tr.appAt t1 G z) z := Tr.OnP_le G z z hz hz (Nat.le_refl _)
  obtain ⟨tn, s', mk', ex', cc, sl, g1, g2, g3, g4, g5, g6, g7⟩ := Run2 R2 R3 (by omega) h2 h3 S (Tr.appAt t1 G z) m1 x1' s1 0 x1 w2 hz1 (by rw [hG1]; omega) (by omega) (by omega) (fun i a1 a2 => by rw [(w4 i (Or.inr (by omega))).1]; exact h0 i (by omega) (by omega)) (fun i a1 a2 => by rw [(w4 i (Or.inr (by omega))).2]; exact hx i (by omega) (by omega)) (by rw [(w4 (c2 - 1) (Or.inr (by omega))).2]; exact hx _ (by omega) (by omega)) (fun i a1 a2 => by rw [(w4 i (Or.inr (by omega))).1]; exact h0 i (by omega) (by omega)) (fun i a1 a2 => by rw [(w4 i (Or.inr (by omega))).2]; exact hx i (by omega) (by omega)) (by rw [(w4 (b - 1) (Or.inr (by omega))).2]; exact hx1)
  refine ⟨tn1 + tn, s', mk', ex', cc1 + cc, l1 + sl, by omega, ?_, w3.trans g3, fun i hi => ?_, fun p0 d1 d2 => ?_, fun fu R c' sl' hh => ?_⟩
  · rw [Tr.appAt_app G z hz] at g2
    exact g2
  · have q1 := g4 i (by omega) (by omega)
    have q2 := w4 i (by omega)
    exact ⟨q1.1.trans q2.1, q1.2.trans q2.2⟩
  · have col : ∀ c, T.tkd c = 38 → a < c → c + 1 < b → (c < a ∨ c1 ≤ c) → (c < c1 + 1 ∨ c2 ≤ c) → (c < c2 + 1 ∨ b ≤ c) → sayT T tx p0 mk' ex' c = [58] := by
      intro c k1 k2 k3 k4 k5 k6
      have q1 := g4 c k5 k6
      have q2 := w4 c k4
      rw [sayT_plain (by rw [q1.1, q2.1]; exact h0 c k2 (by omega)) (bopB_k (Or.inr (Or.inr (Or.inl k1)))) (by omega) (by omega) (by omega), q1.2, q2.2, hx c (by omega) k3, (hTx c).2.2.2.2.2.2.2 k1]
      rfl
    rw [Say.cut (a := a) (c := c1) (by omega) (by omega), Say.cut (a := c1) (c := c1 + 1) (b := b) (by omega) (by omega), Say.one, Say.cut (a := c1 + 1) (c := c2) (b := b) (by omega) (by omega), Say.cut (a := c2) (c := c2 + 1) (b := b) (by omega) (by omega), Say.one, col c1 e1 h1 (by omega) (Or.inr (Nat.le_refl _)) (Or.inl (by omega)) (Or.inl (by omega)), col c2 e2 (by omega) h3 (Or.inr (by omega)) (Or.inr (Nat.le_refl _)) (Or.inl (by omega)), Say.cg (mk := m1) (ex := x1') (fun i b1 b2 => g4 i (Or.inl (by omega)) (Or.inl (by omega))), w5 p0 d1 d2, g5 p0 (by omega) (fun _ => by rw [Nat.add_sub_cancel, e1]; unfold eO; omega), g6 p0 (by omega) (fun _ => by rw [Nat.add_sub_cancel, e2]; unfold eO; omega), hma, if_neg (by decide), hbody]
    simp only [List.replicate_zero, List.append_nil, List.nil_append, List.append_assoc]
  · have a3 := g7 fu R c' sl' (by rw [hG1, show Tr.sz G + Tr.sz t1 + Tr.sz (Tr.app t2 t3) = Tr.sz G + Tr.sz (Tr.app t1 (Tr.app t2 t3)) by rw [Tr.sz_app t1]; omega]; exact hh)
    rw [hG1] at a3
    have a4 := w6 (fu + tn) R _ _ a3
    rw [show fu + (tn1 + tn) = fu + tn + tn1 by omega, show cc1 + cc + c' = cc1 + (cc + c') by omega, show l1 + sl + sl' = l1 + (sl + sl') by omega, show [(1, z, a, c1, 5), (1, z, c1 + 1, c2, 5), (1, z, c2 + 1, b, 5)].length + S.length = S.length + 1 + 1 + 1 from by show 3 + S.length = _; omega]
    exact a4
/-- one token -/
theorem In_tok {z r a : Nat} {k : Int32} (ha31 : a < 2 ^ 31) (hr7 : r ≠ 7) (hk : T.tkd a = 2 ∨ T.tkd a = 3 ∨ T.tkd a = 4 ∨ T.tkd a = 13) (hk' : k = 30 ∨ k = 31 ∨ k = 32 ∨ k = 35) : InR T tx m q1 q2 q3 q4 q5 q6 q7 q8 q0 z6 N6 a6 N5 a5 n2 b2 z34 N34 z35 N35 z r a (a + 1) (T.lb k a) .leaf [] := by
  intro S G mu xu s x1 hB hz hsz hS h0 h0a hx hx1
  have hma : mu a = 0 := h0a.resolve_right (fun h => hr7 h.2)
  refine ⟨0, s, mu, xu, 0, 0, by omega, by rw [Tr.appAt_nil]; exact hB, BG.rfl, fun i _ => ⟨rfl, rfl⟩, fun p0 d1 d2 => ?_, fun fu R c' sl' hh => ?_⟩
  · have hz0 : rkM (T.tkd a) = 0 := by
      rcases hk with h | h | h | h <;> (rw [h]; rfl)
    have hb : bodyW T tx (T.lb k a) (wF T tx .leaf (needW T (T.lb k a) .leaf)) = tx a := by
      have : bodyW T tx (T.lb k a) (wF T tx .leaf (needW T (T.lb k a) .leaf)) = tx (Int32.toNatClampNeg (nI a)) := by
        rcases hk' with h | h | h | h <;> (rw [h]; rfl)
      rw [this, nI_clamp' ha31]
    rw [Nat.add_sub_cancel] at hx1
    rw [Say.one, sayT_plain hma (bopB_k (Or.inl hz0)) (by omega) (by omega) (by omega), hma, if_neg (by decide), hb, hx1, List.nil_append]
  · show BLp q1 q2 q3 q4 q5 q6 q7 q8 q0 z6 N6 a6 N5 a5 n2 b2 z34 N34 z35 N35 (fu + 0) (Tr.sz G) (0 + S.length) s = some (R, 0 + c', 0 + sl')
    rw [Nat.zero_add, Nat.zero_add, Nat.zero_add]
    exact hh
end Md
end
