section
section S
variable {T : Tks} {tx : Nat → List Int32} {p : Nat} {mk ex : Nat → Nat}
theorem Say.out {a : Nat} : ∀ (n : Nat), (∀ i, a ≤ i → i < a + n → mk i = 1 ∧ ex i = 0) → Say T tx p mk ex a (a + n) = []
  | 0, _ => Say.nil
  | n + 1, h => by
    rw [Say.cut (a := a) (c := a + n) (b := a + (n + 1)) (by omega) (by omega), Say.out n (fun i h1 h2 => h i h1 (by omega)), List.nil_append]
    have := h (a + n) (by omega) (by omega)
    rw [show a + (n + 1) = a + n + 1 from rfl, Say.one, sayT_out this.1, this.2]
    rfl
/-- tokens that are left out, the last of which has x behind it -/
theorem Say.outx {a b x : Nat} (hab : a < b) (h : ∀ i, a ≤ i → i < b → mk i = 1) (h2 : ∀ i, a ≤ i → i + 1 < b → ex i = 0) (h3 : ex (b - 1) = x) : Say T tx p mk ex a b = List.replicate x 41 := by
  rw [Say.cut (a := a) (c := b - 1) (b := b) (by omega) (by omega)]
  have e1 : Say T tx p mk ex a (b - 1) = [] := by
    rw [show b - 1 = a + (b - 1 - a) by omega]
    exact Say.out _ (fun i h4 h5 => ⟨h i h4 (by omega), h2 i h4 (by omega)⟩)
  have e2 : Say T tx p mk ex (b - 1) b = List.replicate x 41 := by
    have : Say T tx p mk ex (b - 1) (b - 1 + 1) = List.replicate x 41 := by
      rw [Say.one, sayT_out (h _ (by omega) (by omega)), h3]
    rw [show b - 1 + 1 = b by omega] at this
    exact this
  rw [e1, e2, List.nil_append]
end S
section Md
variable {T : Tks} {m N5 N6 : Nat} {a5 a6 : Nat → Int32} {tx : Nat → List Int32}
variable {n2 : Nat} {b2 : Nat → Int32}
variable {q1 q2 q3 q4 q5 q6 q7 q8 q0 z6 z34 z35 : Int32} {N34 N35 : Nat}
/-- an expression's task, where its parts' tasks run -/
theorem Run_x1 (hT : TkOK T m) (hk : KdIs m N5 a5 T.tkd) (hp6 : PlIs m N6 a6 T) (hTx : TxK T tx) (hr : RkIs n2 b2) {a b need : Nat} {t : Tr Lb} (x : EX T need a b t) (hnd : need ≤ 10) (hb : b ≤ m)
    (IHx : ∀ a' b' need t, a ≤ a' → b' ≤ b → b' - a' < b - a → EX T need a' b' t → need ≤ 10 → ∀ z, RunT T tx m q1 q2 q3 q4 q5 q6 q7 q8 q0 z6 N6 a6 N5 a5 n2 b2 z34 N34 z35 N35 (1, z, a', b', need) t (wX T tx need t) (b' - a'))
    (IHr : ∀ a' b' t, a ≤ a' → b' ≤ b → b' - a' < b - a → VRow T a' b' t → ∀ z, RunT T tx m q1 q2 q3 q4 q5 q6 q7 q8 q0 z6 N6 a6 N5 a5 n2 b2 z34 N34 z35 N35 (3, z, a', b', 0) t (wX T tx 1 t) (b' - a' + 1)) (z : Nat) : RunT T tx m q1 q2 q3 q4 q5 q6 q7 q8 q0 z6 N6 a6 N5 a5 n2 b2 z34 N34 z35 N35 (1, z, a, b, need) t (wX T tx need t) (b - a) := by
  intro S G mu xu s x0 hB hz hsz hS h0 hx hx0
  dsimp only at hz hS h0 hx hx0 ⊢
  have hle := hT.le
  have hab : a < b := by
    rcases x with ⟨r, x, _⟩ | ⟨x, _⟩
    · exact x.lt
    · omega
  obtain ⟨lab, l, Ts, s1, m1, e1, c1, sl1, ht, hB1, hG1, hcase, hgo⟩ := turn_x hT hk hp6 hr (q1 := q1) (q2 := q2) (q3 := q3) (q4 := q4) (q5 := q5) (q6 := q6) (q7 := q7) (q8 := q8) (q0 := q0) (z6 := z6) (N6 := N6) (a6 := a6) (N5 := N5) (a5 := a5) (n2 := n2) (b2 := b2) (z34 := z34) (N34 := N34) (z35 := z35) (N35 := N35) hB hz (by omega) hb x h0 hnd hS
  have hszt : Tr.sz t = Tr.sz l + 1 := by rw [ht]; rfl
  have hsG1 : Tr.sz (Tr.appAt (Tr.nd lab .leaf) G z) = Tr.sz G + 1 := Tr.sz_appAt G z hz
  have hon : Tr.OnP (Tr.appAt (Tr.nd lab .leaf) G z) (Tr.sz G) := Tr.OnP_new G z hz
  have happ : Tr.appAt l (Tr.appAt (Tr.nd lab .leaf) G z) (Tr.sz G) = Tr.appAt t G z := by
    rw [Tr.appAt_new G z hz, ht]; rfl
  rcases hcase with ⟨k1, k2, k3, k4, k5, k6, k7⟩ | ⟨k, r, c, hX, hV, hbr, hM⟩
  · subst k1 k3 k4 k5 k6 k7
    refine ⟨1, s1, m1, e1, c1, sl1, by omega, ?_, hG1, fun i _ => ⟨rfl, rfl⟩, fun p0 d1 d2 => ?_, fun fu R c' sl' hh => ?_⟩
    · rw [ht]; exact hB1
    · rw [Nat.add_sub_cancel] at hx0
      rw [Say.one, sayT_plain (h0 a (Nat.le_refl _) (by omega)) (bopB_k (Or.inr (Or.inr (Or.inl k2)))) (by omega) (by omega) (by omega), hx0, ht, wX_nd]
      have : bodyW T tx (T.lb 34 a) (wF T tx .leaf (needW T (T.lb 34 a) .leaf)) = tx (Int32.toNatClampNeg (nI a)) := rfl
      rw [this, nI_clamp' (by omega), show decide (rkA T (T.lb 34 a) < need) = false from decide_eq_false (by show ¬ 10 < need; omega)]
      rfl
    · refine hgo fu R c' sl' ?_
      rw [hszt] at hh
      show BLp q1 q2 q3 q4 q5 q6 q7 q8 q0 z6 N6 a6 N5 a5 n2 b2 z34 N34 z35 N35 fu (Tr.sz G + 1) (0 + S.length) s1 = some (R, c', sl')
      rw [Nat.zero_add]
      exact hh
  · have hlt := hV.vv.lt
    have hrkA : rkA T lab = r := by
      have := hV.rk (by omega)
      rw [ht] at this
      exact this
    have hIn := Mo_in (m := m) (q1 := q1) (q2 := q2) (q3 := q3) (q4 := q4) (q5 := q5) (q6 := q6) (q7 := q7) (q8 := q8) (q0 := q0) (z6 := z6) (N6 := N6) (a6 := a6) (N5 := N5) (a5 := a5) (n2 := n2) (b2 := b2) (z34 := z34) (N34 := N34) (z35 := z35) (N35 := N35) hTx (by omega) hX (fun a' b' nd t' i1 i2 i3 => IHx a' b' nd t' (by omega) (by omega) (by omega)) (fun a' b' t' i1 i2 i3 => IHr a' b' t' (by omega) (by omega) (by omega))
    -- the marks behind the turn
    have hout : ∀ i, i < a ∨ b ≤ i → m1 i = mu i ∧ e1 i = xu i := by
      intro i hi
      rcases hM with ⟨_, w2, w3⟩ | ⟨_, _, w2, w3⟩ | ⟨_, _, _, w2, w3⟩
      · rw [w2, w3]; unfold mkP; rw [if_neg (by omega)]; exact ⟨rfl, rfl⟩
      · rw [w2, w3]; unfold mkP; rw [if_neg (by omega)]; exact ⟨rfl, rfl⟩
      · rw [w2, w3]; dsimp only; rw [if_neg (by omega), if_neg (by omega)]; exact ⟨rfl, rfl⟩
    have hin0 : ∀ i, a + k < i → i < b - k → m1 i = 0 := by
      intro i i1 i2
      rcases hM with ⟨_, w2, w3⟩ | ⟨_, _, w2, w3⟩ | ⟨_, _, _, w2, w3⟩
      · rw [w2]; unfold mkP; rw [if_neg (by omega)]; exact h0 i (by omega) (by omega)
      · rw [w2]; unfold mkP; rw [if_neg (by omega)]; exact h0 i (by omega) (by omega)
      · rw [w2]; dsimp only; rw [if_neg (by omega)]; exact h0 i (by omega) (by omega)
    have hina : (m1 (a + k) = 0 ∨ (m1 (a + k) = 2 ∧ r = 7)) := by
      rcases hM with ⟨_, w2, w3⟩ | ⟨_, _, w2, w3⟩ | ⟨_, w1, w0, w2, w3⟩
      · left; rw [w2]; unfold mkP; rw [if_neg (by omega)]; exact h0 _ (by omega) (by omega)
      · left; rw [w2]; unfold mkP; rw [if_neg (by omega)]; exact h0 _ (by omega) (by omega)
      · right; rw [w2]; dsimp only; rw [if_pos (by omega)]; exact ⟨rfl, w0⟩
    have hexin : ∀ i, a ≤ i → i + 1 < b → e1 i = 0 := by
      intro i i1 i2
      rcases hM with ⟨_, w2, w3⟩ | ⟨_, _, w2, w3⟩ | ⟨_, _, _, w2, w3⟩
      · rw [w3]; exact hx i i1 i2
      · rw [w3]; exact hx i i1 i2
      · rw [w3]; dsimp only; rw [if_neg (by omega)]; exact hx i i1 i2
    obtain ⟨tn, s2, m2, e2, c2, sl2, g1, g2, g3, g4, g5, g6⟩ := hIn S (Tr.appAt (Tr.nd lab .leaf) G z) m1 e1 s1 (e1 (b - k - 1)) hB1 hon (by rw [hsG1]; omega) (by omega) hin0 hina (fun i i1 i2 => hexin i (by omega) (by omega)) rfl
    rw [happ] at g2
    refine ⟨tn + 1, s2, m2, e2, c1 + c2, sl1 + sl2, by omega, g2, hG1.trans g3, fun i hi => ?_, fun p0 d1 d2 => ?_, fun fu R c' sl' hh => ?_⟩
    · have w1 := g4 i (by omega)
      have w2 := hout i hi
      exact ⟨w1.1.trans w2.1, w1.2.trans w2.2⟩
    · have hmid := g5 p0 (by omega) (fun i1 => by
        by_cases k0 : k = 0
        · subst k0; exact d2 i1
        · have := (hbr (k - 1) (by omega)).1
          rw [show a + k - 1 = a + (k - 1) by omega, this]
          unfold eO; omega)
      rw [Say.cut (a := a) (c := a + k) (b := b) (by omega) (by omega), Say.cut (a := a + k) (c := b - k) (b := b) (by omega) (by omega), hmid, ht, wX_nd, hrkA]
      rcases hM with ⟨w1, w2, w3⟩ | ⟨w1, w0, w2, w3⟩ | ⟨w1, w0, w4, w2, w3⟩
      · have hA : Say T tx p0 m2 e2 a (a + k) = [] := Say.out k (fun i i1 i2 => by
          have := g4 i (by omega)
          rw [this.1, this.2]
          refine ⟨?_, hexin i i1 (by omega)⟩
          rw [w2]; unfold mkP; rw [if_pos (by omega)])
        have hma : m1 (a + k) = 0 := by rw [w2]; unfold mkP; rw [if_neg (by omega)]; exact h0 _ (by omega) (by omega)
        rw [hA, hma, if_neg (by decide), show decide (r < need) = false from decide_eq_false (by omega), List.nil_append, List.nil_append]
        show _ = bodyW T tx lab (wF T tx l (needW T lab l)) ++ List.replicate x0 41
        rw [List.append_assoc]
        congr 1
        by_cases k0 : k = 0
        · subst k0
          rw [show b - 0 = b from rfl, Say.nil, List.append_nil, w3, hx0]
        · have hBo : Say T tx p0 m2 e2 (b - k) b = List.replicate x0 41 := Say.outx (by omega) (fun i i1 i2 => by
            rw [(g4 i (by omega)).1, w2]; unfold mkP; rw [if_pos (by omega)]) (fun i i1 i2 => by rw [(g4 i (by omega)).2]; exact hexin i (by omega) i2) (by rw [(g4 (b - 1) (by omega)).2, w3]; exact hx0)
          rw [hBo, hexin _ (by omega) (by omega)]
          rfl
      · have hA : Say T tx p0 m2 e2 a (a + k) = [40] := by
          rw [Say.cut (a := a) (c := a + (k - 1)) (b := a + k) (by omega) (by omega), Say.out (k - 1) (fun i i1 i2 => by
            have := g4 i (by omega)
            rw [this.1, this.2]
            refine ⟨?_, hexin i i1 (by omega)⟩
            rw [w2]; unfold mkP; rw [if_pos (by omega)])]
          have hK := (hbr (k - 1) (by omega)).1
          have q := g4 (a + (k - 1)) (by omega)
          have hone : Say T tx p0 m2 e2 (a + (k - 1)) (a + (k - 1) + 1) = [40] := by
            rw [Say.one, sayT_plain (by rw [q.1, w2]; unfold mkP; rw [if_neg (by omega)]; exact h0 _ (by omega) (by omega)) (bopB_k (Or.inl (by rw [hK]; rfl))) (by omega) (by omega) (by omega), q.2, hexin _ (by omega) (by omega), (hTx _).1 hK]
            rfl
          rw [show a + (k - 1) + 1 = a + k by omega] at hone
          rw [hone]; rfl
        have hma : m1 (a + k) = 0 := by rw [w2]; unfold mkP; rw [if_neg (by omega)]; exact h0 _ (by omega) (by omega)
        have hK2 := (hbr (k - 1) (by omega)).2
        rw [show b - 1 - (k - 1) = b - k by omega] at hK2
        have q := g4 (b - k) (by omega)
        have hone : Say T tx p0 m2 e2 (b - k) (b - k + 1) = [41] ++ List.replicate (e1 (b - k)) 41 := by
          rw [Say.one, sayT_plain (by rw [q.1, w2]; unfold mkP; rw [if_neg (by omega)]; exact h0 _ (by omega) (by omega)) (bopB_k (Or.inl (by rw [hK2]; rfl))) (by omega) (by omega) (by omega), q.2, (hTx _).2.1 hK2]
        have hBo : Say T tx p0 m2 e2 (b - k) b = [41] ++ List.replicate x0 41 := by
          by_cases k1 : k = 1
          · subst k1
            rw [show b - 1 + 1 = b by omega] at hone
            rw [hone, w3, hx0]
          · rw [Say.cut (a := b - k) (c := b - k + 1) (b := b) (by omega) (by omega), hone, hexin _ (by omega) (by omega), Say.outx (x := x0) (by omega) (fun i i1 i2 => by
              rw [(g4 i (by omega)).1, w2]; unfold mkP; rw [if_pos (by omega)]) (fun i i1 i2 => by rw [(g4 i (by omega)).2]; exact hexin i (by omega) i2) (by rw [(g4 (b - 1) (by omega)).2, w3]; exact hx0)]
            rfl
        rw [hA, hBo, hma, if_neg (by decide), hexin _ (by omega) (by omega), show decide (r < need) = true from decide_eq_true (by omega)]
        show [40] ++ ([] ++ bodyW T tx lab (wF T tx l (needW T lab l)) ++ List.replicate 0 41 ++ ([41] ++ List.replicate x0 41)) = [40] ++ bodyW T tx lab (wF T tx l (needW T lab l)) ++ [41] ++ List.replicate x0 41
        simp only [List.replicate_zero, List.append_nil, List.nil_append, List.append_assoc]
      · subst w0
        have hma : m1 (a + 0) = 2 := by rw [w2]; exact if_pos rfl
        have hxe : e1 (b - 0 - 1) = x0 + 1 := by
          show e1 (b - 1) = _
          rw [w3]; dsimp only; rw [if_pos rfl, hx0]
        rw [show a + 0 = a from rfl] at hma
        rw [show a + 0 = a from rfl, show b - 0 = b from rfl, Say.nil, Say.nil, hma, if_pos rfl, show e1 (b - 1) = x0 + 1 from hxe, show decide (r < need) = true from decide_eq_true (by omega), List.nil_append, List.append_nil, List.replicate_succ]
        show [40] ++ bodyW T tx lab (wF T tx l (needW T lab l)) ++ (41 :: List.replicate x0 41) = [40] ++ bodyW T tx lab (wF T tx l (needW T lab l)) ++ [41] ++ List.replicate x0 41
        simp only [List.append_assoc, List.cons_append, List.nil_append]
    · rw [hszt] at hh
      have a3 := g6 fu R c' sl' (by rw [hsG1, show Tr.sz G + 1 + Tr.sz l = Tr.sz G + (Tr.sz l + 1) by omega]; exact hh)
      rw [hsG1] at a3
      have a4 := hgo (fu + tn) R _ _ a3
      rw [show fu + (tn + 1) = fu + tn + 1 by omega, show c1 + c2 + c' = c1 + (c2 + c') by omega, show sl1 + sl2 + sl' = sl1 + (sl2 + sl') by omega]
      exact a4
end Md
end
