section
/-! the nodes, asked of both -/
/-- every node stands in both -/
theorem both_at {bt : Nat → Int32} {f : NFn} : ∀ (t : Tr Lb) (q : Nat) (w : Int32), Tr.TH bt q w t → Tr.NH f q t → ∀ i, q ≤ i → i < q + Tr.sz t → ∃ a l r w', NdC bt i a l w' ∧ NdAt f i a l r ∧ Tr.TH bt (i + 1) (nI i) l ∧ Tr.NH f (i + 1) l ∧ i + 1 + Tr.sz l ≤ q + Tr.sz t
  | .leaf, q, w, _, _, i, h1, h2 => by simp only [Tr.sz] at h2; omega
  | .inner z a u l r, q, w, ⟨t1, t2, t3, t4⟩, ⟨n1, n2, n3⟩, i, h1, h2 => by
    simp only [Tr.sz] at h2 ⊢
    by_cases c : i = q
    · subst c
      exact ⟨a, l, r, w, ⟨t1, t2⟩, n1, t3, n2, by omega⟩
    · by_cases c2 : i < q + 1 + Tr.sz l
      · obtain ⟨a', l', r', w', g1, g2, g3, g4, g5⟩ := both_at l (q + 1) (nI q) t3 n2 i (by omega) (by omega)
        exact ⟨a', l', r', w', g1, g2, g3, g4, by omega⟩
      · obtain ⟨a', l', r', w', g1, g2, g3, g4, g5⟩ := both_at r (q + 1 + Tr.sz l) w t4 n3 i (by omega) (by omega)
        exact ⟨a', l', r', w', g1, g2, g3, g4, by omega⟩
section P
variable {n0 Nt : Nat} {bt : Nat → Int32}
variable {C : NC} {f : NFn} {t : Tr Lb}
variable {q2 q3 q4 q5 q6 q7 q8 q9 z25 z26 z28 z29 z31 : Int32}
theorem pos_n {k : Int32} (h : ¬ k < 0) : ∃ i, k = nI i ∧ i < 2 ^ 31 := by
  refine ⟨k.toNatClampNeg, ?_, ?_⟩
  · have h' : 0 ≤ k.toInt := by
      have := mt Int32.lt_iff_toInt_lt.mpr h
      have z : (0 : Int32).toInt = 0 := rfl
      omega
    apply Int32.toInt_inj.mp
    have hlt := Int32.toInt_lt k
    rw [show nI k.toNatClampNeg = Int32.ofNat k.toNatClampNeg from rfl, Int32.toInt_ofNat_of_lt (by
      show k.toInt.toNat < 2 ^ 31
      omega)]
    show k.toInt = (k.toInt.toNat : Int)
    omega
  · have hlt := Int32.toInt_lt k
    show k.toInt.toNat < 2 ^ 31
    omega
/-- **node** -/
theorem node_eq (h7 : n0 * 7 ≤ Nt) (hNt : Nt ≤ 2 ^ 20) (hn0 : n0 ≤ 16390) (hTH : Tr.TH bt 0 (-1) t) (hNH : Tr.NH f 0 t) (hsz : Tr.sz t = n0) (hC : CapA n0 C) {q1 : Int32} (hq : q1 = 1) (k what ft : Int32) : ∃ v, F_Eq_node k what ft (nI n0) Nt bt = some v ∧ F_Mo_node k what q1 q2 q3 q4 q5 q6 q7 q8 q9 (nI n0) z28 C.2.2.2.2.1 f.2.2.2.2.1 z26 C.2.2.1 f.2.2.1 z25 C.2.1 f.2.1 C.1 f.1 = some v := by
  subst hq
  obtain ⟨c1, c2, c3, c4, c5, c6, c7, c8⟩ := hC
  have hc1 := c1.1; have hc2 := c2.1; have hc3 := c3.1; have hc5 := c5.1
  unfold F_Eq_node F_Mo_node nm F_Mo_isNode
  dsimp only
  rw [if_neg (show ¬ (1 : Int32) = 0 by decide)]
  by_cases hneg : k < 0
  · refine ⟨-1, ?_, ?_⟩
    · unfold F_Nd_get
      rw [if_pos hneg]
      by_cases w1 : what < 0
      · rw [if_pos w1]
      · rw [if_neg w1]
        by_cases w2 : (3 : Int32) < what
        · rw [if_pos w2]
        · rw [if_neg w2]; rfl
    · rw [if_pos hneg, if_pos rfl]
  · obtain ⟨i, rfl, hi⟩ := pos_n hneg
    rw [if_neg hneg]
    by_cases hbig : n0 ≤ i
    · have hb : nI n0 ≤ nI i := by rw [nI_le' (by omega) (by omega)]; exact hbig
      refine ⟨-1, ?_, ?_⟩
      · unfold F_Nd_get
        rw [if_neg hneg, if_pos hb]
        by_cases w1 : what < 0
        · rw [if_pos w1]
        · rw [if_neg w1]
          by_cases w2 : (3 : Int32) < what
          · rw [if_pos w2]
          · rw [if_neg w2]; rfl
      · rw [if_pos hb, if_pos rfl]
    · have hb : ¬ nI n0 ≤ nI i := by rw [nI_le' (by omega) (by omega)]; exact hbig
      rw [if_neg hb, if_neg (show ¬ (1 : Int32) = 0 by decide)]
      obtain ⟨a, l, r, w', g1, g2, _⟩ := both_at t 0 (-1) hTH hNH i (Nat.zero_le _) (by omega)
      obtain ⟨d1, d2, d3, d4, d5, _⟩ := g2
      have hiN : i < n0 := by omega
      by_cases w1 : what < 0
      · refine ⟨-1, by rw [if_pos w1], ?_⟩
        have nn : ∀ j : Int32, ¬ j < 0 → what ≠ j := fun j hj e => hj (e ▸ w1)
        rw [if_neg (nn 0 (by decide)), if_neg (nn 1 (by decide)), if_neg (nn 2 (by decide)), if_neg (nn 3 (by decide))]
      · rw [if_neg w1]
        obtain ⟨j, rfl, hj⟩ := pos_n w1
        by_cases w2 : 3 < j
        · refine ⟨-1, by rw [if_pos (show (3 : Int32) < nI j by rw [show (3 : Int32) = nI 3 from Eq.refl _, nI_lt' (by omega) (by omega)]; exact w2)], ?_⟩
          have nn : ∀ j' : Nat, j' ≤ 3 → nI j ≠ nI j' := fun j' h' e => by rw [nI_eq' (by omega) (by omega)] at e; omega
          rw [if_neg (show ¬ nI j = 0 from nn 0 (by omega)), if_neg (show ¬ nI j = 1 from nn 1 (by omega)), if_neg (show ¬ nI j = 2 from nn 2 (by omega)), if_neg (show ¬ nI j = 3 from nn 3 (by omega))]
        · rw [if_neg (show ¬ (3 : Int32) < nI j by rw [show (3 : Int32) = nI 3 from Eq.refl _, nI_lt' (by omega) (by omega)]; exact w2)]
          have hj4 : j = 0 ∨ j = 1 ∨ j = 2 ∨ j = 3 := by omega
          rw [Nd_getA h7 hNt hiN (by omega), Option.bind_some]
          rcases hj4 with e | e | e | e <;> subst e
          · refine ⟨a.k, by rw [g1.1 0 (by omega)]; rfl, ?_⟩
            rw [if_pos (show nI 0 = 0 from rfl), Nm_at (by omega) (by omega), Option.bind_some, nI_clamp' (by omega), d1]
          · refine ⟨a.pl, by rw [g1.1 1 (by omega)]; rfl, ?_⟩
            rw [if_neg (show ¬ nI 1 = 0 by decide), if_pos (show nI 1 = 1 from rfl), Nm_at (by omega) (by omega), Option.bind_some, nI_clamp' (by omega), d2]
          · refine ⟨a.sec, by rw [g1.1 2 (by omega)]; rfl, ?_⟩
            rw [if_neg (show ¬ nI 2 = 0 by decide), if_neg (show ¬ nI 2 = 1 by decide), if_pos (show nI 2 = 2 from rfl), Nm_at (by omega) (by omega), Option.bind_some, nI_clamp' (by omega), d3]
          · refine ⟨nI (Tr.rt l), by rw [g1.1 3 (by omega)]; rfl, ?_⟩
            rw [if_neg (show ¬ nI 3 = 0 by decide), if_neg (show ¬ nI 3 = 1 by decide), if_neg (show ¬ nI 3 = 2 by decide), if_pos (show nI 3 = 3 from rfl), Nm_at (by omega) (by omega), Option.bind_some, nI_clamp' (by omega), d5]
theorem part_loop (h7 : n0 * 7 ≤ Nt) (hNt : Nt ≤ 2 ^ 20) (hn0 : n0 ≤ 16390) {Nx : Nat} (hNx : n0 ≤ Nx) : ∀ (l : Tr Lb) (q : Nat) (w : Int32), Tr.TH bt q w l → Tr.NH f q l → q + Tr.sz l ≤ n0 → ∀ (i v fu : Nat), i < Tr.rt l → i < fu → v + i < 2 ^ 20 → ∃ p, F_Eq_part_26 (nI (v + i)) (nI n0) Nt bt fu (nI v) (nI q) = some p ∧ F_Mo_part_43 (nI (v + i)) z31 Nx f.2.2.2.2.2.2.2 fu (nI v) (nI q) = some p
  | .leaf, q, w, _, _, _, i, v, fu, h, _, _ => absurd h (Nat.not_lt_zero _)
  | .inner z a u l r, q, w, ⟨t1, t2, t3, t4⟩, ⟨n1, n2, n3⟩, hq, i, v, fu + 1, h, hf, hv => by
    simp only [Tr.sz] at hq
    simp only [Tr.rt] at h
    by_cases c : i = 0
    · subst c
      have hle : nI (v + 0) ≤ nI v := by rw [nI_le' (by omega) (by omega)]; omega
      exact ⟨nI q, by rw [F_Eq_part_26, if_pos hle], by rw [F_Mo_part_43, if_pos hle]⟩
    · have hle : ¬ nI (v + i) ≤ nI v := by rw [nI_le' (by omega) (by omega)]; omega
      have hN : NdC bt q a l w := ⟨t1, t2⟩
      obtain ⟨_, _, _, _, _, _, _, d8⟩ := n1
      have hr : Tr.rt r ≠ 0 := by omega
      obtain ⟨p, e1, e2⟩ := part_loop h7 hNt hn0 hNx r (q + 1 + Tr.sz l) w t4 n3 (by omega) (i - 1) (v + 1) fu (by omega) (by omega) (by omega)
      rw [show v + 1 + (i - 1) = v + i by omega] at e1 e2
      refine ⟨p, ?_, ?_⟩
      · rw [F_Eq_part_26, if_neg hle, getA h7 hNt hN (by omega), Option.bind_some, show nI v + 1 = nI (v + 1) from nI_add' v 1]
        exact e1
      · rw [F_Mo_part_43, if_neg hle, Nm_at (by omega) (by omega), Option.bind_some, nI_clamp' (by omega), d8, if_neg hr, show nI v + 1 = nI (v + 1) from nI_add' v 1]
        exact e2
/-- **part** -/
theorem part_eq (h7 : n0 * 7 ≤ Nt) (hNt : Nt ≤ 2 ^ 20) (hn0 : n0 ≤ 16390) (hTH : Tr.TH bt 0 (-1) t) (hNH : Tr.NH f 0 t) (hsz : Tr.sz t = n0) (hC : CapA n0 C) {q1 : Int32} (hq : q1 = 1) (k i ft : Int32) : ∃ v, F_Eq_part k i ft (nI n0) Nt bt = some v ∧ F_Mo_part k i q1 q2 q3 q4 q5 q6 q7 q8 q9 (nI n0) z28 C.2.2.2.2.1 f.2.2.2.2.1 z29 C.2.2.2.2.2.1 f.2.2.2.2.2.1 z31 C.2.2.2.2.2.2.2 f.2.2.2.2.2.2.2 = some v := by
  subst hq
  obtain ⟨c1, c2, c3, c4, c5, c6, c7, c8⟩ := hC
  have hc5 := c5.1; have hc6 := c6.1; have hc8 := c8.1
  unfold F_Eq_part F_Mo_part nm F_Mo_isNode
  dsimp only
  rw [if_neg (show ¬ (1 : Int32) = 0 by decide)]
  by_cases hi : i < 0
  · refine ⟨-1, by rw [if_pos hi], ?_⟩
    by_cases hneg : k < 0
    · rw [if_pos hneg, if_pos rfl]
    · rw [if_neg hneg]
      by_cases hb : nI n0 ≤ k
      · rw [if_pos hb, if_pos rfl]
      · rw [if_neg hb, if_neg (by decide), if_pos hi]
  · rw [if_neg hi]
    obtain ⟨i, rfl, hi31⟩ := pos_n hi
    by_cases hneg : k < 0
    · refine ⟨-1, ?_, by rw [if_pos hneg, if_pos rfl]⟩
      unfold F_Nd_get
      rw [if_pos hneg, Option.bind_some, if_neg (fun h => hi (Int32.lt_trans h (by decide)))]
    · obtain ⟨k, rfl, hk31⟩ := pos_n hneg
      rw [if_neg hneg]
      by_cases hbig : n0 ≤ k
      · have hb : nI n0 ≤ nI k := by rw [nI_le' (by omega) (by omega)]; exact hbig
        refine ⟨-1, ?_, by rw [if_pos hb, if_pos rfl]⟩
        unfold F_Nd_get
        rw [if_neg hneg, if_pos hb, Option.bind_some, if_neg (fun h => hi (Int32.lt_trans h (by decide)))]
      · have hb : ¬ nI n0 ≤ nI k := by rw [nI_le' (by omega) (by omega)]; exact hbig
        rw [if_neg hb, if_neg (show ¬ (1 : Int32) = 0 by decide), if_neg hi]
        obtain ⟨a, l, r, w', g1, g2, g3, g4, g5⟩ := both_at t 0 (-1) hTH hNH k (Nat.zero_le _) (by omega)
        obtain ⟨d1, d2, d3, d4, d5, d6, _⟩ := g2
        have hrl := Tr.rt_le l
        rw [get3 h7 hNt g1 (by omega), Option.bind_some, Nm_at (by omega) (by omega), Option.bind_some, nI_clamp' (show k < 2 ^ 31 by omega), d5]
        by_cases c : i < Tr.rt l
        · have hlt : nI i < nI (Tr.rt l) := by rw [nI_lt' (by omega) (by omega)]; exact c
          rw [if_pos hlt, if_pos hlt, Nm_at (by omega) (by omega), Option.bind_some, d6, if_neg (by omega), show nI k + 1 = nI (k + 1) from nI_add' k 1]
          have := part_loop (f := f) (z31 := z31) h7 hNt hn0 hc8 l (k + 1) (nI k) g3 g4 (by omega) i 0 FU c (by unfold FU; omega) (by omega)
          rw [Nat.zero_add] at this
          exact this
        · have hlt : ¬ nI i < nI (Tr.rt l) := by rw [nI_lt' (by omega) (by omega)]; exact c
          exact ⟨-1, by rw [if_neg hlt], by rw [if_neg hlt]⟩
end P
end

section
/-! the tokens of nodes -/
def TKN (n : Nat) (x : Nat → Nat) (a : Lb) (l : Tr Lb) : Prop := (a.tk = -1 ∧ a.wd = 0) ∨ ∃ i, a.tk = nI i ∧ i + 1 < (cutE n x).length ∧ a.wd = (tkT n x).twd i ∧ ((a.k ≠ 1 ∧ a.pl = (tkT n x).tpl i) ∨ (a.k = 1 ∧ ∃ (z : Nat) (a1 : Lb) (u : Unit) (l1 r1 : Tr Lb), l = .inner z a1 u l1 r1 ∧ a1.pl = (tkT n x).tpl i))
def AllT (n : Nat) (x : Nat → Nat) : Tr Lb → Prop
  | .leaf => True
  | .inner _ a _ l r => TKN n x a l ∧ AllT n x l ∧ AllT n x r
theorem AllT_app {n : Nat} {x : Nat → Nat} : ∀ (s t : Tr Lb), AllT n x s → AllT n x t → AllT n x (Tr.app s t)
  | .leaf, t, _, h => h
  | .inner _ a _ l r, t, ⟨h1, h2, h3⟩, h => ⟨h1, h2, AllT_app r t h3 h⟩
theorem AllT_nd {n : Nat} {x : Nat → Nat} {a : Lb} {l : Tr Lb} (h : AllT n x l) (g : TKN n x a l) : AllT n x (Tr.nd a l) := ⟨g, h, trivial⟩
section G
variable {n : Nat} {x : Nat → Nat}
theorem TKN_lb (ht : TextIs n x) {k : Int32} {i : Nat} {l : Tr Lb} {pl sec : Int32} (h1 : k ≠ 1) (h : 1 < (tkT n x).tkd i) (hp : pl = (tkT n x).tpl i) : TKN n x (k, pl, sec, (tkT n x).twd i, nI i) l := Or.inr ⟨i, rfl, kd_in ht h, rfl, Or.inl ⟨h1, hp⟩⟩
/-- the first token of an expression -/
theorem Vx.hd {T : Tks} : ∀ {f md r a b : Nat} {t : Tr Lb}, Vx T f md r a b t → 1 < T.tkd a
  | 0, _, _, _, _, _, h => h.elim
  | f + 1, 0, r, a, b, t, h => by
    rcases h with ⟨_, _, h⟩ | ⟨_, h, _⟩ | ⟨_, h, _⟩ | ⟨_, h, _⟩ | ⟨_, b', _, _, r', l, _, h2, _⟩ | ⟨_, h, _⟩ | ⟨_, _, m, _, r1', t1, t2, _, h2, _⟩ | ⟨_, m, _, r1', r2, t1, t2, _, _, h2, _⟩ | ⟨_, m, m2, _, _, r1', r2, r3, t1, t2, t3, _, _, _, h2, _⟩
    · rcases h with ⟨h, _⟩ | ⟨h, _⟩ | ⟨h, _⟩ | ⟨h, _⟩ <;> omega
    · omega
    · omega
    · omega
    · exact Vx.hd h2
    · omega
    · exact Vx.hd h2
    · exact Vx.hd h2
    · exact Vx.hd h2
  | f + 1, 1, r, a, b, t, h => by
    rcases h with (⟨r, h⟩ | ⟨_, _, h, _⟩) | ⟨m, t1, t2, _, h, _⟩
    · exact Vx.hd h
    · omega
    · exact Vx.hd h
  | f + 1, 2, r, a, b, t, h => by
    rcases h with (⟨r, h⟩ | ⟨_, _, h, _⟩) | ⟨m, t1, t2, _, h, _⟩
    · exact Vx.hd h
    · omega
    · exact Vx.hd h
  | f + 1, 3, r, a, b, t, h => by
    rcases h with ⟨l, h, _⟩ | ⟨m, t1, l, _, h, _⟩
    · exact Vx.hd h
    · exact Vx.hd h
  | f + 1, _ + 4, r, a, b, t, h => h.elim
theorem Vx.tks (ht : TextIs n x) : ∀ (f md r a b : Nat) (t : Tr Lb), Vx (tkT n x) f md r a b t → AllT n x t
  | 0, _, _, _, _, _, h => h.elim
  | f + 1, 0, r, a, b, t, h => by
    have ih := Vx.tks ht f
    rcases h with ⟨_, _, h⟩ | ⟨_, _, b', _, _, r', h⟩ | ⟨_, h1, _, b', _, _, l, h2, h3⟩ | ⟨_, h1, b', _, _, l, h2, h3⟩ | ⟨_, b', _, h1, r', l, _, h2, h3⟩ | ⟨_, h1, r', l, _, h2, h3⟩ | ⟨h0, _, m, h1, r1', t1, t2, _, h2, h3, h4⟩ | ⟨_, m, h1, r1', r2, t1, t2, _, _, h2, h3, h4⟩ | ⟨_, m, m2, h1, _, r1', r2, r3, t1, t2, t3, _, _, _, h2, h3, h4, h5⟩
    · rcases h with ⟨h, e⟩ | ⟨h, e⟩ | ⟨h, e⟩ | ⟨h, e⟩ <;> subst e
      · exact AllT_nd trivial (TKN_lb ht nn32.2.2 (by omega) rfl)
      · exact AllT_nd trivial (TKN_lb ht nn30.2.2 (by omega) rfl)
      · exact AllT_nd trivial (TKN_lb ht nn31.2.2 (by omega) rfl)
      · exact AllT_nd trivial (TKN_lb ht nn35.2.2 (by omega) rfl)
    · exact ih _ _ _ _ _ h
    · subst h2
      refine AllT_nd ?_ (TKN_lb ht nn33.2.2 (by omega) rfl)
      rcases h3 with ⟨_, e⟩ | h3
      · subst e; exact trivial
      · exact ih _ _ _ _ _ h3
    · subst h2
      refine AllT_nd ?_ (TKN_lb ht nn36.2.2 (by omega) rfl)
      rcases h3 with ⟨_, e⟩ | h3
      · subst e; exact trivial
      · exact ih _ _ _ _ _ h3
    · subst h3
      exact AllT_nd (ih _ _ _ _ _ h2) (TKN_lb ht nn38.2.2 (by omega) rfl)
    · subst h3
      exact AllT_nd (ih _ _ _ _ _ h2) (TKN_lb ht (show (39 : Int32) ≠ 1 by decide) (by omega) rfl)
    · subst h4
      have hk := rk_rng (show 0 < rkM ((tkT n x).tkd m) by omega)
      refine AllT_nd (AllT_app _ _ (ih _ _ _ _ _ h2) ?_) (TKN_lb ht (show (40 : Int32) ≠ 1 by decide) (by omega) rfl)
      rcases h3 with ⟨r2, _, h3⟩ | ⟨_, h5, r3, l, _, h3, h6⟩
      · exact ih _ _ _ _ _ h3
      · subst h6
        exact AllT_nd (ih _ _ _ _ _ h3) (TKN_lb ht (show (39 : Int32) ≠ 1 by decide) (by omega) rfl)
    · subst h4
      exact AllT_nd (AllT_app _ _ (ih _ _ _ _ _ h2) (ih _ _ _ _ _ h3)) (TKN_lb ht nn41.2.2 (by omega) rfl)
    · subst h5
      exact AllT_nd (AllT_app _ _ (ih _ _ _ _ _ h2) (AllT_app _ _ (ih _ _ _ _ _ h3) (ih _ _ _ _ _ h4))) (TKN_lb ht nn41.2.2 (by omega) rfl)
  | f + 1, 1, r, a, b, t, h => by
    have ih := Vx.tks ht f
    have el : ∀ {c a b t}, VEl (tkT n x) (Vx (tkT n x) f) c a b t → AllT n x t := fun y => by
      rcases y with ⟨r, y⟩ | ⟨_, _, y, e⟩
      · exact ih _ _ _ _ _ y
      · subst e; exact AllT_nd trivial (TKN_lb ht nn34.2.2 (by omega) rfl)
    rcases h with h | ⟨m, t1, t2, _, h1, h2, h3⟩
    · exact el h
    · subst h3; exact AllT_app _ _ (ih _ _ _ _ _ h1) (el h2)
  | f + 1, 2, r, a, b, t, h => by
    have ih := Vx.tks ht f
    have el : ∀ {c a b t}, VEl (tkT n x) (Vx (tkT n x) f) c a b t → AllT n x t := fun y => by
      rcases y with ⟨r, y⟩ | ⟨_, _, y, e⟩
      · exact ih _ _ _ _ _ y
      · subst e; exact AllT_nd trivial (TKN_lb ht nn34.2.2 (by omega) rfl)
    rcases h with h | ⟨m, t1, t2, _, h1, h2, h3⟩
    · exact el h
    · subst h3; exact AllT_app _ _ (ih _ _ _ _ _ h1) (el h2)
  | f + 1, 3, r, a, b, t, h => by
    have ih := Vx.tks ht f
    rcases h with ⟨l, h1, h2⟩ | ⟨m, t1, l, _, h1, h2, h3⟩
    · subst h2; exact AllT_nd (ih _ _ _ _ _ h1) (TKN_lb ht nn37.2.2 h1.hd rfl)
    · subst h3; exact AllT_app _ _ (ih _ _ _ _ _ h1) (AllT_nd (ih _ _ _ _ _ h2) (TKN_lb ht nn37.2.2 h2.hd rfl))
  | f + 1, _ + 4, r, a, b, t, h => h.elim
theorem VV.tks (ht : TextIs n x) {md r a b : Nat} {t : Tr Lb} (h : VV (tkT n x) md r a b t) : AllT n x t := by
  obtain ⟨f, h⟩ := h
  exact Vx.tks ht f md r a b t h
theorem VV.hd {T : Tks} {md r a b : Nat} {t : Tr Lb} (h : VV T md r a b t) : 1 < T.tkd a := by
  obtain ⟨f, h⟩ := h
  exact h.hd
theorem NmL.tks (ht : TextIs n x) (hc : TkC n x) {tg : Bool} {a : Nat} : ∀ {k : Nat} {l : Tr Lb}, NmL (tkT n x) tg a k l → AllT n x l
  | 0, l, h => by
    have h : l = .leaf := h
    subst h; exact trivial
  | k + 1, l, ⟨t0, h1, _, h3⟩ => by
    have ih := NmL.tks ht hc (k := k) h1
    rcases h3 with ⟨h, e⟩ | ⟨_, h, e⟩
    · subst e
      exact AllT_app _ _ ih (AllT_nd trivial (TKN_lb ht nn32.2.2 (by omega) rfl))
    · subst e
      have := TKN_lb (k := 5) (l := .leaf) (sec := -1) ht nn5.2.2 (show 1 < (tkT n x).tkd (a + 2 * k) by omega) rfl
      rw [hc.nt _ h] at this
      exact AllT_app _ _ ih (AllT_nd trivial this)
theorem TKN_no {k pl sec : Int32} {l : Tr Lb} : TKN n x (k, pl, sec, 0, -1) l := Or.inl ⟨rfl, rfl⟩
theorem SS.tks (ht : TextIs n x) (hc : TkC n x) : ∀ {md a b : Nat} {t : Tr Lb}, SS (tkT n x) (fun _ _ _ t => AllT n x t) md a b t → AllT n x t
  | 0, a, b, t, h => by
    rcases h with ⟨_, _, h⟩ | ⟨b', l, _, _, h1, _, h⟩ | ⟨b', r, l, _, _, _, h1, _, h⟩ | ⟨g, b', r1, r2, t1, t2, _, _, hg, _, h1, h2, _, _, h⟩ | ⟨k, l, g, c, l2, _, _, h1, _, _, hg, h2, _, h3, _, _, _, h⟩ | ⟨d, l, h1, h2, h⟩ | ⟨c, r, l, e, S, h0, _, h1, _, h2, _, _, h⟩ | ⟨c, r, l, e, S, h0, _, h0', _, h1, _, h2, _, _, h⟩ | ⟨c, e, S1, S2, h0, h1, _, h2, _, _, h⟩ | ⟨nm', c, e, R, Q, S, h1, h2, _, _, h⟩
    · rcases h with ⟨h, e⟩ | ⟨h, e⟩ | ⟨h, e⟩ <;> subst e
      · exact AllT_nd trivial (TKN_lb ht nn15.2.2 (by omega) rfl)
      · exact AllT_nd trivial (TKN_lb ht nn16.2.2 (by omega) rfl)
      · exact AllT_nd trivial (TKN_lb ht nn17.2.2 (by omega) rfl)
    · rcases h with ⟨h, e⟩ | ⟨h, e⟩ <;> subst e
      · exact AllT_nd (VV.tks ht h1) (TKN_lb ht nn18.2.2 (by omega) rfl)
      · exact AllT_nd (VV.tks ht h1) (TKN_lb ht nn19.2.2 (by omega) rfl)
    · subst h
      exact AllT_nd (VV.tks ht h1) (TKN_lb ht nn20.2.2 h1.hd rfl)
    · subst h
      exact AllT_nd (AllT_app _ _ (VV.tks ht h1) (VV.tks ht h2)) (TKN_lb ht nn21.2.2 (by omega) rfl)
    · subst h
      refine AllT_nd (AllT_app _ _ (AllT_nd (NmL.tks ht hc h1) TKN_no) (AllT_nd ?_ (TKN_lb ht nn33.2.2 (by omega) rfl))) (TKN_lb ht nn10.2.2 (by omega) rfl)
      rcases h3 with ⟨_, e⟩ | h3
      · subst e; exact trivial
      · exact VV.tks ht h3
    · rcases h with ⟨_, _, h⟩ | ⟨_, e, S, k1, _, _, h⟩
      · subst h
        exact AllT_nd h2 (TKN_lb ht nn11.2.2 (by omega) rfl)
      · subst h
        exact AllT_nd (AllT_app _ _ h2 (AllT_nd k1 TKN_no)) (TKN_lb ht nn11.2.2 (by omega) rfl)
    · subst h
      exact AllT_nd (AllT_app _ _ (VV.tks ht h1) (AllT_nd h2 TKN_no)) (TKN_lb ht nn12.2.2 (by omega) rfl)
    · subst h
      exact AllT_nd (AllT_app _ _ (AllT_nd trivial (TKN_lb ht nn32.2.2 (by omega) rfl)) (AllT_app _ _ (VV.tks ht h1) (AllT_nd h2 TKN_no))) (TKN_lb ht nn13.2.2 (by omega) rfl)
    · subst h
      exact AllT_nd (AllT_app _ _ (AllT_nd h1 TKN_no) (AllT_nd h2 TKN_no)) (TKN_lb ht nn14.2.2 (by omega) rfl)
    · subst h
      obtain ⟨f1, f2, f3, f4, k, f5, f6, f7⟩ := h1
      have hR : AllT n x R := by
        rcases f2 with ⟨_, k1, _, h, _⟩ | ⟨h, _, e, _⟩ | ⟨e, _⟩
        · exact NmL.tks ht hc h
        · subst e; exact AllT_nd trivial (TKN_lb ht nn32.2.2 (by omega) rfl)
        · subst e; exact trivial
      exact AllT_nd (AllT_app _ _ (AllT_nd hR TKN_no) (AllT_app _ _ (AllT_nd (NmL.tks ht hc f5) TKN_no) (AllT_nd h2 TKN_no))) (Or.inr ⟨nm', rfl, kd_in ht (by omega), rfl, Or.inr ⟨rfl, _, _, _, _, _, rfl, rfl⟩⟩)
  | 1, a, b, t, h => by
    rcases h with ⟨_, e⟩ | ⟨m, t1, t2, h1, h2, e⟩
    · subst e; exact trivial
    · subst e; exact AllT_app _ _ h1 h2
  | 2, a, b, t, h => by
    rcases h with ⟨c, r, e, S, _, h1, _, h2, h⟩ | ⟨m, c, r, e, S, l1, h0, _, _, h1, _, h2, h⟩
    · subst h
      exact AllT_app _ _ (VV.tks ht h1) (AllT_nd h2 TKN_no)
    · subst h
      exact AllT_app _ _ h0 (AllT_app _ _ (VV.tks ht h1) (AllT_nd h2 TKN_no))
  | _ + 3, a, b, t, h => h.elim
theorem SV.tks (ht : TextIs n x) (hc : TkC n x) {a b : Nat} {t : Tr Lb} (h : SV (tkT n x) 1 a b t) : AllT n x (Tr.nd rootL t) := AllT_nd (h (fun _ _ _ t => AllT n x t) (fun _ _ _ _ y => SS.tks ht hc y)) TKN_no
end G
end

section
theorem both_atT {n : Nat} {x : Nat → Nat} {bt : Nat → Int32} {f : NFn} : ∀ (t : Tr Lb) (q : Nat) (w : Int32), Tr.TH bt q w t → Tr.NH f q t → AllT n x t → ∀ i, q ≤ i → i < q + Tr.sz t → ∃ a l r w', NdC bt i a l w' ∧ NdAt f i a l r ∧ Tr.TH bt (i + 1) (nI i) l ∧ TKN n x a l ∧ i + 1 + Tr.sz l ≤ q + Tr.sz t
  | .leaf, q, w, _, _, _, i, h1, h2 => by simp only [Tr.sz] at h2; omega
  | .inner z a u l r, q, w, ⟨t1, t2, t3, t4⟩, ⟨n1, n2, n3⟩, ⟨a1, a2, a3⟩, i, h1, h2 => by
    simp only [Tr.sz] at h2 ⊢
    by_cases c : i = q
    · subst c
      exact ⟨a, l, r, w, ⟨t1, t2⟩, n1, t3, a1, by omega⟩
    · by_cases c2 : i < q + 1 + Tr.sz l
      · obtain ⟨a', l', r', w', g1, g2, g3, g4, g5⟩ := both_atT l (q + 1) (nI q) t3 n2 a2 i (by omega) (by omega)
        exact ⟨a', l', r', w', g1, g2, g3, g4, by omega⟩
      · obtain ⟨a', l', r', w', g1, g2, g3, g4, g5⟩ := both_atT r (q + 1 + Tr.sz l) w t4 n3 a3 i (by omega) (by omega)
        exact ⟨a', l', r', w', g1, g2, g3, g4, by omega⟩
section P
variable {n : Nat} {x : Nat → Nat} {Ns : Nat} {bs : Nat → Int32}
variable {N6 N7 N4 : Nat} {a6 a7 a4 : Nat → Int32}
variable {n0 Nt : Nat} {bt : Nat → Int32}
variable {C : NC} {f : NFn} {t : Tr Lb}
variable {q2 q3 q4 q5 q6 q7 q8 q9 z27 z12 z11 z9 : Int32}
/-- **character** -/
theorem char_eq (ht : TextIs n x) (hr : RowIs Ns bs n x) (hx : TxA n x N6 a6 N7 a7 N4 a4) (h7 : n0 * 7 ≤ Nt) (hNt : Nt ≤ 2 ^ 20) (hn0 : n0 ≤ 16390) (hTH : Tr.TH bt 0 (-1) t) (hNH : Tr.NH f 0 t) (hAT : AllT n x t) (hsz : Tr.sz t = n0) (hC : CapA n0 C) {q1 : Int32} (hq : q1 = 1) (k i ft : Int32) : ∃ v, F_Eq_character k i ft (nI n0) Nt bt (nI n) Ns bs = some v ∧ F_Mo_character k i q1 q2 q3 q4 q5 q6 q7 q8 q9 (nI n0) z27 C.2.2.2.1 f.2.2.2.1 z12 N7 a7 z11 N6 a6 z9 N4 a4 = some v := by
  subst hq
  obtain ⟨c1, c2, c3, c4, c5, c6, c7, c8⟩ := hC
  have hc4 := c4.1
  have hn := ht.le
  have hm := (tkOK ht).le
  have hx6 := hx.n6; have hx7 := hx.n7; have hx4 := hx.n4
  unfold F_Eq_character F_Mo_character nm F_Mo_isNode
  dsimp only
  rw [if_neg (show ¬ (1 : Int32) = 0 by decide)]
  by_cases hneg : k < 0
  · refine ⟨-1, ?_, by rw [if_pos hneg, if_pos rfl]⟩
    unfold F_Nd_get
    rw [if_pos hneg, Option.bind_some]
    by_cases hi : i < 0
    · rw [if_pos hi]
    · rw [if_neg hi, if_neg (fun h => hi (Int32.lt_trans h (by decide)))]
  · obtain ⟨k, rfl, hk31⟩ := pos_n hneg
    rw [if_neg hneg]
    by_cases hbig : n0 ≤ k
    · have hb : nI n0 ≤ nI k := by rw [nI_le' (by omega) (by omega)]; exact hbig
      refine ⟨-1, ?_, by rw [if_pos hb, if_pos rfl]⟩
      unfold F_Nd_get
      rw [if_neg hneg, if_pos hb, Option.bind_some]
      by_cases hi : i < 0
      · rw [if_pos hi]
      · rw [if_neg hi, if_neg (fun h => hi (Int32.lt_trans h (by decide)))]
    · have hb : ¬ nI n0 ≤ nI k := by rw [nI_le' (by omega) (by omega)]; exact hbig
      have hkn : k < n0 := by omega
      obtain ⟨a, l, r, w', g1, g2, g3, g4, g5⟩ := both_atT t 0 (-1) hTH hNH hAT k (Nat.zero_le _) (by omega)
      obtain ⟨d1, d2, d3, d4, _⟩ := g2
      rw [if_neg hb, if_neg (show ¬ (1 : Int32) = 0 by decide), Nm_at (by omega) (by omega), Option.bind_some, nI_clamp' (show k < 2 ^ 31 by omega), d4]
      rcases g4 with ⟨e1, e2⟩ | ⟨j, e1, e2, e3, e4⟩
      · rw [e1, if_neg (show ¬ (0 : Int32) ≤ -1 by decide)]
        refine ⟨-1, ?_, rfl⟩
        by_cases hi : i < 0
        · rw [if_pos hi]
        · rw [if_neg hi, get4 h7 hNt g1 hkn, Option.bind_some, e2, if_neg hi]
      · obtain ⟨y1, y2⟩ := cut_in ht e2
        rw [e1, if_pos (show (0 : Int32) ≤ nI j by rw [show (0 : Int32) = nI 0 from Eq.refl _, nI_le' (by omega) (by omega)]; omega), Option.bind_some]
        by_cases hi : i < 0
        · exact ⟨-1, by rw [if_pos hi], by rw [if_pos hi]⟩
        · obtain ⟨i, rfl, hi31⟩ := pos_n hi
          have hpl : F_Nd_tokenPlace (nI k) (nI n0) Nt bt = some (nI ((cutE n x).getD j (0, 0, 0)).2.1) := by
            rcases e4 with ⟨z1, z2⟩ | ⟨z1, zz, a1, uu, l1, r1, z2, z3⟩
            · rw [getT h7 hNt g1 hkn z1, z2]; rfl
            · rw [z2] at g3
              rw [getTF h7 hNt g1 hkn z1 ⟨g3.1, g3.2.1⟩ (by rw [z2] at g5; simp only [Tr.sz] at g5; omega), z3]; rfl
          have hwd : a.wd = nI (((cutE n x).getD j (0, 0, 0)).2.2 - ((cutE n x).getD j (0, 0, 0)).2.1) := e3
          rw [if_neg hi, if_neg hi, get4 h7 hNt g1 hkn, Option.bind_some, hpl, Nm_at (show j < N7 by omega) (by omega), Option.bind_some, Nm_at (show j < N6 by omega) (by omega), Option.bind_some, nI_clamp' (show j < 2 ^ 31 by omega), hx.en j (by omega), hx.pl j (by omega), nI_sub' y1, hwd, Option.bind_some]
          by_cases c : i < ((cutE n x).getD j (0, 0, 0)).2.2 - ((cutE n x).getD j (0, 0, 0)).2.1
          · rw [if_pos (show nI i < nI (((cutE n x).getD j (0, 0, 0)).2.2 - ((cutE n x).getD j (0, 0, 0)).2.1) by rw [nI_lt' (by omega) (by omega)]; exact c), if_neg (show ¬ nI (((cutE n x).getD j (0, 0, 0)).2.2 - ((cutE n x).getD j (0, 0, 0)).2.1) ≤ nI i by rw [nI_le' (by omega) (by omega)]; omega), show nI ((cutE n x).getD j (0, 0, 0)).2.1 + nI i = nI (((cutE n x).getD j (0, 0, 0)).2.1 + i) from nI_add' _ _, Rw_at hr (by omega), Option.bind_some, Nm_at (show ((cutE n x).getD j (0, 0, 0)).2.1 + i < N4 by omega) (by omega), Option.bind_some, nI_clamp' (by omega), hx.ch _ (by omega), show chr n x (((cutE n x).getD j (0, 0, 0)).2.1 + i) = nI (x (((cutE n x).getD j (0, 0, 0)).2.1 + i)) from if_pos (by omega)]
            exact ⟨_, rfl, rfl⟩
          · rw [if_neg (show ¬ nI i < nI (((cutE n x).getD j (0, 0, 0)).2.2 - ((cutE n x).getD j (0, 0, 0)).2.1) by rw [nI_lt' (by omega) (by omega)]; exact c), if_pos (show nI (((cutE n x).getD j (0, 0, 0)).2.2 - ((cutE n x).getD j (0, 0, 0)).2.1) ≤ nI i by rw [nI_le' (by omega) (by omega)]; omega)]
            exact ⟨-1, rfl, rfl⟩
end P
end
