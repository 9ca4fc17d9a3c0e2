section
/-! the building's loop -/
abbrev BS : Type := NC × NFn × (Nat → Int32) × (Nat → Int32) × Int32 × Nat × (Nat → Int32) × Nat × (Nat → Int32)
noncomputable def BLp (q1 q2 q3 q4 q5 q6 q7 q8 q0 z6 : Int32) (N6 : Nat) (a6 : Nat → Int32) (N5 : Nat) (a5 : Nat → Int32) (n2 : Nat) (b2 : Nat → Int32) (z34 : Int32) (N34 : Nat) (z35 : Int32) (N35 : Nat) (fu z n : Nat) (s : BS) := F_Mo_build_141 q1 q2 q3 q4 q5 q6 q7 q8 q0 z6 N6 a6 N5 a5 n2 b2 fu z34 N34 s.2.2.1 z35 N35 s.2.2.2.1 (nI z) (nI z) (nI z) (nI z) (nI z) (nI z) (nI z) (nI z) s.1.1 s.2.1.1 s.1.2.1 s.2.1.2.1 s.1.2.2.1 s.2.1.2.2.1 s.1.2.2.2.1 s.2.1.2.2.2.1 s.1.2.2.2.2.1 s.2.1.2.2.2.2.1 s.1.2.2.2.2.2.1 s.2.1.2.2.2.2.2.1 s.1.2.2.2.2.2.2.1 s.2.1.2.2.2.2.2.2.1 s.1.2.2.2.2.2.2.2 s.2.1.2.2.2.2.2.2.2 s.2.2.2.2.1 s.2.2.2.2.2.1 s.2.2.2.2.2.2.1 (nI (5 * n)) s.2.2.2.2.2.2.2.1 s.2.2.2.2.2.2.2.2
/-- the marks are small -/
def MkB (G : Tr Lb) (mk ex : Nat → Nat) : Prop := (∀ i, mk i ≤ 2) ∧ ∀ i, ex i ≤ Tr.sz G
theorem MkB.up {G G' : Tr Lb} {mk ex : Nat → Nat} (h : MkB G mk ex) (hs : Tr.sz G ≤ Tr.sz G') : MkB G' mk ex := ⟨h.1, fun i => Nat.le_trans (h.2 i) hs⟩
theorem XM.mkb {a b need k r : Nat} {mk ex mk' ex' : Nat → Nat} {G G' : Tr Lb} (h : XM a b need k r mk ex mk' ex') (hb : MkB G mk ex) (hs : Tr.sz G + 1 = Tr.sz G') : MkB G' mk' ex' := by
  have hp : ∀ j i, mkP a b j mk i ≤ 2 := fun j i => by
    unfold mkP
    split
    · decide
    · exact hb.1 i
  rcases h with ⟨_, h1, h2⟩ | ⟨_, _, h1, h2⟩ | ⟨_, _, _, h1, h2⟩
  · subst h1 h2
    exact ⟨hp _, fun i => by have := hb.2 i; omega⟩
  · subst h1 h2
    exact ⟨hp _, fun i => by have := hb.2 i; omega⟩
  · subst h1 h2
    refine ⟨fun i => ?_, fun i => ?_⟩
    · show (if i = a then 2 else mk i) ≤ 2
      have := hb.1 i
      split <;> omega
    · show (if i = b - 1 then ex i + 1 else ex i) ≤ _
      have := hb.2 i
      split <;> omega
/-- the state: the tree G so far, the tasks S (the next one first), the marks -/
def BOK (m N34 N35 : Nat) (G : Tr Lb) (S : List Tsk) (mk ex : Nat → Nat) (s : BS) : Prop := MkB G mk ex ∧ NdS s.1 s.2.1 G ∧ MkIs m N34 s.2.2.1 mk ∧ MkIs m N35 s.2.2.2.1 ex ∧ (∃ l, VecT s.2.2.2.2.2.1 s.2.2.2.2.2.2.1 l) ∧ VecT s.2.2.2.2.2.2.2.1 s.2.2.2.2.2.2.2.2 (flT S.reverse)
def BG (s s' : BS) (c sl : Nat) : Prop := ∃ c1 s1 c2 s2 c3 s3, GrowA s.1 s'.1 c1 s1 ∧ Grow s.2.2.2.2.2.1 s'.2.2.2.2.2.1 c2 s2 ∧ Grow s.2.2.2.2.2.2.2.1 s'.2.2.2.2.2.2.2.1 c3 s3 ∧ c = c1 + c2 + c3 ∧ sl = s1 + s2 + s3
theorem BG.rfl {s : BS} : BG s s 0 0 := ⟨0, 0, 0, 0, 0, 0, GrowA.rfl, Grow.rfl, Grow.rfl, Eq.refl _, Eq.refl _⟩
theorem BG.trans {s s' s'' : BS} {c sl c' sl' : Nat} (h : BG s s' c sl) (g : BG s' s'' c' sl') : BG s s'' (c + c') (sl + sl') := by
  obtain ⟨c1, s1, c2, s2, c3, s3, h1, h2, h3, h4, h5⟩ := h
  obtain ⟨d1, t1, d2, t2, d3, t3, g1, g2, g3, g4, g5⟩ := g
  exact ⟨_, _, _, _, _, _, h1.trans g1, h2.trans g2, h3.trans g3, by omega, by omega⟩
theorem VecT.pre {N : Nat} {b : Nat → Int32} {l l' : List Int32} (h : VecT N b (l ++ l')) : VecT N b l := by
  refine ⟨⟨?_, h.1.pos, h.1.room, fun i hi => ?_⟩, h.2⟩
  · have := h.1.le
    rw [List.length_append] at this
    omega
  · have := h.1.at' i (by rw [List.length_append]; omega)
    rw [this, List.getElem_append_left hi]
theorem XF.len {T : Tks} {z r a b c : Nat} {lab : Lb} {l : Tr Lb} {Ts : List Tsk} (h : XF T z r a b c lab l Ts) : Ts.length ≤ b - a := by
  rcases h with ⟨h1, h2⟩ | ⟨h1, h2, h3, h4, h5, r', h6, h7⟩ | ⟨h1, h2, h3, h4, h5, r', h6, h7⟩ | ⟨h1, h2, h3, h4, r1, t1, r2, t2, h5, h6, h7, h8, h9, h10⟩ | ⟨h1, h2, h3, r1, r2, t1, t2, h4, h5, h6, h7, h8, h9⟩ | ⟨h1, h2, m, h3, h4, r1, r2, r3, t1, t2, t3, h5, h6, h7, h8, h9, h10, h11, h12⟩
  · rcases h2 with ⟨_, _, h, _⟩ | ⟨_, _, _, _, _, L, _, h7, h6⟩ | ⟨_, _, _, _, L, _, h7, h6⟩
    · rw [h]; exact Nat.zero_le _
    · rw [h7]; unfold exT; rw [List.length_map]
      rcases h6 with ⟨h6, _⟩ | h6
      · rw [h6]; exact Nat.zero_le _
      · have := EC.le (fun s e t h => (VEl.lay h).2.1) h6; omega
    · rw [h7]; unfold rowT; rw [List.length_map]
      rcases h6 with ⟨h6, _⟩ | h6
      · rw [h6]; exact Nat.zero_le _
      · have := EC.le (fun s e t h => (VRow.lay h).2.1) h6; omega
  · have := h7.lt
    rw [h5]; show 1 ≤ _; omega
  · have := h7.lt
    rw [h5]; show 1 ≤ _; omega
  · have := h6.lt; have := h7.lt
    rw [h10]; show 2 ≤ _; omega
  · have := h6.lt; have := h7.lt
    rw [h9]; show 2 ≤ _; omega
  · have := h8.lt; have := h9.lt; have := h10.lt
    rw [h12]; show 3 ≤ _; omega
section Md
variable {T : Tks} {m N5 N6 : Nat} {a5 a6 : Nat → Int32}
variable {n2 : Nat} {b2 : Nat → Int32}
variable {q1 q2 q3 q4 q5 q6 q7 q8 q0 z6 z34 z35 : Int32} {N34 N35 : Nat}
/-- one turn: an expression -/
theorem turn_x (hT : TkOK T m) (hk : KdIs m N5 a5 T.tkd) (hp6 : PlIs m N6 a6 T) (hr : RkIs n2 b2) {G : Tr Lb} {S : List Tsk} {mk ex : Nat → Nat} {s : BS} {p a b need : Nat} {t : Tr Lb} (hB : BOK m N34 N35 G ((1, p, a, b, need) :: S) mk ex s) (hp : Tr.OnP G p) (hz : Tr.sz G ≤ 16400) (hb : b ≤ m) (x : EX T need a b t) (h0 : ∀ i, a ≤ i → i < b → mk i = 0) (hnd : need ≤ 10) (hS : S.length + (b - a) ≤ 17000) :
    ∃ (lab : Lb) (l : Tr Lb) (Ts : List Tsk) (s' : BS) (mk' ex' : Nat → Nat) (c sl : Nat), t = Tr.nd lab l ∧ BOK m N34 N35 (Tr.appAt (Tr.nd lab .leaf) G p) (Ts ++ S) mk' ex' s' ∧ BG s s' c sl ∧ ((b = a + 1 ∧ T.tkd a = 38 ∧ lab = T.lb 34 a ∧ l = .leaf ∧ Ts = [] ∧ mk' = mk ∧ ex' = ex) ∨ ∃ k r c, XF T (Tr.sz G) r (a + k) (b - k) c lab l Ts ∧ VR T r (a + k) (b - k) c t ∧ (∀ i, i < k → T.tkd (a + i) = 50 ∧ T.tkd (b - 1 - i) = 51) ∧ XM a b need k r mk ex mk' ex') ∧
      ∀ fu R c' sl', BLp q1 q2 q3 q4 q5 q6 q7 q8 q0 z6 N6 a6 N5 a5 n2 b2 z34 N34 z35 N35 fu (Tr.sz G + 1) (Ts.length + S.length) s' = some (R, c', sl') → BLp q1 q2 q3 q4 q5 q6 q7 q8 q0 z6 N6 a6 N5 a5 n2 b2 z34 N34 z35 N35 (fu + 1) (Tr.sz G) (S.length + 1) s = some (R, c + c', sl + sl') := by
  obtain ⟨C, f, b34, b35, fnd, N33, b33, N32, b32⟩ := s
  obtain ⟨hmb, h1, h2, h3, ⟨l0, h4⟩, h5⟩ := hB
  dsimp only at h1 h2 h3 h4 h5
  have hle := hT.le
  have hab : a < b := by
    rcases x with ⟨r, x, _⟩ | ⟨x, _⟩
    · exact x.lt
    · omega
  obtain ⟨C', f', lab, l, Ts, N', b', b34', b35', mk', ex', fnd', cc, ss, c1, s1, c2, s2, e1, w1, w2, w3, w4, w5, w6, w7, w8, w9, w10⟩ := Mo_bx hT hk hp6 hr (q1 := q1) (q2 := q2) (q3 := q3) (q4 := q4) (q5 := q5) (q6 := q6) (q7 := q7) (q8 := q8) (q9 := fnd) (q0 := q0) (z6 := z6) (z34 := z34) (z35 := z35) (N34 := N34) (N35 := N35) (b34 := b34) (b35 := b35) h1 hp hz hb x h4 h0 h2 h3 hnd
  have hTs : Ts.length ≤ b - a := by
    rcases w10 with ⟨_, _, _, _, h, _⟩ | ⟨k, r, c, h, _⟩
    · rw [h]; exact Nat.zero_le _
    · have := h.len; omega
  rw [List.reverse_cons] at h5
  have hst := flT_at (L := S.reverse) (M := []) h5.1
  rw [List.length_reverse] at hst
  obtain ⟨t0, t1, t2, t3, t4⟩ := hst
  dsimp only at t0 t1 t2 t3 t4
  have hsr : VecT N32 b32 (flT S.reverse) := by
    rw [flT_app] at h5
    exact h5.pre
  have hN := h5.1.le
  have hN' := h5.2
  rw [flT_len, List.length_append, List.length_reverse] at hN
  have hN : 5 * (S.length + 1) ≤ N32 := hN
  obtain ⟨N2, bs2, c3, s3, e2, v2, g2⟩ := Mo_pushT (q1 := q1) (q2 := q2) (q3 := q3) (q4 := q4) (q5 := q5) (q6 := q6) (q7 := q7) (q8 := q8) (q9 := fnd') (L := Ts) (S := S.reverse) w6.1 (Eq.refl _) hsr (by rw [List.length_reverse]; omega)
  have hrev : S.reverse ++ Ts.reverse = (Ts ++ S).reverse := List.reverse_append.symm
  rw [hrev] at e2 v2
  rw [List.length_reverse, List.length_reverse, List.length_append] at e2
  have hszx : Tr.sz (Tr.appAt (Tr.nd lab .leaf) G p) = Tr.sz G + 1 := Tr.sz_appAt G p hp
  have hmb' : MkB (Tr.appAt (Tr.nd lab .leaf) G p) mk' ex' := by
    rcases w10 with ⟨_, _, _, _, _, e1, e2⟩ | ⟨k, r, c, _, _, _, h⟩
    · rw [e1, e2]
      exact hmb.up (by omega)
    · exact h.mkb hmb hszx.symm
  refine ⟨lab, l, Ts, (C', f', b34', b35', fnd', N', b', N2, bs2), mk', ex', cc + c3, ss + s3, w3, ⟨hmb', w4, w8, w9, ⟨_, w6⟩, v2⟩, ⟨c1, s1, c2, s2, c3, s3, w5, w7, g2, by omega, by omega⟩, w10, ?_⟩
  intro fu R c' sl' hR
  unfold BLp at hR ⊢
  dsimp only at hR ⊢
  have z5 : nI (5 * (S.length + 1)) - 5 = nI (5 * S.length) := by
    rw [show (5 : Int32) = nI 5 from Eq.refl _, nI_sub' (by omega)]; congr 1
  have at' : ∀ j, j < 5 → F_Nm_at (nI (5 * S.length + j)) (nI (5 * (S.length + 1))) N32 b32 = some () := fun j hj => Nm_at (by omega) (by omega)
  have k0 : F_Nm_at (nI (5 * S.length)) (nI (5 * (S.length + 1))) N32 b32 = some () := at' 0 (by omega)
  have k1 : nI (5 * S.length) + 1 = nI (5 * S.length + 1) := nI_add' _ 1
  have k2 : nI (5 * S.length) + 2 = nI (5 * S.length + 2) := nI_add' _ 2
  have k3 : nI (5 * S.length) + 3 = nI (5 * S.length + 3) := nI_add' _ 3
  have k4 : nI (5 * S.length) + 4 = nI (5 * S.length + 4) := nI_add' _ 4
  rw [F_Mo_build_141, if_neg (show ¬ nI (5 * (S.length + 1)) ≤ (0 : Int32) by rw [show (0 : Int32) = nI 0 from Eq.refl _, nI_le' (by omega) (by omega)]; omega), z5, k0, Option.bind_some, k1, at' 1 (by omega), Option.bind_some, k2, at' 2 (by omega), Option.bind_some, k3, at' 3 (by omega), Option.bind_some, k4, at' 4 (by omega), Option.bind_some, nI_clamp' (show 5 * S.length < 2 ^ 31 by omega), nI_clamp' (show 5 * S.length + 1 < 2 ^ 31 by omega), nI_clamp' (show 5 * S.length + 2 < 2 ^ 31 by omega), nI_clamp' (show 5 * S.length + 3 < 2 ^ 31 by omega), nI_clamp' (show 5 * S.length + 4 < 2 ^ 31 by omega), t0, t1, t2, t3, t4, if_neg (show ¬ nI 1 = (0 : Int32) by decide), if_pos (show nI 1 = (1 : Int32) from Eq.refl _)]
  rw [Nat.add_assoc, Nat.add_assoc]
  refine bw_ok e1 (bw_ok e2 ?_)
  dsimp only
  rw [show nI (Tr.sz G) + 1 = nI (Tr.sz G + 1) from nI_add' _ 1]
  exact hR
end Md
end
