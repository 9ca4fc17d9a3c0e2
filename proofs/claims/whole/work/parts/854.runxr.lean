section
section Md
variable {T : Tks} {m N5 N6 : Nat} {a5 a6 : Nat → Int32} {tx : Nat → List Int32}
variable {n2 : Nat} {b2 : Nat → Int32}
variable {q1 q2 q3 q4 q5 q6 q7 q8 q0 z6 z34 z35 : Int32} {N34 N35 : Nat}
/-- a row's task -/
theorem Run_r1 (hT : TkOK T m) (hk : KdIs m N5 a5 T.tkd) (hp6 : PlIs m N6 a6 T) (hTx : TxK T tx) {a b : Nat} {t : Tr Lb} (x : VRow T a b t) (hb : b ≤ m)
    (IHx : ∀ a' b' need t, a ≤ a' → b' ≤ b → EX T need a' b' t → need ≤ 10 → ∀ z, RunT T tx m q1 q2 q3 q4 q5 q6 q7 q8 q0 z6 N6 a6 N5 a5 n2 b2 z34 N34 z35 N35 (1, z, a', b', need) t (wX T tx need t) (b' - a')) (z u : Nat) : RunT T tx m q1 q2 q3 q4 q5 q6 q7 q8 q0 z6 N6 a6 N5 a5 n2 b2 z34 N34 z35 N35 (3, z, a, b, u) t (wX T tx 1 t) (b - a + 1) := by
  intro S G mu xu s x0 hB hz hsz hS h0 hx hx0
  dsimp only at hz hS h0 hx hx0 ⊢
  have hle := hT.le
  obtain ⟨l, x, ht⟩ := x
  have hlt := x.lt
  obtain ⟨L, s1, c1, sl1, hl, hE, hB1, hG1, hgo⟩ := turn_r hT hk hp6 (q1 := q1) (q2 := q2) (q3 := q3) (q4 := q4) (q5 := q5) (q6 := q6) (q7 := q7) (q8 := q8) (q0 := q0) (z6 := z6) (N6 := N6) (a6 := a6) (N5 := N5) (a5 := a5) (n2 := n2) (b2 := b2) (z34 := z34) (N34 := N34) (z35 := z35) (N35 := N35) hB hz (by omega) hb x hS
  have hP : ∀ s e t, VEl T (VV T) true s e t → s < e := fun s e t h => (VEl.lay h).2.1
  have hszt : Tr.sz t = Tr.sz (joinT L) + 1 := by rw [ht, hl]; rfl
  have hsG1 : Tr.sz (Tr.appAt (Tr.nd (T.lb 37 a) .leaf) G z) = Tr.sz G + 1 := Tr.sz_appAt G z hz
  have hon : Tr.OnP (Tr.appAt (Tr.nd (T.lb 37 a) .leaf) G z) (Tr.sz G) := Tr.OnP_new G z hz
  have happ : Tr.appAt (joinT L) (Tr.appAt (Tr.nd (T.lb 37 a) .leaf) G z) (Tr.sz G) = Tr.appAt t G z := by
    rw [Tr.appAt_new G z hz, ht, hl]; rfl
  have hRx : ∀ x ∈ L, RunT T tx m q1 q2 q3 q4 q5 q6 q7 q8 q0 z6 N6 a6 N5 a5 n2 b2 z34 N34 z35 N35 (1, Tr.sz G, x.1, x.2.1, 1) x.2.2 (wX T tx 1 x.2.2) (x.2.1 - x.1 + 0) := by
    intro x hxm
    obtain ⟨g1, g2, g3⟩ := EC.mem hP hE x hxm
    refine IHx x.1 x.2.1 1 x.2.2 g2 g3 ?_ (by omega) (Tr.sz G)
    rcases g1 with ⟨r, g⟩ | ⟨_, g⟩
    · exact Or.inl ⟨r, g, Or.inl (((g.lay.2.2 rfl).2.2.2.2).1)⟩
    · exact Or.inr g
  obtain ⟨tn, s2, m2, e2, c2, sl2, g1, g2, g3, g4, g5, g6⟩ := RunL (P := VEl T (VV T) true) (tk := fun x => (1, Tr.sz G, x.1, x.2.1, 1)) (W := fun x => wX T tx 1 x.2.2) (sep := 54) (sc := 44) (d := 0) (z := Tr.sz G) (Or.inl rfl) (fun i hi => (hTx i).2.2.2.2.1 hi) hP (by omega) (fun x => ⟨rfl, rfl, rfl⟩) L a hE hRx S (Tr.appAt (Tr.nd (T.lb 37 a) .leaf) G z) mu xu s1 x0 hB1 hon (by rw [hsG1]; omega) hS h0 hx hx0
  rw [happ] at g2
  have hrt : ∀ x ∈ L, Tr.rt x.2.2 = 1 := fun x hxm => (VEl.lay (EC.mem hP hE x hxm).1).2.2.2.1
  refine ⟨tn + 1, s2, m2, e2, c1 + c2, sl1 + sl2, by omega, g2, hG1.trans g3, g4, fun p0 d1 d2 => ?_, fun fu R c' sl' hh => ?_⟩
  · have hbody : bodyW T tx (T.lb 37 a) (wF T tx l (needW T (T.lb 37 a) l)) = wSep [44, 32] (L.map (fun x => wX T tx 1 x.2.2)) := by
      rw [show needW T (T.lb 37 a) l = fun _ => 1 from funext (fun _ => rfl), hl, wF_join L hrt]
      rfl
    rw [g5 p0 d1 d2, ht, wX_nd, hbody]
    rfl
  · rw [hszt] at hh
    have a3 := g6 fu R c' sl' (by rw [hsG1, show Tr.sz G + 1 + Tr.sz (joinT L) = Tr.sz G + (Tr.sz (joinT L) + 1) by omega]; exact hh)
    rw [hsG1] at a3
    have a4 := hgo (fu + tn) R _ _ (by rw [show (exT (Tr.sz G) L).length = L.length from List.length_map ..]; exact a3)
    rw [show fu + (tn + 1) = fu + tn + 1 by omega, show c1 + c2 + c' = c1 + (c2 + c') by omega, show sl1 + sl2 + sl' = sl1 + (sl2 + sl') by omega]
    exact a4
/-- all expressions and rows -/
theorem Run_xr (hT : TkOK T m) (hk : KdIs m N5 a5 T.tkd) (hp6 : PlIs m N6 a6 T) (hTx : TxK T tx) (hr : RkIs n2 b2) : ∀ (n : Nat), (∀ a b need t, EX T need a b t → need ≤ 10 → b ≤ m → 2 * (b - a) ≤ n → ∀ z, RunT T tx m q1 q2 q3 q4 q5 q6 q7 q8 q0 z6 N6 a6 N5 a5 n2 b2 z34 N34 z35 N35 (1, z, a, b, need) t (wX T tx need t) (b - a)) ∧ (∀ a b t, VRow T a b t → b ≤ m → 2 * (b - a) + 1 ≤ n → ∀ z, RunT T tx m q1 q2 q3 q4 q5 q6 q7 q8 q0 z6 N6 a6 N5 a5 n2 b2 z34 N34 z35 N35 (3, z, a, b, 0) t (wX T tx 1 t) (b - a + 1))
  | 0 => by
    refine ⟨fun a b need t x _ _ h => ?_, fun a b t x _ h => ?_⟩
    · exfalso
      rcases x with ⟨r, x, _⟩ | ⟨x, _⟩
      · have := x.lt; omega
      · omega
    · omega
  | n + 1 => by
    obtain ⟨ih1, ih2⟩ := Run_xr hT hk hp6 hTx hr n
    refine ⟨fun a b need t x hnd hb h z => ?_, fun a b t x hb h z => ?_⟩
    · exact Run_x1 hT hk hp6 hTx hr (q1 := q1) (q2 := q2) (q3 := q3) (q4 := q4) (q5 := q5) (q6 := q6) (q7 := q7) (q8 := q8) (q0 := q0) (z6 := z6) (N6 := N6) (a6 := a6) (N5 := N5) (a5 := a5) (n2 := n2) (b2 := b2) (z34 := z34) (N34 := N34) (z35 := z35) (N35 := N35) x hnd hb (fun a' b' nd t' i1 i2 i3 x' i4 z => ih1 a' b' nd t' x' i4 (by omega) (by omega) z) (fun a' b' t' i1 i2 i3 x' z => ih2 a' b' t' x' (by omega) (by omega) z) z
    · exact Run_r1 hT hk hp6 hTx (q1 := q1) (q2 := q2) (q3 := q3) (q4 := q4) (q5 := q5) (q6 := q6) (q7 := q7) (q8 := q8) (q0 := q0) (z6 := z6) (N6 := N6) (a6 := a6) (N5 := N5) (a5 := a5) (n2 := n2) (b2 := b2) (z34 := z34) (N34 := N34) (z35 := z35) (N35 := N35) x hb (fun a' b' nd t' i1 i2 x' i4 z => ih1 a' b' nd t' x' i4 (by omega) (by omega) z) z 0
/-- an expression's task runs -/
theorem Run_x (hT : TkOK T m) (hk : KdIs m N5 a5 T.tkd) (hp6 : PlIs m N6 a6 T) (hTx : TxK T tx) (hr : RkIs n2 b2) {a b need : Nat} {t : Tr Lb} (x : EX T need a b t) (hnd : need ≤ 10) (hb : b ≤ m) (z : Nat) : RunT T tx m q1 q2 q3 q4 q5 q6 q7 q8 q0 z6 N6 a6 N5 a5 n2 b2 z34 N34 z35 N35 (1, z, a, b, need) t (wX T tx need t) (b - a) :=
  (Run_xr hT hk hp6 hTx hr (q1 := q1) (q2 := q2) (q3 := q3) (q4 := q4) (q5 := q5) (q6 := q6) (q7 := q7) (q8 := q8) (q0 := q0) (z6 := z6) (N6 := N6) (a6 := a6) (N5 := N5) (a5 := a5) (n2 := n2) (b2 := b2) (z34 := z34) (N34 := N34) (z35 := z35) (N35 := N35) (2 * (b - a))).1 a b need t x hnd hb (Nat.le_refl _) z
end Md
end
