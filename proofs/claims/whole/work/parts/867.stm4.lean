section
/-- the forms of a statement: its tree t, the nodes X that stand at once, the tasks, the marks -/
def SF (T : Tks) (z a b : Nat) (t X : Tr Lb) (Ts : List Tsk) (mk mk' : Nat → Nat) : Prop :=
  (b = a + 2 ∧ T.tkd (a + 1) = 55 ∧ X = t ∧ Ts = [] ∧ mk' = mk ∧ ∃ k : Int32, t = Tr.nd (T.lb k a) .leaf ∧ ((T.tkd a = 16 ∧ k = 15) ∨ (T.tkd a = 17 ∧ k = 16) ∨ (T.tkd a = 18 ∧ k = 17)))
  ∨ (∃ b' l L, ∃ k : Int32, b = b' + 1 ∧ T.tkd b' = 55 ∧ ((T.tkd a = 20 ∧ k = 18) ∨ (T.tkd a = 21 ∧ k = 19)) ∧ t = Tr.nd (T.lb k a) l ∧ X = Tr.nd (T.lb k a) .leaf ∧ l = joinT L ∧ EC (VEl T (VV T) true) T.tkd 54 (a + 1) L b' ∧ Ts = exT z L ∧ mk' = mk)
  ∨ (∃ b' r l, b = b' + 1 ∧ T.tkd b' = 55 ∧ ¬ wordK (T.tkd a) ∧ VV T 0 r a b' l ∧ t = Tr.nd (T.lb 20 a) l ∧ X = Tr.nd (T.lb 20 a) .leaf ∧ Ts = [(1, z, a, b', 1)] ∧ mk' = mk)
  ∨ (∃ g b' r1 r2 t1 t2, b = b' + 1 ∧ T.tkd b' = 55 ∧ T.tkd g = 56 ∧ T.tkd a = 2 ∧ VV T 0 r1 a g t1 ∧ VV T 0 r2 (g + 1) b' t2 ∧ t = Tr.nd (21, T.tpl g, T.tpl a, T.twd g, nI g) (Tr.app t1 t2) ∧ X = Tr.nd (21, T.tpl g, T.tpl a, T.twd g, nI g) .leaf ∧ Ts = [(1, z, a, g, 1), (1, z, g + 1, b', 1)] ∧ mk' = mk)
  ∨ (∃ n l c L, T.tkd a = 52 ∧ 0 < n ∧ NmL T true (a + 1) n l ∧ T.tkd (a + 2 * n) = 53 ∧ T.tkd (a + 2 * n + 1) = 56 ∧ T.tkd (a + 2 * n + 2) = 2 ∧ T.tkd (a + 2 * n + 3) = 50 ∧ T.tkd c = 51 ∧ T.tkd (c + 1) = 55 ∧ b = c + 2 ∧ t = Tr.nd (10, T.tpl (a + 2 * n + 1), T.tpl a, T.twd (a + 2 * n + 1), nI (a + 2 * n + 1)) (Tr.app (Tr.nd (T.nms a) l) (Tr.nd (33, T.tpl (a + 2 * n + 2), T.tpl (a + 2 * n + 3), T.twd (a + 2 * n + 2), nI (a + 2 * n + 2)) (joinT L))) ∧ X = Tr.nd (10, T.tpl (a + 2 * n + 1), T.tpl a, T.twd (a + 2 * n + 1), nI (a + 2 * n + 1)) (Tr.app (Tr.nd (T.nms a) l) (Tr.nd (33, T.tpl (a + 2 * n + 2), T.tpl (a + 2 * n + 3), T.twd (a + 2 * n + 2), nI (a + 2 * n + 2)) .leaf)) ∧ ((c = a + 2 * n + 4 ∧ L = []) ∨ EC (VEl T (VV T) true) T.tkd 54 (a + 2 * n + 4) L c) ∧ Ts = exT (z + n + 2) L ∧ mk' = mk)
  ∨ (∃ d L el l2, T.tkd a = 10 ∧ IfC T 10 a L d ∧ L ≠ [] ∧ ((el = none ∧ T.tkd d = 13 ∧ b = d + 1 ∧ l2 = .leaf) ∨ ∃ e S, el = some (d, e) ∧ T.tkd d = 12 ∧ SV T 1 (d + 1) e S ∧ T.tkd e = 13 ∧ b = e + 1 ∧ l2 = Tr.nd (T.blk d) S) ∧ t = Tr.nd (T.lb 11 a) (Tr.app (ifF T L) l2) ∧ X = Tr.nd (T.lb 11 a) .leaf ∧ Ts = ifT z L ++ elT z el ∧ mk' = mk)
  ∨ (∃ c r l e S, T.tkd a = 14 ∧ T.tkd (a + 1) = 50 ∧ VV T 0 r (a + 2) c l ∧ T.tkd c = 51 ∧ SV T 1 (c + 1) e S ∧ T.tkd e = 13 ∧ b = e + 1 ∧ t = Tr.nd (T.lb 12 a) (Tr.app l (Tr.nd (T.blk c) S)) ∧ X = Tr.nd (T.lb 12 a) .leaf ∧ Ts = [(1, z, a + 2, c, 1), (2, z, c + 1, e, c)] ∧ mk' = mk)
  ∨ (∃ c r l e S, T.tkd a = 15 ∧ T.tkd (a + 1) = 50 ∧ T.tkd (a + 2) = 2 ∧ T.tkd (a + 3) = 56 ∧ VV T 0 r (a + 4) c l ∧ T.tkd c = 51 ∧ SV T 1 (c + 1) e S ∧ T.tkd e = 13 ∧ b = e + 1 ∧ t = Tr.nd (T.lb 13 a) (Tr.app (Tr.nd (T.lb 32 (a + 2)) .leaf) (Tr.app l (Tr.nd (T.blk c) S))) ∧ X = Tr.nd (T.lb 13 a) (Tr.nd (T.lb 32 (a + 2)) .leaf) ∧ Ts = [(1, z, a + 4, c, 1), (2, z, c + 1, e, c)] ∧ mk' = mk)
  ∨ (∃ c e S1 S2, T.tkd a = 22 ∧ SV T 1 (a + 1) c S1 ∧ T.tkd c = 23 ∧ SV T 1 (c + 1) e S2 ∧ T.tkd e = 13 ∧ b = e + 1 ∧ t = Tr.nd (T.lb 14 a) (Tr.app (Tr.nd (T.blk a) S1) (Tr.nd (T.blk c) S2)) ∧ X = Tr.nd (T.lb 14 a) .leaf ∧ Ts = [(2, z, a + 1, c, a), (2, z, c + 1, e, c)] ∧ mk' = mk)
  ∨ (∃ nm' c e R Q S, FHd T a nm' c R Q ∧ SV T 1 (c + 1) e S ∧ T.tkd e = 13 ∧ b = e + 1 ∧ t = Tr.nd (1, T.tpl a, -1, T.twd nm', nI nm') (Tr.app (Tr.nd (T.nms nm') R) (Tr.app (Tr.nd (T.nms (nm' + 1)) Q) (Tr.nd (T.blk c) S))) ∧ X = Tr.nd (1, T.tpl a, -1, T.twd nm', nI nm') (Tr.app (Tr.nd (T.nms nm') R) (Tr.nd (T.nms (nm' + 1)) Q)) ∧ Ts = [(2, z, c + 1, e, c)] ∧ mk' = fnM T a nm' mk)
theorem FHd.le {T : Tks} {a nm' c : Nat} {R Q : Tr Lb} (h : FHd T a nm' c R Q) : a + 1 ≤ nm' ∧ nm' + 2 ≤ c := by
  obtain ⟨f1, f2, f3, f4, n, f5, f6, f7⟩ := h
  constructor
  · rcases f2 with ⟨_, n, _, _, _, _, k⟩ | ⟨_, _, _, k⟩ | ⟨_, k⟩ <;> omega
  · by_cases e : n = 0
    · rw [if_pos e] at f6; omega
    · rw [if_neg e] at f6; omega
section Md
variable {T : Tks} {m N5 N6 : Nat} {a5 a6 : Nat → Int32}
variable {q1 q2 q3 q4 q5 q6 q7 q8 q9 q0 z6 z34 : Int32}
variable {C : NC} {f : NFn} {N N34 : Nat} {b0 b34 : Nat → Int32} {G : Tr Lb} {p a : Nat} {l0 : List Int32} {mk : Nat → Nat}
/-- the building of a statement -/
theorem Mo_stm (hT : TkOK T m) (hk : KdIs m N5 a5 T.tkd) (hp6 : PlIs m N6 a6 T) (h : NdS C f G) (hp : Tr.OnP G p) (hv : VecT N b0 l0) (h34 : MkIs m N34 b34 mk) {b : Nat} {t : Tr Lb} (x : SV T 0 a b t) (hb : b ≤ m) (hz : Tr.sz G + Tr.sz t ≤ 16390) : ∃ X Ts mk', StO m q1 q2 q3 q4 q5 q6 q7 q8 q9 q0 N5 a5 z6 N6 a6 z34 N34 b34 C f N b0 G p a b X Ts mk' ∧ SF T (Tr.sz G) a b t X Ts mk mk' := by
  have hle := hT.le
  rcases x.unfold with ⟨h1, h2, h3⟩ | ⟨b', l, h1, h2, h3, h4, h5⟩ | ⟨b', r, l, h1, h2, h3, h4, h5, h6⟩ | ⟨g, b', r1, r2, t1, t2, h1, h2, h3, h4, h5, h6, h7, h8, h9⟩ | ⟨n, l, g, c, l2, h1, h2, h3, h4, h5, h6, h7, h8, h9, h10, h11, h12, h13⟩ | ⟨d, l, h1, h2, h3⟩ | ⟨c, r, l, e, S, h1, h2, h3, h4, h5, h6, h7, h8⟩ | ⟨c, r, l, e, S, h1, h2, h3, h4, h5, h6, h7, h8, h9, h10⟩ | ⟨c, e, S1, S2, h1, h2, h3, h4, h5, h6, h7⟩ | ⟨nm', c, e, R, Q, S, h1, h2, h3, h4, h5⟩
  · have key : ∀ k : Int32, t = Tr.nd (T.lb k a) .leaf → ((T.tkd a = 16 ∧ k = 15) ∨ (T.tkd a = 17 ∧ k = 16) ∨ (T.tkd a = 18 ∧ k = 17)) → ∃ X Ts mk', StO m q1 q2 q3 q4 q5 q6 q7 q8 q9 q0 N5 a5 z6 N6 a6 z34 N34 b34 C f N b0 G p a b X Ts mk' ∧ SF T (Tr.sz G) a b t X Ts mk mk' := fun k ht hka => ⟨_, _, _, St_word hT hk hp6 h hp (by omega) hv h34 (by omega) hka, Or.inl ⟨h1, h2, ht.symm, rfl, rfl, k, ht, hka⟩⟩
    rcases h3 with ⟨k1, k2⟩ | ⟨k1, k2⟩ | ⟨k1, k2⟩
    · exact key 15 k2 (Or.inl ⟨k1, rfl⟩)
    · exact key 16 k2 (Or.inr (Or.inl ⟨k1, rfl⟩))
    · exact key 17 k2 (Or.inr (Or.inr ⟨k1, rfl⟩))
  · subst h1
    rcases h5 with ⟨k1, k2⟩ | ⟨k1, k2⟩
    · obtain ⟨L, w1, w2, w3⟩ := St_list20 hT hk hp6 (q1 := q1) (q2 := q2) (q3 := q3) (q4 := q4) (q5 := q5) (q6 := q6) (q7 := q7) (q8 := q8) (q9 := q9) (q0 := q0) (z6 := z6) (z34 := z34) h hp (by omega) hv h34 k1 h3 (by omega)
      exact ⟨_, _, _, w1, Or.inr (Or.inl ⟨b', l, L, 18, rfl, h2, Or.inl ⟨k1, rfl⟩, k2, rfl, w2, w3, rfl, rfl⟩)⟩
    · obtain ⟨L, w1, w2, w3⟩ := St_list21 hT hk hp6 (q1 := q1) (q2 := q2) (q3 := q3) (q4 := q4) (q5 := q5) (q6 := q6) (q7 := q7) (q8 := q8) (q9 := q9) (q0 := q0) (z6 := z6) (z34 := z34) h hp (by omega) hv h34 k1 h3 (by omega)
      exact ⟨_, _, _, w1, Or.inr (Or.inl ⟨b', l, L, 19, rfl, h2, Or.inr ⟨k1, rfl⟩, k2, rfl, w2, w3, rfl, rfl⟩)⟩
  · subst h1
    exact ⟨_, _, _, St_expr hT hk hp6 h hp (by omega) hv h34 h3 h4 h2 (by omega), Or.inr (Or.inr (Or.inl ⟨b', r, l, rfl, h2, h3, h4, h6, rfl, rfl, rfl⟩))⟩
  · subst h1
    exact ⟨_, _, _, St_give hT hk hp6 h hp (by omega) hv h34 h4 h5 h3 h6 (by omega), Or.inr (Or.inr (Or.inr (Or.inl ⟨g, b', r1, r2, t1, t2, rfl, h2, h3, h4, h5, h6, h9, rfl, rfl, rfl⟩)))⟩
  · subst h5 h12
    have hls : Tr.sz l = n := h3.sz
    have hszt : Tr.sz t = n + Tr.sz l2 + 3 := by
      rw [h13]
      show Tr.sz (Tr.app (Tr.nd (T.nms a) l) (Tr.nd _ l2)) + 0 + 1 = _
      rw [Tr.sz_app]
      show (Tr.sz l + 0 + 1) + (Tr.sz l2 + 0 + 1) + 0 + 1 = _
      omega
    have hac : a < c := by
      rcases h9 with ⟨k, _⟩ | k
      · omega
      · have := k.lt; omega
    obtain ⟨L, w1, w2, w3⟩ := St_many hT hk hp6 (q1 := q1) (q2 := q2) (q3 := q3) (q4 := q4) (q5 := q5) (q6 := q6) (q7 := q7) (q8 := q8) (q9 := q9) (q0 := q0) (z6 := z6) (z34 := z34) h hp hv h34 (by omega) h1 h2 h3 h4 h6 h9 hac (by omega)
    exact ⟨_, _, _, w1, Or.inr (Or.inr (Or.inr (Or.inr (Or.inl ⟨n, l, c, L, h1, h2, h3, h4, h6, h7, h8, h10, h11, rfl, by rw [h13, w2], rfl, w3, rfl, rfl⟩))))⟩
  · obtain ⟨L, w1, w2, w3⟩ := h2.ifs h1
    rcases h3 with ⟨k1, k2, k3⟩ | ⟨k1, e, S, k2, k3, k4, k5⟩
    · subst k2
      exact ⟨_, _, _, St_if hT hk hp6 h hp (by omega) hv h34 (el := none) (by have := (IfC.le w1 (by omega)).1; omega) h1 (by omega) w1 (Or.inl ⟨rfl, k1⟩), Or.inr (Or.inr (Or.inr (Or.inr (Or.inr (Or.inl ⟨d, L, none, .leaf, h1, w1, w2, Or.inl ⟨rfl, k1, rfl, rfl⟩, by rw [k3, w3, Tr.app_nil], rfl, rfl, rfl⟩)))))⟩
    · subst k4
      have hde := (k2.sq (by omega)).1
      exact ⟨_, _, _, St_if hT hk hp6 h hp (by omega) hv h34 (el := some (d, e)) (by have := (IfC.le w1 (by omega)).1; omega) h1 (by omega) w1 (Or.inr ⟨e, S, rfl, k1, k2, k3, by omega⟩), Or.inr (Or.inr (Or.inr (Or.inr (Or.inr (Or.inl ⟨d, L, some (d, e), Tr.nd (T.blk d) S, h1, w1, w2, Or.inr ⟨e, S, rfl, k1, k2, k3, rfl, rfl⟩, by rw [k5, w3], rfl, rfl, rfl⟩)))))⟩
  · subst h7
    have hce := (h5.sq (by omega)).1
    exact ⟨_, _, _, St_while hT hk hp6 h hp (by omega) hv h34 h1 h2 h3 h4 (by omega) (by omega), Or.inr (Or.inr (Or.inr (Or.inr (Or.inr (Or.inr (Or.inl ⟨c, r, l, e, S, h1, h2, h3, h4, h5, h6, rfl, h8, rfl, rfl, rfl⟩))))))⟩
  · subst h9
    have hce := (h7.sq (by omega)).1
    exact ⟨_, _, _, St_for hT hk hp6 h hp (by omega) hv h34 h1 h2 h3 h4 h5 h6 (by omega) (by omega), Or.inr (Or.inr (Or.inr (Or.inr (Or.inr (Or.inr (Or.inr (Or.inl ⟨c, r, l, e, S, h1, h2, h3, h4, h5, h6, h7, h8, rfl, h10, rfl, rfl, rfl⟩)))))))⟩
  · subst h6
    have hce := (h4.sq (by omega)).1
    exact ⟨_, _, _, St_try hT hk hp6 h hp (by omega) hv h34 h1 h2 h3 (by omega) (by omega), Or.inr (Or.inr (Or.inr (Or.inr (Or.inr (Or.inr (Or.inr (Or.inr (Or.inl ⟨c, e, S1, S2, h1, h2, h3, h4, h5, rfl, h7, rfl, rfl, rfl⟩))))))))⟩
  · subst h4
    have hce := (h2.sq (by omega)).1
    obtain ⟨q1', q2'⟩ := h1.le
    have hszt : Tr.sz t = Tr.sz R + Tr.sz Q + Tr.sz S + 4 := by
      rw [h5]
      show Tr.sz (Tr.app (Tr.nd (T.nms nm') R) (Tr.app (Tr.nd (T.nms (nm' + 1)) Q) (Tr.nd (T.blk c) S))) + 0 + 1 = _
      rw [Tr.sz_app, Tr.sz_app]
      show (Tr.sz R + 0 + 1) + ((Tr.sz Q + 0 + 1) + (Tr.sz S + 0 + 1)) + 0 + 1 = _
      omega
    exact ⟨_, _, _, St_fun hT hk hp6 h hp hv h34 h1 (by omega) (by omega) (by omega), Or.inr (Or.inr (Or.inr (Or.inr (Or.inr (Or.inr (Or.inr (Or.inr (Or.inr ⟨nm', c, e, R, Q, S, h1, h2, h3, rfl, h5, rfl, rfl, rfl⟩))))))))⟩
end Md
end
