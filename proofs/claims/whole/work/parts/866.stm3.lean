section
section Md
variable {T : Tks} {m N5 N6 : Nat} {a5 a6 : Nat → Int32}
variable {q1 q2 q3 q4 q5 q6 q7 q8 q9 q0 z6 z34 : Int32}
variable {C : NC} {f : NFn} {N N34 : Nat} {b0 b34 : Nat → Int32} {G : Tr Lb} {p a : Nat} {l0 : List Int32} {mk : Nat → Nat}
/-- a function -/
theorem St_fun (hT : TkOK T m) (hk : KdIs m N5 a5 T.tkd) (hp6 : PlIs m N6 a6 T) (h : NdS C f G) (hp : Tr.OnP G p) (hv : VecT N b0 l0) (h34 : MkIs m N34 b34 mk) {e c nm' : Nat} {R Q : Tr Lb} (hF : FHd T a nm' c R Q) (hsz : Tr.sz G + Tr.sz R + Tr.sz Q + 3 ≤ 16400) (hac : a < c) (hc : c < m) : StO m q1 q2 q3 q4 q5 q6 q7 q8 q9 q0 N5 a5 z6 N6 a6 z34 N34 b34 C f N b0 G p a (e + 1) (Tr.nd (1, T.tpl a, -1, T.twd nm', nI nm') (Tr.app (Tr.nd (T.nms nm') R) (Tr.nd (T.nms (nm' + 1)) Q))) [(2, Tr.sz G, c + 1, e, c)] (fnM T a nm' mk) := by
  have hle := hT.le
  obtain ⟨C', f', N', b', b34', cc, ss, c1, s1, c2, s2, w1, w2, w3, w4, w5, w6, w7, w8⟩ := Mo_fun hT hk hp6 (q1 := q1) (q2 := q2) (q3 := q3) (q4 := q4) (q5 := q5) (q6 := q6) (q7 := q7) (q8 := q8) (q9 := q9) (q0 := q0) (z6 := z6) (z34 := z34) (b := e) h hp hF hsz hc hv h34
  have hX : Tr.sz G + Tr.sz (Tr.nd (1, T.tpl a, -1, T.twd nm', nI nm') (Tr.app (Tr.nd (T.nms nm') R) (Tr.nd (T.nms (nm' + 1)) Q))) = Tr.sz G + Tr.sz R + Tr.sz Q + 3 := by
    show Tr.sz G + (Tr.sz (Tr.app (Tr.nd (T.nms nm') R) (Tr.nd (T.nms (nm' + 1)) Q)) + 0 + 1) = _
    rw [Tr.sz_app]
    show Tr.sz G + ((Tr.sz R + 0 + 1) + (Tr.sz Q + 0 + 1) + 0 + 1) = _
    omega
  refine ⟨C', f', N', b', b34', cc + 0, ss + 0, c1, s1, c2, s2, ?_, by omega, by omega, w4, w5, w6, w7, w8⟩
  obtain ⟨v1, v2⟩ := St_k hk (q0 := q0) (show a < m by omega) hF.1
  rw [hX]
  unfold F_Mo_buildStatement
  rw [v1, Option.bind_some, v2, if_neg (show ¬ nI 19 = (10 : Int32) by decide), if_neg (show ¬ nI 19 = (11 : Int32) by decide), if_neg (show ¬ nI 19 = (12 : Int32) by decide), if_neg (show ¬ nI 19 = (13 : Int32) by decide), if_neg (show ¬ nI 19 = (14 : Int32) by decide), if_neg (show ¬ nI 19 = (15 : Int32) by decide), if_neg (show ¬ nI 19 = (16 : Int32) by decide), if_neg (show ¬ nI 19 = (17 : Int32) by decide), if_neg (show ¬ nI 19 = (18 : Int32) by decide), if_pos (show nI 19 = (19 : Int32) from rfl)]
  exact bw_ok w1 rfl
/-- an expression -/
theorem St_expr (hT : TkOK T m) (hk : KdIs m N5 a5 T.tkd) (hp6 : PlIs m N6 a6 T) (h : NdS C f G) (hp : Tr.OnP G p) (hz : Tr.sz G ≤ 16390) (hv : VecT N b0 l0) (h34 : MkIs m N34 b34 mk) {b' r : Nat} {l : Tr Lb} (hw : ¬ wordK (T.tkd a)) (x : VV T 0 r a b' l) (h55 : T.tkd b' = 55) (hb : b' < m) : StO m q1 q2 q3 q4 q5 q6 q7 q8 q9 q0 N5 a5 z6 N6 a6 z34 N34 b34 C f N b0 G p a (b' + 1) (Tr.nd (T.lb 20 a) .leaf) [(1, Tr.sz G, a, b', 1)] mk := by
  have hle := hT.le
  have hlt := x.lt
  have hkl := hk.lt a
  unfold wordK at hw
  have ne : ∀ j : Nat, j < 57 → T.tkd a ≠ j → ¬ nI (T.tkd a) = nI j := fun j hj hx => by rw [nI_eq' (by omega) (by omega)]; exact hx
  obtain ⟨C', f', N', b2, c1, s1, c2, s2, w1, w4, w5, w6, w7⟩ := Mo_sm3 hT hk hp6 (q1 := q1) (q2 := q2) (q3 := q3) (q4 := q4) (q5 := q5) (q6 := q6) (q7 := q7) (q8 := q8) (q9 := q9) (q0 := q0) (z6 := z6) h hp (by omega) hb x h55 hv
  refine ⟨C', f', N', b2, b34, (c1 + (c2 + 0)) + 0, (s1 + (s2 + 0)) + 0, c1, s1, c2, s2, ?_, by omega, by omega, w4, w5, w6, w7, h34⟩
  unfold F_Mo_buildStatement
  rw [Mo_at hk (show a < m by omega), Option.bind_some, Mo_a5 hk (show a < m by omega), if_neg (show ¬ nI (T.tkd a) = (10 : Int32) from ne 10 (by omega) (by omega)), if_neg (show ¬ nI (T.tkd a) = (11 : Int32) from ne 11 (by omega) (by omega)), if_neg (show ¬ nI (T.tkd a) = (12 : Int32) from ne 12 (by omega) (by omega)), if_neg (show ¬ nI (T.tkd a) = (13 : Int32) from ne 13 (by omega) (by omega)), if_neg (show ¬ nI (T.tkd a) = (14 : Int32) from ne 14 (by omega) (by omega)), if_neg (show ¬ nI (T.tkd a) = (15 : Int32) from ne 15 (by omega) (by omega)), if_neg (show ¬ nI (T.tkd a) = (16 : Int32) from ne 16 (by omega) (by omega)), if_neg (show ¬ nI (T.tkd a) = (17 : Int32) from ne 17 (by omega) (by omega)), if_neg (show ¬ nI (T.tkd a) = (18 : Int32) from ne 18 (by omega) (by omega)), if_neg (show ¬ nI (T.tkd a) = (19 : Int32) from ne 19 (by omega) (by omega)), if_neg (show ¬ nI (T.tkd a) = (20 : Int32) from ne 20 (by omega) (by omega)), if_neg (show ¬ nI (T.tkd a) = (21 : Int32) from ne 21 (by omega) (by omega)), if_neg (show ¬ nI (T.tkd a) = (22 : Int32) from ne 22 (by omega) (by omega)), nI_p1]
  exact bw_ok w1 rfl
/-- a gift -/
theorem St_give (hT : TkOK T m) (hk : KdIs m N5 a5 T.tkd) (hp6 : PlIs m N6 a6 T) (h : NdS C f G) (hp : Tr.OnP G p) (hz : Tr.sz G ≤ 16390) (hv : VecT N b0 l0) (h34 : MkIs m N34 b34 mk) {g b' r1 r2 : Nat} {t1 t2 : Tr Lb} (ha : T.tkd a = 2) (x : VV T 0 r1 a g t1) (h56 : T.tkd g = 56) (y : VV T 0 r2 (g + 1) b' t2) (hb : b' < m) : StO m q1 q2 q3 q4 q5 q6 q7 q8 q9 q0 N5 a5 z6 N6 a6 z34 N34 b34 C f N b0 G p a (b' + 1) (Tr.nd (21, T.tpl g, T.tpl a, T.twd g, nI g) .leaf) [(1, Tr.sz G, a, g, 1), (1, Tr.sz G, g + 1, b', 1)] mk := by
  have hle := hT.le
  have hlt := x.lt; have hlt2 := y.lt
  have ne : ∀ j : Nat, j < 57 → T.tkd a ≠ j → ¬ nI (T.tkd a) = nI j := fun j hj hx => by rw [nI_eq' (by omega) (by omega)]; exact hx
  obtain ⟨C', f', N', b2, c1, s1, c2, s2, c3, s3, w1, w4, w5, w6, w7⟩ := Mo_sm4 hT hk hp6 (q1 := q1) (q2 := q2) (q3 := q3) (q4 := q4) (q5 := q5) (q6 := q6) (q7 := q7) (q8 := q8) (q9 := q9) (q0 := q0) (z6 := z6) h hp (by omega) hb x ha h56 y hv
  refine ⟨C', f', N', b2, b34, (c1 + (c2 + (c3 + 0))) + 0, (s1 + (s2 + (s3 + 0))) + 0, c1, s1, c2 + c3, s2 + s3, ?_, by omega, by omega, w4, w5, w6, w7, h34⟩
  unfold F_Mo_buildStatement
  rw [Mo_at hk (show a < m by omega), Option.bind_some, Mo_a5 hk (show a < m by omega), if_neg (show ¬ nI (T.tkd a) = (10 : Int32) from ne 10 (by omega) (by omega)), if_neg (show ¬ nI (T.tkd a) = (11 : Int32) from ne 11 (by omega) (by omega)), if_neg (show ¬ nI (T.tkd a) = (12 : Int32) from ne 12 (by omega) (by omega)), if_neg (show ¬ nI (T.tkd a) = (13 : Int32) from ne 13 (by omega) (by omega)), if_neg (show ¬ nI (T.tkd a) = (14 : Int32) from ne 14 (by omega) (by omega)), if_neg (show ¬ nI (T.tkd a) = (15 : Int32) from ne 15 (by omega) (by omega)), if_neg (show ¬ nI (T.tkd a) = (16 : Int32) from ne 16 (by omega) (by omega)), if_neg (show ¬ nI (T.tkd a) = (17 : Int32) from ne 17 (by omega) (by omega)), if_neg (show ¬ nI (T.tkd a) = (18 : Int32) from ne 18 (by omega) (by omega)), if_neg (show ¬ nI (T.tkd a) = (19 : Int32) from ne 19 (by omega) (by omega)), if_neg (show ¬ nI (T.tkd a) = (20 : Int32) from ne 20 (by omega) (by omega)), if_neg (show ¬ nI (T.tkd a) = (21 : Int32) from ne 21 (by omega) (by omega)), if_neg (show ¬ nI (T.tkd a) = (22 : Int32) from ne 22 (by omega) (by omega)), nI_p1]
  exact bw_ok w1 rfl
/-- several places -/
theorem St_many (hT : TkOK T m) (hk : KdIs m N5 a5 T.tkd) (hp6 : PlIs m N6 a6 T) (h : NdS C f G) (hp : Tr.OnP G p) (hv : VecT N b0 l0) (h34 : MkIs m N34 b34 mk) {n c : Nat} {l l2 : Tr Lb} (hz : Tr.sz G + n + 3 ≤ 16400) (h52 : T.tkd a = 52) (hn : 0 < n) (hl : NmL T true (a + 1) n l) (h53 : T.tkd (a + 2 * n) = 53) (h56 : T.tkd (a + 2 * n + 1) = 56) (x : (c = a + 2 * n + 4 ∧ l2 = .leaf) ∨ VV T 2 0 (a + 2 * n + 4) c l2) (hac : a < c) (hc : c + 1 < m) : ∃ L, StO m q1 q2 q3 q4 q5 q6 q7 q8 q9 q0 N5 a5 z6 N6 a6 z34 N34 b34 C f N b0 G p a (c + 2) (Tr.nd (10, T.tpl (a + 2 * n + 1), T.tpl a, T.twd (a + 2 * n + 1), nI (a + 2 * n + 1)) (Tr.app (Tr.nd (T.nms a) l) (Tr.nd (33, T.tpl (a + 2 * n + 2), T.tpl (a + 2 * n + 3), T.twd (a + 2 * n + 2), nI (a + 2 * n + 2)) .leaf))) (exT (Tr.sz G + n + 2) L) mk ∧ l2 = joinT L ∧ ((c = a + 2 * n + 4 ∧ L = []) ∨ EC (VEl T (VV T) true) T.tkd 54 (a + 2 * n + 4) L c) := by
  have hle := hT.le
  have ne : ∀ j : Nat, j < 57 → T.tkd a ≠ j → ¬ nI (T.tkd a) = nI j := fun j hj hx => by rw [nI_eq' (by omega) (by omega)]; exact hx
  obtain ⟨C', f', L, N', b2, cc, ss, c1, s1, c2, s2, w1, w2, w3, w4, w5, w6, w7, w8, w9⟩ := Mo_sm5 hT hk hp6 (q1 := q1) (q2 := q2) (q3 := q3) (q4 := q4) (q5 := q5) (q6 := q6) (q7 := q7) (q8 := q8) (q9 := q9) (q0 := q0) (z6 := z6) h hp hz h52 hn hl h53 h56 x hc hv
  have hls : Tr.sz l = n := hl.sz
  have hX : Tr.sz G + Tr.sz (Tr.nd (10, T.tpl (a + 2 * n + 1), T.tpl a, T.twd (a + 2 * n + 1), nI (a + 2 * n + 1)) (Tr.app (Tr.nd (T.nms a) l) (Tr.nd (33, T.tpl (a + 2 * n + 2), T.tpl (a + 2 * n + 3), T.twd (a + 2 * n + 2), nI (a + 2 * n + 2)) .leaf))) = Tr.sz G + n + 3 := by
    show Tr.sz G + (Tr.sz (Tr.app (Tr.nd (T.nms a) l) (Tr.nd (33, T.tpl (a + 2 * n + 2), T.tpl (a + 2 * n + 3), T.twd (a + 2 * n + 2), nI (a + 2 * n + 2)) .leaf)) + 0 + 1) = _
    rw [Tr.sz_app]
    show Tr.sz G + ((Tr.sz l + 0 + 1) + (0 + 0 + 1) + 0 + 1) = _
    omega
  refine ⟨L, ⟨C', f', N', b2, b34, cc + 0, ss + 0, c1, s1, c2, s2, ?_, by omega, by omega, w4, w5, w6, w7, h34⟩, w8, w9⟩
  rw [hX]
  unfold F_Mo_buildStatement
  rw [Mo_at hk (show a < m by omega), Option.bind_some, Mo_a5 hk (show a < m by omega), if_neg (show ¬ nI (T.tkd a) = (10 : Int32) from ne 10 (by omega) (by omega)), if_neg (show ¬ nI (T.tkd a) = (11 : Int32) from ne 11 (by omega) (by omega)), if_neg (show ¬ nI (T.tkd a) = (12 : Int32) from ne 12 (by omega) (by omega)), if_neg (show ¬ nI (T.tkd a) = (13 : Int32) from ne 13 (by omega) (by omega)), if_neg (show ¬ nI (T.tkd a) = (14 : Int32) from ne 14 (by omega) (by omega)), if_neg (show ¬ nI (T.tkd a) = (15 : Int32) from ne 15 (by omega) (by omega)), if_neg (show ¬ nI (T.tkd a) = (16 : Int32) from ne 16 (by omega) (by omega)), if_neg (show ¬ nI (T.tkd a) = (17 : Int32) from ne 17 (by omega) (by omega)), if_neg (show ¬ nI (T.tkd a) = (18 : Int32) from ne 18 (by omega) (by omega)), if_neg (show ¬ nI (T.tkd a) = (19 : Int32) from ne 19 (by omega) (by omega)), if_neg (show ¬ nI (T.tkd a) = (20 : Int32) from ne 20 (by omega) (by omega)), if_neg (show ¬ nI (T.tkd a) = (21 : Int32) from ne 21 (by omega) (by omega)), if_neg (show ¬ nI (T.tkd a) = (22 : Int32) from ne 22 (by omega) (by omega)), show nI (c + 2) - 1 = nI (c + 1) from nI_p1 (c + 1)]
  exact bw_ok w1 rfl
end Md
end
