section
/-! the text of statements -/
/-- the words of the language -/
def kwW (k : Nat) : List Int32 :=
  if k = 10 then [105, 102] else if k = 11 then [101, 108, 115, 101, 105, 102] else if k = 12 then [101, 108, 115, 101] else if k = 13 then [101, 110, 100] else if k = 14 then [119, 104, 105, 108, 101] else if k = 15 then [102, 111, 114] else if k = 19 then [102, 117, 110, 99, 116, 105, 111, 110] else if k = 22 then [116, 114, 121] else if k = 23 then [99, 97, 116, 99, 104] else []
def TxW (T : Tks) (tx : Nat → List Int32) : Prop := ∀ i, (T.tkd i = 10 ∨ T.tkd i = 11 ∨ T.tkd i = 12 ∨ T.tkd i = 13 ∨ T.tkd i = 14 ∨ T.tkd i = 15 ∨ T.tkd i = 19 ∨ T.tkd i = 22 ∨ T.tkd i = 23) → tx i = kwW (T.tkd i)
/-- a head's line -/
def headW (d k : Nat) (x : List Int32) : List Int32 := indW d ++ kwW k ++ sW 83 ++ x ++ sW 82
def wordW (d k : Nat) : List Int32 := indW d ++ kwW k ++ sW 82
def lineW (d : Nat) (x : List Int32) : List Int32 := indW d ++ x ++ sW 84
def elW (d : Nat) : Nat → List (List Int32) → List (List Int32) → List Int32
  | k, p :: _ :: ps, _ :: b :: bs => headW d k ([40] ++ p ++ [41]) ++ (b ++ elW d 11 ps bs)
  | _, [_], [b] => wordW d 12 ++ b
  | _, _, _ => []
def resW (rs : List (List Int32)) : List Int32 := if rs.length = 0 then [] else if rs.length = 1 then wSep [44, 32] rs ++ [32, 61, 32] else [91] ++ wSep [44, 32] rs ++ [93, 32, 61, 32]
def Tr.wkid : Tr Lb → Tr Lb
  | .leaf => .leaf
  | .inner _ _ _ l _ => l
/-- a statement: ps the texts of its parts as expressions, bs those of its blocks -/
def stW (T : Tks) (tx : Nat → List Int32) (a : Lb) (d : Nat) (l : Tr Lb) (ps bs : List (List Int32)) : List Int32 :=
  if a.k = 15 ∨ a.k = 16 ∨ a.k = 17 then lineW d (tx (Int32.toNatClampNeg a.tk))
  else if a.k = 18 ∨ a.k = 19 then lineW d (tx (Int32.toNatClampNeg a.tk) ++ sW 83 ++ wSep [44, 32] ps)
  else if a.k = 20 then lineW d (wSep [] ps)
  else if a.k = 21 then lineW d (wSep [32, 61, 32] ps)
  else if a.k = 10 then lineW d ([91] ++ wSep [44, 32] (wF T tx l.wkid (fun _ => 1)) ++ [93, 32, 61, 32] ++ ps.getD 1 [])
  else if a.k = 11 then elW d 10 ps bs ++ wordW d 13
  else if a.k = 12 then headW d 14 ([40] ++ ps.getD 0 [] ++ [41]) ++ (bs.getD 1 [] ++ wordW d 13)
  else if a.k = 13 then headW d 15 ([40] ++ ps.getD 0 [] ++ [32, 61, 32] ++ ps.getD 1 [] ++ [41]) ++ (bs.getD 2 [] ++ wordW d 13)
  else if a.k = 14 then wordW d 22 ++ (bs.getD 0 [] ++ (wordW d 23 ++ (bs.getD 1 [] ++ wordW d 13)))
  else headW d 19 (resW (wF T tx l.wkid (fun _ => 1)) ++ tx (Int32.toNatClampNeg a.tk) ++ [40] ++ wSep [44, 32] (wF T tx l.sib.wkid (fun _ => 1)) ++ [41]) ++ (bs.getD 2 [] ++ wordW d 13)
/-- the texts of a forest's trees, as statements and blocks at indent d -/
def wL (T : Tks) (tx : Nat → List Int32) : Tr Lb → Nat → List (List Int32)
  | .leaf, _ => []
  | .inner _ a _ l r, d => (if a.k = 3 then (wL T tx l d).flatten else stW T tx a d l (wF T tx l (fun _ => 1)) (wL T tx l (d + 1))) :: wL T tx r d
def wS (T : Tks) (tx : Nat → List Int32) (d : Nat) (F : Tr Lb) : List Int32 := (wL T tx F d).flatten
section S
variable {T : Tks} {tx : Nat → List Int32}
theorem wL_app : ∀ (x y : Tr Lb) (d : Nat), wL T tx (Tr.app x y) d = wL T tx x d ++ wL T tx y d
  | .leaf, y, d => rfl
  | .inner z a u l r, y, d => by
    rw [Tr.app, wL, wL, wL_app r y d, List.cons_append]
theorem wS_app (x y : Tr Lb) (d : Nat) : wS T tx d (Tr.app x y) = wS T tx d x ++ wS T tx d y := by
  unfold wS
  rw [wL_app, List.flatten_append]
theorem wS_nd {a : Lb} {l : Tr Lb} {d : Nat} (h : a.k ≠ 3) : wS T tx d (Tr.nd a l) = stW T tx a d l (wF T tx l (fun _ => 1)) (wL T tx l (d + 1)) := by
  unfold wS
  rw [wL, wL, if_neg h, List.flatten_cons, List.flatten_nil, List.append_nil]
theorem wL_blk {c : Nat} {S : Tr Lb} {d : Nat} : wL T tx (Tr.nd (T.blk c) S) d = [wS T tx d S] := by
  rw [wL, wL, if_pos (show (T.blk c).k = 3 from rfl)]
  rfl
theorem wL_len : ∀ (x : Tr Lb) (d : Nat), (wL T tx x d).length = Tr.rt x
  | .leaf, _ => rfl
  | .inner z a u l r, d => by rw [wL, List.length_cons, wL_len r d]; rfl
theorem wL_one {x : Tr Lb} {d : Nat} (h : Tr.rt x = 1) : ∃ w, wL T tx x d = [w] := by
  have := wL_len (T := T) (tx := tx) x d
  rw [h] at this
  match e : wL T tx x d, this with
  | [w], _ => exact ⟨w, rfl⟩
theorem wF_len : ∀ (x : Tr Lb) (nd : Nat → Nat), (wF T tx x nd).length = Tr.rt x
  | .leaf, _ => rfl
  | .inner z a u l r, nd => by rw [wF, List.length_cons, wF_len r]; rfl
/-- a line of its own -/
theorem WrP.one {mk ex : Nat → Nat} {p d q e : Nat} {w : List Int32} (h : Ln T tx mk ex p d q e w) (hp : p < q) : WrP T tx mk ex 1 p d q e w := ⟨q, e, w, [], h, hp, ⟨rfl, rfl, rfl⟩, (List.append_nil _).symm⟩
theorem wp_head {mk ex : Nat → Nat} {p c d : Nat} {x : List Int32} (hW : TxW T tx) (hk : T.tkd p = 10 ∨ T.tkd p = 14 ∨ T.tkd p = 15) (hc : clos T.tkd FU (p + 1) 0 = some c) (hpc : p + 1 ≤ c) (hs : Say T tx (p + 1) mk ex (p + 1) (c + 1) = x) : WrP T tx mk ex 1 p d (c + 1) (d + 1) (headW d (T.tkd p) x) :=
  WrP.one (Or.inr (Or.inr (Or.inr (Or.inl ⟨hk, ⟨c, hc, hpc, rfl⟩, rfl, by rw [hs, hW p (by omega)]; rfl⟩)))) (by omega)
theorem wp_elif {mk ex : Nat → Nat} {p c d : Nat} {x : List Int32} (hW : TxW T tx) (hk : T.tkd p = 11) (hc : clos T.tkd FU (p + 1) 0 = some c) (hpc : p + 1 ≤ c) (hs : Say T tx (p + 1) mk ex (p + 1) (c + 1) = x) : WrP T tx mk ex 1 p (d + 1) (c + 1) (d + 1) (headW d 11 x) :=
  WrP.one (Or.inr (Or.inr (Or.inr (Or.inr (Or.inl ⟨hk, ⟨c, hc, hpc, rfl⟩, by omega, rfl, by rw [hs, hW p (by omega), hk, Nat.add_sub_cancel]; rfl⟩))))) (by omega)
theorem wp_fun {mk ex : Nat → Nat} {p c d nm' : Nat} {R Q : Tr Lb} {x : List Int32} (hW : TxW T tx) (hF : FHd T p nm' c R Q) (hpc : p + 1 ≤ c) (hs : Say T tx (p + 1) mk ex (p + 1) (c + 1) = x) : WrP T tx mk ex 1 p d (c + 1) (d + 1) (headW d 19 x) :=
  WrP.one (Or.inr (Or.inr (Or.inr (Or.inr (Or.inr (Or.inl ⟨⟨nm', c, R, Q, hF, rfl⟩, rfl, by rw [hs, hW p (by have := hF.1; omega), hF.1]; rfl⟩)))))) (by omega)
theorem wp_try {mk ex : Nat → Nat} {p d : Nat} (hW : TxW T tx) (hk : T.tkd p = 22) : WrP T tx mk ex 1 p d (p + 1) (d + 1) (wordW d 22) :=
  WrP.one (Or.inl ⟨hk, rfl, rfl, by rw [hW p (by omega), hk]; rfl⟩) (by omega)
theorem wp_mid {mk ex : Nat → Nat} {p d k : Nat} (hW : TxW T tx) (hk : T.tkd p = k) (hk' : k = 12 ∨ k = 23) : WrP T tx mk ex 1 p (d + 1) (p + 1) (d + 1) (wordW d k) :=
  WrP.one (Or.inr (Or.inl ⟨by omega, rfl, by omega, rfl, by rw [hW p (by omega), hk, Nat.add_sub_cancel]; rfl⟩)) (by omega)
theorem wp_end {mk ex : Nat → Nat} {p d : Nat} (hW : TxW T tx) (hk : T.tkd p = 13) : WrP T tx mk ex 1 p (d + 1) (p + 1) d (wordW d 13) :=
  WrP.one (Or.inr (Or.inr (Or.inl ⟨hk, rfl, rfl, by rw [hW p (by omega), hk]; rfl⟩))) (by omega)
/-- a simple statement that begins with print or show -/
theorem wp_list {mk ex : Nat → Nat} {p c d : Nat} {x : List Int32} (hk : T.tkd p = 20 ∨ T.tkd p = 21) (hc : T.tkd c = 55) (hpc : p < c) (hl : Lay T.tkd p c) (ht : ∀ i, Top T.tkd p c i → T.tkd i ≠ 55) (hs : Say T tx (p + 1) mk ex (p + 1) c = x) : WrP T tx mk ex 1 p d (c + 1) d (lineW d (tx p ++ sW 83 ++ x)) :=
  WrP.one (Or.inr (Or.inr (Or.inr (Or.inr (Or.inr (Or.inr (Or.inl ⟨hk, ⟨c, hc, hpc, hl, ht, rfl⟩, rfl, by rw [Nat.add_sub_cancel, hs]; unfold lineW; simp only [List.append_assoc]⟩))))))) (by omega)
theorem wp_smp {mk ex : Nat → Nat} {p c d : Nat} {x : List Int32} (h1 : ¬ stB (T.tkd p)) (h2 : ¬ opb (T.tkd p)) (h3 : T.tkd p ≠ 20) (h4 : T.tkd p ≠ 21) (hc : T.tkd c = 55) (hpc : p < c) (hl : Lay T.tkd p c) (ht : ∀ i, Top T.tkd p c i → T.tkd i ≠ 55) (hs : Say T tx p mk ex p c = x) : WrP T tx mk ex 1 p d (c + 1) d (lineW d x) :=
  WrP.one (Or.inr (Or.inr (Or.inr (Or.inr (Or.inr (Or.inr (Or.inr ⟨h1, h2, h3, h4, ⟨c, hc, hpc, hl, ht, rfl⟩, rfl, by rw [Nat.add_sub_cancel, hs]; rfl⟩))))))) (by omega)
end S
end

section
/-! running the tasks of a statement -/
/-- what tokens a to b - 1 say, wherever the line begins -/
def QX (T : Tks) (tx : Nat → List Int32) (a b : Nat) (w : List Int32) (mk ex : Nat → Nat) : Prop := ∀ p0, p0 ≤ a → (p0 < a → ¬ eO (T.tkd (a - 1))) → Say T tx p0 mk ex a b = w
/-- what the lines of tokens a to b - 1 say -/
def QS (T : Tks) (tx : Nat → List Int32) (a b : Nat) (F : Tr Lb) (mk ex : Nat → Nat) : Prop := ∀ d, ∃ n, WrP T tx mk ex n a d b d (wS T tx d F)
/-- Q speaks of the tokens of U alone -/
def Ins (U : Nat → Prop) (Q : (Nat → Nat) → (Nat → Nat) → Prop) : Prop := ∀ mk ex mk' ex', (∀ i, U i → mk' i = mk i ∧ ex' i = ex i) → Q mk ex → Q mk' ex'
def IvT (a b : Nat) : Nat → Prop := fun i => a ≤ i ∧ i < b
theorem QX.ins {T : Tks} {tx : Nat → List Int32} {a b : Nat} {w : List Int32} : Ins (IvT a b) (QX T tx a b w) := fun mk ex mk' ex' h q p0 h1 h2 => by
  rw [Say.cg (fun i a b => h i ⟨a, b⟩)]
  exact q p0 h1 h2
theorem QS.ins {T : Tks} {tx : Nat → List Int32} {a b : Nat} {F : Tr Lb} : Ins (IvT a b) (QS T tx a b F) := fun mk ex mk' ex' h q d => by
  obtain ⟨n, q⟩ := q d
  exact ⟨n, q.cg (fun i a b => h i ⟨a, b⟩)⟩
/-- running the tasks Ts puts the forest F below node z and makes Q true of the tokens of U -/
def RunS (m : Nat) (q1 q2 q3 q4 q5 q6 q7 q8 q0 z6 : Int32) (N6 : Nat) (a6 : Nat → Int32) (N5 : Nat) (a5 : Nat → Int32) (n2 : Nat) (b2 : Nat → Int32) (z34 : Int32) (N34 : Nat) (z35 : Int32) (N35 : Nat) (Ts : List Tsk) (z : Nat) (U : Nat → Prop) (F : Tr Lb) (Q : (Nat → Nat) → (Nat → Nat) → Prop) (tb lb : Nat) : Prop :=
  Ins U Q ∧ ∀ (S : List Tsk) (G : Tr Lb) (mk ex : Nat → Nat) (s : BS), BOK m N34 N35 G (Ts ++ S) mk ex s → Tr.OnP G z → Tr.sz G + Tr.sz F ≤ 16390 → S.length + lb ≤ 17000 → (∀ i, U i → mk i = 0 ∧ ex i = 0) →
  ∃ (tn : Nat) (s' : BS) (mk' ex' : Nat → Nat) (c sl : Nat), tn ≤ tb ∧ BOK m N34 N35 (Tr.appAt F G z) S mk' ex' s' ∧ BG s s' c sl ∧ (∀ i, ¬ U i → mk' i = mk i ∧ ex' i = ex i) ∧ Q mk' ex' ∧ ∀ fu R c' sl', BLp q1 q2 q3 q4 q5 q6 q7 q8 q0 z6 N6 a6 N5 a5 n2 b2 z34 N34 z35 N35 fu (Tr.sz G + Tr.sz F) S.length s' = some (R, c', sl') → BLp q1 q2 q3 q4 q5 q6 q7 q8 q0 z6 N6 a6 N5 a5 n2 b2 z34 N34 z35 N35 (fu + tn) (Tr.sz G) (Ts.length + S.length) s = some (R, c + c', sl + sl')
section Md
variable {T : Tks} {m N5 N6 : Nat} {a5 a6 : Nat → Int32} {tx : Nat → List Int32}
variable {n2 : Nat} {b2 : Nat → Int32}
variable {q1 q2 q3 q4 q5 q6 q7 q8 q0 z6 z34 z35 : Int32} {N34 N35 : Nat}
theorem RunS.nil {z : Nat} : RunS m q1 q2 q3 q4 q5 q6 q7 q8 q0 z6 N6 a6 N5 a5 n2 b2 z34 N34 z35 N35 [] z (fun _ => False) .leaf (fun _ _ => True) 0 0 := by
  refine ⟨fun _ _ _ _ _ _ => trivial, fun S G mu xu s hB hz hsz hS h0 => ⟨0, s, mu, xu, 0, 0, Nat.le_refl _, by rw [Tr.appAt_nil]; exact hB, BG.rfl, fun i _ => ⟨rfl, rfl⟩, trivial, fun fu R c' sl' hh => ?_⟩⟩
  rw [Nat.zero_add, Nat.zero_add, show ([] : List Tsk).length + S.length = S.length from Nat.zero_add _]
  exact hh
theorem RunS.app {T1 T2 : List Tsk} {z : Nat} {U1 U2 : Nat → Prop} {F1 F2 : Tr Lb} {Q1 Q2 : (Nat → Nat) → (Nat → Nat) → Prop} {t1 t2 l1 l2 : Nat} (h1 : RunS m q1 q2 q3 q4 q5 q6 q7 q8 q0 z6 N6 a6 N5 a5 n2 b2 z34 N34 z35 N35 T1 z U1 F1 Q1 t1 l1) (h2 : RunS m q1 q2 q3 q4 q5 q6 q7 q8 q0 z6 N6 a6 N5 a5 n2 b2 z34 N34 z35 N35 T2 z U2 F2 Q2 t2 l2) (hd : ∀ i, U1 i → ¬ U2 i) (lb : Nat) (hl1 : T2.length + l1 ≤ lb) (hl2 : l2 ≤ lb) : RunS m q1 q2 q3 q4 q5 q6 q7 q8 q0 z6 N6 a6 N5 a5 n2 b2 z34 N34 z35 N35 (T1 ++ T2) z (fun i => U1 i ∨ U2 i) (Tr.app F1 F2) (fun mk ex => Q1 mk ex ∧ Q2 mk ex) (t1 + t2) lb := by
  obtain ⟨i1, h1⟩ := h1
  obtain ⟨i2, h2⟩ := h2
  refine ⟨fun mu xu mu' xu' h q => ⟨i1 _ _ _ _ (fun i u => h i (Or.inl u)) q.1, i2 _ _ _ _ (fun i u => h i (Or.inr u)) q.2⟩, ?_⟩
  intro S G mu xu s hB hz hsz hS h0
  rw [Tr.sz_app] at hsz ⊢
  rw [List.append_assoc] at hB
  have hlen : (T2 ++ S).length = T2.length + S.length := List.length_append ..
  obtain ⟨n1, s1, m1, e1, c1, l1, w1, w2, w3, w4, w5, w6⟩ := h1 (T2 ++ S) G mu xu s hB hz (by omega) (by omega) (fun i u => h0 i (Or.inl u))
  have hG1 : Tr.sz (Tr.appAt F1 G z) = Tr.sz G + Tr.sz F1 := Tr.sz_appAt G z hz
  have hz1 : Tr.OnP (Tr.appAt F1 G z) z := Tr.OnP_le G z z hz hz (Nat.le_refl _)
  obtain ⟨n2', s2, m2, e2, c2, l2, v1, v2, v3, v4, v5, v6⟩ := h2 S (Tr.appAt F1 G z) m1 e1 s1 w2 hz1 (by omega) (by omega) (fun i u => by
    have := w4 i (fun u1 => hd i u1 u)
    rw [this.1, this.2]
    exact h0 i (Or.inr u))
  refine ⟨n1 + n2', s2, m2, e2, c1 + c2, l1 + l2, by omega, ?_, w3.trans v3, fun i u => ?_, ⟨i1 _ _ _ _ (fun i u => v4 i (hd i u)) w5, v5⟩, fun fu R c' sl' hh => ?_⟩
  · rw [Tr.appAt_app G z hz] at v2
    exact v2
  · have a1 := v4 i (fun x => u (Or.inr x))
    have a2 := w4 i (fun x => u (Or.inl x))
    exact ⟨a1.1.trans a2.1, a1.2.trans a2.2⟩
  · have a3 := v6 fu R c' sl' (by rw [hG1, show Tr.sz G + Tr.sz F1 + Tr.sz F2 = Tr.sz G + (Tr.sz F1 + Tr.sz F2) by omega]; exact hh)
    rw [hG1] at a3
    have a4 := w6 (fu + n2') R _ _ (by rw [hlen]; exact a3)
    rw [show fu + (n1 + n2') = fu + n2' + n1 by omega, show c1 + c2 + c' = c1 + (c2 + c') by omega, show l1 + l2 + sl' = l1 + (l2 + sl') by omega, show (T1 ++ T2).length + S.length = T1.length + (T2 ++ S).length by rw [List.length_append, List.length_append]; omega]
    exact a4
/-- more turns, more room, another way to say it -/
theorem RunS.wk {Ts : List Tsk} {z : Nat} {U U' : Nat → Prop} {F F' : Tr Lb} {Q Q' : (Nat → Nat) → (Nat → Nat) → Prop} {tb lb tb' lb' : Nat} (h : RunS m q1 q2 q3 q4 q5 q6 q7 q8 q0 z6 N6 a6 N5 a5 n2 b2 z34 N34 z35 N35 Ts z U F Q tb lb) (hU : ∀ i, U i ↔ U' i) (hF : F = F') (hQ : ∀ mk ex, Q mk ex ↔ Q' mk ex) (ht : tb ≤ tb') (hl : lb ≤ lb') : RunS m q1 q2 q3 q4 q5 q6 q7 q8 q0 z6 N6 a6 N5 a5 n2 b2 z34 N34 z35 N35 Ts z U' F' Q' tb' lb' := by
  subst hF
  obtain rfl : U = U' := funext (fun i => propext (hU i))
  obtain rfl : Q = Q' := funext (fun i => funext (fun j => propext (hQ i j)))
  refine ⟨h.1, fun S G mu xu s hB hz hsz hS h0 => ?_⟩
  obtain ⟨n1, s1, m1, e1, c1, l1, w1, w2⟩ := h.2 S G mu xu s hB hz hsz (by omega) h0
  exact ⟨n1, s1, m1, e1, c1, l1, by omega, w2⟩
theorem RunT.s {z a b u tb : Nat} {F : Tr Lb} {W : List Int32} (hab : a < b) (h : RunT T tx m q1 q2 q3 q4 q5 q6 q7 q8 q0 z6 N6 a6 N5 a5 n2 b2 z34 N34 z35 N35 (1, z, a, b, u) F W tb) : RunS m q1 q2 q3 q4 q5 q6 q7 q8 q0 z6 N6 a6 N5 a5 n2 b2 z34 N34 z35 N35 [(1, z, a, b, u)] z (IvT a b) F (QX T tx a b W) tb (b - a) := by
  refine ⟨QX.ins, fun S G mu xu s hB hz hsz hS h0 => ?_⟩
  obtain ⟨n1, s1, m1, e1, c1, l1, w1, w2, w3, w4, w5, w6⟩ := h S G mu xu s 0 hB hz (by omega) hS (fun i a b => (h0 i ⟨a, b⟩).1) (fun i a b => (h0 i ⟨a, by dsimp only at b ⊢; omega⟩).2) ((h0 _ ⟨by dsimp only; omega, by dsimp only; omega⟩).2)
  dsimp only at w2 w4 w5
  refine ⟨n1, s1, m1, e1, c1, l1, w1, w2, w3, fun i u => w4 i (by unfold IvT at u; omega), fun p0 d1 d2 => ?_, fun fu R c' sl' hh => ?_⟩
  · rw [w5 p0 d1 d2]
    exact List.append_nil _
  · rw [show [((1, z, a, b, u) : Tsk)].length + S.length = S.length + 1 from Nat.add_comm 1 _]
    exact w6 fu R c' sl' hh
theorem Run_e (hT : TkOK T m) (hk : KdIs m N5 a5 T.tkd) (hp6 : PlIs m N6 a6 T) (hTx : TxK T tx) (hr : RkIs n2 b2) {a b r : Nat} {t : Tr Lb} (x : VV T 0 r a b t) (hb : b ≤ m) (z : Nat) : RunS m q1 q2 q3 q4 q5 q6 q7 q8 q0 z6 N6 a6 N5 a5 n2 b2 z34 N34 z35 N35 [(1, z, a, b, 1)] z (IvT a b) t (QX T tx a b (wX T tx 1 t)) (b - a) (b - a) :=
  RunT.s x.lt (Run_x hT hk hp6 hTx hr (q1 := q1) (q2 := q2) (q3 := q3) (q4 := q4) (q5 := q5) (q6 := q6) (q7 := q7) (q8 := q8) (q0 := q0) (z6 := z6) (N6 := N6) (a6 := a6) (N5 := N5) (a5 := a5) (n2 := n2) (b2 := b2) (z34 := z34) (N34 := N34) (z35 := z35) (N35 := N35) (Or.inl ⟨r, x, Or.inl ((x.lay.2.2 rfl).2.2.2.2).1⟩) (by omega) hb z)
theorem Run_l (hT : TkOK T m) (hk : KdIs m N5 a5 T.tkd) (hp6 : PlIs m N6 a6 T) (hTx : TxK T tx) (hr : RkIs n2 b2) {a b : Nat} {L : List Piece} (x : EC (VEl T (VV T) true) T.tkd 54 a L b) (hb : b ≤ m) (z : Nat) : RunS m q1 q2 q3 q4 q5 q6 q7 q8 q0 z6 N6 a6 N5 a5 n2 b2 z34 N34 z35 N35 (exT z L) z (IvT a b) (joinT L) (QX T tx a b (wSep [44, 32] (L.map (fun x => wX T tx 1 x.2.2)))) (b - a) (b - a) := by
  have hP : ∀ s e t, VEl T (VV T) true s e t → s < e := fun s e t h => (VEl.lay h).2.1
  have hRx : ∀ x ∈ L, RunT T tx m q1 q2 q3 q4 q5 q6 q7 q8 q0 z6 N6 a6 N5 a5 n2 b2 z34 N34 z35 N35 (1, z, x.1, x.2.1, 1) x.2.2 (wX T tx 1 x.2.2) (x.2.1 - x.1 + 0) := by
    intro y hy
    obtain ⟨g1, g2, g3⟩ := EC.mem hP x y hy
    refine Run_x hT hk hp6 hTx hr (q1 := q1) (q2 := q2) (q3 := q3) (q4 := q4) (q5 := q5) (q6 := q6) (q7 := q7) (q8 := q8) (q0 := q0) (z6 := z6) (N6 := N6) (a6 := a6) (N5 := N5) (a5 := a5) (n2 := n2) (b2 := b2) (z34 := z34) (N34 := N34) (z35 := z35) (N35 := N35) ?_ (by omega) (by omega) z
    rcases g1 with ⟨r, g⟩ | ⟨_, g⟩
    · exact Or.inl ⟨r, g, Or.inl (((g.lay.2.2 rfl).2.2.2.2).1)⟩
    · exact Or.inr g
  have hab := EC.le hP x
  have hL : L ≠ [] := fun e => by rw [e] at x; exact x
  have hL' : 0 < L.length := by
    cases L with
    | nil => exact absurd rfl hL
    | cons y L' => exact Nat.succ_pos _
  refine ⟨QX.ins, fun S G mu xu s hB hz hsz hS h0 => ?_⟩
  obtain ⟨tn, s2, m2, e2, c2, sl2, g1, g2, g3, g4, g5, g6⟩ := RunL (P := VEl T (VV T) true) (tk := fun x => (1, z, x.1, x.2.1, 1)) (W := fun x => wX T tx 1 x.2.2) (sep := 54) (sc := 44) (d := 0) (z := z) (Or.inl rfl) (fun i hi => (hTx i).2.2.2.2.1 hi) hP (by omega) (fun x => ⟨rfl, rfl, rfl⟩) L a x hRx S G mu xu s 0 hB hz (by omega) hS (fun i a b => (h0 i ⟨a, b⟩).1) (fun i a b => (h0 i ⟨a, by omega⟩).2) (h0 (b - 1) ⟨by omega, by omega⟩).2
  refine ⟨tn, s2, m2, e2, c2, sl2, g1, g2, g3, fun i u => g4 i (by unfold IvT at u; omega), fun p0 d1 d2 => ?_, fun fu R c' sl' hh => ?_⟩
  · rw [g5 p0 d1 d2]
    exact List.append_nil _
  · rw [show (exT z L).length = L.length from List.length_map ..]
    exact g6 fu R c' sl' hh
/-- a block's task, where its statements' task runs -/
theorem Run_b (hT : TkOK T m) (hp6 : PlIs m N6 a6 T) {z a b u tb : Nat} {F : Tr Lb} (hu : u < m) (h : ∀ p, RunS m q1 q2 q3 q4 q5 q6 q7 q8 q0 z6 N6 a6 N5 a5 n2 b2 z34 N34 z35 N35 [(0, p, a, b, 0)] p (IvT a b) F (QS T tx a b F) tb (b - a)) : RunS m q1 q2 q3 q4 q5 q6 q7 q8 q0 z6 N6 a6 N5 a5 n2 b2 z34 N34 z35 N35 [(2, z, a, b, u)] z (IvT a b) (Tr.nd (T.blk u) F) (QS T tx a b F) (tb + 1) (b - a) := by
  refine ⟨QS.ins, fun S G mu xu s hB hz hsz hS h0 => ?_⟩
  have hszn : Tr.sz (Tr.nd (T.blk u) F) = Tr.sz F + 1 := rfl
  obtain ⟨s0, c0, l0, v1, v2, v3⟩ := turn_b hT hp6 (q1 := q1) (q2 := q2) (q3 := q3) (q4 := q4) (q5 := q5) (q6 := q6) (q7 := q7) (q8 := q8) (q0 := q0) (z6 := z6) (N6 := N6) (a6 := a6) (N5 := N5) (a5 := a5) (n2 := n2) (b2 := b2) (z34 := z34) (N34 := N34) (z35 := z35) (N35 := N35) (T := T) (S := S) hB hz (by omega) hu (by omega)
  have hsG : Tr.sz (Tr.appAt (Tr.nd (T.blk u) .leaf) G z) = Tr.sz G + 1 := Tr.sz_appAt G z hz
  obtain ⟨n1, s1, m1, e1, c1, l1, w1, w2, w3, w4, w5, w6⟩ := (h (Tr.sz G)).2 S (Tr.appAt (Tr.nd (T.blk u) .leaf) G z) mu xu s0 v1 (Tr.OnP_new G z hz) (by omega) hS h0
  rw [Tr.appAt_new G z hz] at w2
  refine ⟨n1 + 1, s1, m1, e1, c0 + c1, l0 + l1, by omega, w2, v2.trans w3, w4, w5, fun fu R c' sl' hh => ?_⟩
  have a1 := w6 fu R c' sl' (by rw [hsG, show Tr.sz G + 1 + Tr.sz F = Tr.sz G + (Tr.sz F + 1) by omega]; exact hh)
  rw [hsG, show [((0, Tr.sz G, a, b, 0) : Tsk)].length + S.length = S.length + 1 from Nat.add_comm 1 _] at a1
  have a2 := v3 (fu + n1) R _ _ a1
  rw [show fu + (n1 + 1) = fu + n1 + 1 by omega, show c0 + c1 + c' = c0 + (c1 + c') by omega, show l0 + l1 + sl' = l0 + (l1 + sl') by omega, show [((2, z, a, b, u) : Tsk)].length + S.length = S.length + 1 from Nat.add_comm 1 _]
  exact a2
end Md
end

section
/-! what single tokens and names say -/
section S
variable {T : Tks} {tx : Nat → List Int32} {p : Nat} {mk ex : Nat → Nat}
theorem say0 {i : Nat} (h : mk i = 0) (hx : ex i = 0) (h1 : rkM (T.tkd i) = 0) (h2 : T.tkd i ≠ 56) (h3 : T.tkd i ≠ 54) (h4 : T.tkd i ≠ 55) : sayT T tx p mk ex i = tx i := by
  rw [sayT_plain h (bopB_k (Or.inl h1)) h2 h3 h4, hx]
  exact List.append_nil _
theorem rkM_lt {k : Nat} (h : k < 30) : rkM k = 0 := if_pos h
theorem say50 (hTx : TxK T tx) {i : Nat} (h : mk i = 0) (hx : ex i = 0) (hk : T.tkd i = 50) : sayT T tx p mk ex i = [40] := by
  rw [say0 h hx (by rw [hk]; rfl) (by omega) (by omega) (by omega)]
  exact (hTx i).1 hk
theorem say51 (hTx : TxK T tx) {i : Nat} (h : mk i = 0) (hx : ex i = 0) (hk : T.tkd i = 51) : sayT T tx p mk ex i = [41] := by
  rw [say0 h hx (by rw [hk]; rfl) (by omega) (by omega) (by omega)]
  exact (hTx i).2.1 hk
theorem say52 (hTx : TxK T tx) {i : Nat} (h : mk i = 0) (hx : ex i = 0) (hk : T.tkd i = 52) : sayT T tx p mk ex i = [91] := by
  rw [say0 h hx (by rw [hk]; rfl) (by omega) (by omega) (by omega)]
  exact (hTx i).2.2.1 hk
theorem say53 (hTx : TxK T tx) {i : Nat} (h : mk i = 0) (hx : ex i = 0) (hk : T.tkd i = 53) : sayT T tx p mk ex i = [93] := by
  rw [say0 h hx (by rw [hk]; rfl) (by omega) (by omega) (by omega)]
  exact (hTx i).2.2.2.1 hk
theorem say54 (hTx : TxK T tx) {i : Nat} (h : mk i = 0) (hx : ex i = 0) (hk : T.tkd i = 54) : sayT T tx p mk ex i = [44, 32] := by
  have hb0 : bopB T p i = false := bopB_k (Or.inl (by rw [hk]; rfl))
  unfold sayT spB spA
  rw [h, hx, hb0, if_neg (by decide), if_pos rfl, if_neg (fun y => y.elim (fun y => by cases y) (fun y => by omega)), if_pos (Or.inr (Or.inr (by omega))), (hTx i).2.2.2.2.1 hk]
  rfl
theorem say56 (hTx : TxK T tx) {i : Nat} (h : mk i = 0) (hx : ex i = 0) (hk : T.tkd i = 56) : sayT T tx p mk ex i = [32, 61, 32] := by
  unfold sayT spB spA
  rw [h, hx, if_neg (by decide), if_pos rfl, if_pos (Or.inr hk), if_pos (Or.inr (Or.inl hk)), (hTx i).2.2.2.2.2.2.1 hk]
  rfl
theorem say2 {i : Nat} (h : mk i = 0) (hx : ex i = 0) (hk : T.tkd i = 2 ∨ T.tkd i = 49) : sayT T tx p mk ex i = tx i :=
  say0 h hx (by rcases hk with hk | hk <;> (rw [hk]; rfl)) (by omega) (by omega) (by omega)
theorem Say.cons {a b : Nat} (h : a < b) : Say T tx p mk ex a b = sayT T tx p mk ex a ++ Say T tx p mk ex (a + 1) b := by
  rw [Say.cut (a := a) (c := a + 1) (by omega) (by omega), Say.one]
theorem Say.snoc {a b : Nat} (h : a ≤ b) : Say T tx p mk ex a (b + 1) = Say T tx p mk ex a b ++ sayT T tx p mk ex b := by
  rw [Say.cut (a := a) (c := b) h (by omega), Say.one]
theorem wTail_app (sp : List Int32) : ∀ (L M : List (List Int32)), wTail sp (L ++ M) = wTail sp L ++ wTail sp M
  | [], M => rfl
  | x :: L, M => by
    rw [List.cons_append, wTail, wTail, wTail_app sp L M]
    simp only [List.append_assoc]
theorem wSep_snoc (sp : List Int32) {L : List (List Int32)} (h : 0 < L.length) (x : List Int32) : wSep sp (L ++ [x]) = wSep sp L ++ (sp ++ x) := by
  match L, h with
  | y :: L, _ =>
    rw [List.cons_append, wSep, wSep, wTail_app, List.append_assoc]
    show y ++ (wTail sp L ++ (sp ++ x ++ [])) = _
    rw [List.append_nil]
theorem wF_nm {k : Int32} {i : Nat} {w : Int32} (hk : k = 32 ∨ k = 5) (hi : i < 2 ^ 31) : wF T tx (Tr.nd (k, T.tpl i, -1, w, nI i) .leaf) (fun _ => 1) = [tx i] := by
  have e : ∀ k : Int32, (k = 32 ∨ k = 5) → wrapW (decide (rkA T (k, T.tpl i, -1, w, nI i) < 1)) (bodyW T tx (k, T.tpl i, -1, w, nI i) (wF T tx .leaf (needW T (k, T.tpl i, -1, w, nI i) .leaf))) = tx (Int32.toNatClampNeg (nI i)) := by
    rintro k (h | h) <;> (subst h; rfl)
  rw [wF, e k hk, nI_clamp' hi, wF]
/-- names -/
theorem NmL.say (hTx : TxK T tx) {tg : Bool} {a : Nat} (ha : a < 2 ^ 20) : ∀ {n : Nat} {l : Tr Lb}, NmL T tg a n l → 0 < n → n < 2 ^ 20 → (∀ i, a ≤ i → i + 1 < a + 2 * n → mk i = 0 ∧ ex i = 0) → Say T tx p mk ex a (a + 2 * n - 1) = wSep [44, 32] (wF T tx l (fun _ => 1)) ∧ wF T tx l (fun _ => 1) ≠ []
  | 0, l, h, h0, _, _ => absurd h0 (by decide)
  | n + 1, l, ⟨t0, h1, h2, h3⟩, _, hn, hz => by
    have hl : wF T tx l (fun _ => 1) = wF T tx t0 (fun _ => 1) ++ [tx (a + 2 * n)] := by
      rcases h3 with ⟨_, h3⟩ | ⟨_, _, h3⟩
      · rw [h3, wF_app]
        congr 1
        exact wF_nm (Or.inl rfl) (by omega)
      · rw [h3, wF_app]
        congr 1
        exact wF_nm (Or.inr rfl) (by omega)
    have hk : T.tkd (a + 2 * n) = 2 ∨ T.tkd (a + 2 * n) = 49 := by
      rcases h3 with ⟨h3, _⟩ | ⟨_, h3, _⟩
      · exact Or.inl h3
      · exact Or.inr h3
    have hz0 := hz (a + 2 * n) (by omega) (by omega)
    refine ⟨?_, by rw [hl]; exact List.append_ne_nil_of_right_ne_nil _ (by exact List.cons_ne_nil _ _)⟩
    rw [hl, show a + 2 * (n + 1) - 1 = a + 2 * n + 1 by omega, Say.snoc (by omega), say2 hz0.1 hz0.2 hk]
    by_cases hn0 : n = 0
    · subst hn0
      have h1 : t0 = .leaf := h1
      subst h1
      rw [show a + 2 * 0 = a from rfl, Say.nil, List.nil_append]
      exact (List.append_nil _).symm
    · obtain ⟨w1, w2⟩ := NmL.say hTx ha (n := n) h1 (by omega) (by omega) (fun i a1 a2 => hz i a1 (by omega))
      have hz1 := hz (a + 2 * n - 1) (by omega) (by omega)
      have hcut : Say T tx p mk ex a (a + 2 * n) = Say T tx p mk ex a (a + 2 * n - 1) ++ [44, 32] := by
        rw [show a + 2 * n = a + 2 * n - 1 + 1 by omega, Say.snoc (by omega), say54 hTx hz1.1 hz1.2 (h2 (by omega)), Nat.add_sub_cancel]
      rw [hcut, w1, wSep_snoc _ (List.length_pos_iff.mpr w2), List.append_assoc]
end S
end

section
/-- a statement of which the nodes X stand: running its tasks puts the rest of its tree there and makes its tokens say its text -/
def StRun (T : Tks) (tx : Nat → List Int32) (m : Nat) (q1 q2 q3 q4 q5 q6 q7 q8 q0 z6 : Int32) (N6 : Nat) (a6 : Nat → Int32) (N5 : Nat) (a5 : Nat → Int32) (n2 : Nat) (b2 : Nat → Int32) (z34 : Int32) (N34 : Nat) (z35 : Int32) (N35 : Nat) (z a b : Nat) (t X : Tr Lb) (Ts : List Tsk) (mk mk1 : Nat → Nat) : Prop :=
  ∃ (z' : Nat) (U : Nat → Prop) (F : Tr Lb) (Q : (Nat → Nat) → (Nat → Nat) → Prop) (tb lb : Nat), RunS m q1 q2 q3 q4 q5 q6 q7 q8 q0 z6 N6 a6 N5 a5 n2 b2 z34 N34 z35 N35 Ts z' U F Q tb lb ∧ tb + 1 ≤ 4 * (b - a) ∧ lb + 1 ≤ b - a ∧ (∀ i, U i → a ≤ i ∧ i < b ∧ mk1 i = mk i) ∧ (∀ i, i < a ∨ b ≤ i → mk1 i = mk i) ∧
    (∀ G p, Tr.OnP G p → Tr.sz G = z → Tr.OnP (Tr.appAt X G p) z' ∧ Tr.appAt F (Tr.appAt X G p) z' = Tr.appAt t G p ∧ Tr.sz X + Tr.sz F = Tr.sz t) ∧
    ∀ mk' ex', Q mk' ex' → (∀ i, a ≤ i → i < b → ¬ U i → mk' i = mk1 i ∧ ex' i = 0) → (∀ i, a ≤ i → i < b → mk i = 0) → QS T tx a b t mk' ex'
theorem at_one {z : Nat} {lab : Lb} {F G : Tr Lb} {p : Nat} (hp : Tr.OnP G p) (hz : Tr.sz G = z) : Tr.OnP (Tr.appAt (Tr.nd lab .leaf) G p) z ∧ Tr.appAt F (Tr.appAt (Tr.nd lab .leaf) G p) z = Tr.appAt (Tr.nd lab F) G p ∧ Tr.sz (Tr.nd lab .leaf) + Tr.sz F = Tr.sz (Tr.nd lab F) := by
  subst hz
  refine ⟨Tr.OnP_new G p hp, by rw [Tr.appAt_new G p hp]; rfl, ?_⟩
  show 0 + 0 + 1 + Tr.sz F = Tr.sz F + 0 + 1
  omega
theorem at_more {z : Nat} {lab : Lb} {L F G : Tr Lb} {p : Nat} (hp : Tr.OnP G p) (hz : Tr.sz G = z) : Tr.OnP (Tr.appAt (Tr.nd lab L) G p) z ∧ Tr.appAt F (Tr.appAt (Tr.nd lab L) G p) z = Tr.appAt (Tr.nd lab (Tr.app L F)) G p ∧ Tr.sz (Tr.nd lab L) + Tr.sz F = Tr.sz (Tr.nd lab (Tr.app L F)) := by
  subst hz
  refine ⟨Tr.OnP_new G p hp, Tr.appAt_new G p hp, ?_⟩
  show Tr.sz L + 0 + 1 + Tr.sz F = Tr.sz (Tr.app L F) + 0 + 1
  rw [Tr.sz_app]
  omega
theorem at_two {z : Nat} {lab1 lab2 : Lb} {L F G : Tr Lb} {p : Nat} (hp : Tr.OnP G p) (hz : Tr.sz G = z) : Tr.OnP (Tr.appAt (Tr.nd lab1 (Tr.app L (Tr.nd lab2 .leaf))) G p) (z + Tr.sz L + 1) ∧ Tr.appAt F (Tr.appAt (Tr.nd lab1 (Tr.app L (Tr.nd lab2 .leaf))) G p) (z + Tr.sz L + 1) = Tr.appAt (Tr.nd lab1 (Tr.app L (Tr.nd lab2 F))) G p ∧ Tr.sz (Tr.nd lab1 (Tr.app L (Tr.nd lab2 .leaf))) + Tr.sz F = Tr.sz (Tr.nd lab1 (Tr.app L (Tr.nd lab2 F))) := by
  subst hz
  have e : ∀ H, Tr.appAt (Tr.nd lab1 (Tr.app L (Tr.nd lab2 H))) G p = Tr.appAt (Tr.nd lab2 H) (Tr.appAt (Tr.nd lab1 L) G p) (Tr.sz G) := fun H => (Tr.appAt_new G p hp).symm
  have hs : Tr.sz (Tr.appAt (Tr.nd lab1 L) G p) = Tr.sz G + Tr.sz L + 1 := by
    rw [Tr.sz_appAt G p hp]
    show Tr.sz G + (Tr.sz L + 0 + 1) = _
    omega
  have ho := Tr.OnP_new (a0 := lab1) (L := L) G p hp
  refine ⟨?_, ?_, ?_⟩
  · rw [e, ← hs]
    exact Tr.OnP_new _ _ ho
  · rw [e, e, ← hs, Tr.appAt_new _ _ ho]
    rfl
  · show Tr.sz (Tr.app L (Tr.nd lab2 .leaf)) + 0 + 1 + Tr.sz F = Tr.sz (Tr.app L (Tr.nd lab2 F)) + 0 + 1
    rw [Tr.sz_app, Tr.sz_app]
    show Tr.sz L + (0 + 0 + 1) + 0 + 1 + Tr.sz F = Tr.sz L + (Tr.sz F + 0 + 1) + 0 + 1
    omega
section Md
variable {T : Tks} {m N5 N6 : Nat} {a5 a6 : Nat → Int32} {tx : Nat → List Int32}
variable {n2 : Nat} {b2 : Nat → Int32}
variable {q1 q2 q3 q4 q5 q6 q7 q8 q0 z6 z34 z35 : Int32} {N34 N35 : Nat}
/-- a word alone -/
theorem SR_word {z a b : Nat} {k : Int32} {mk : Nat → Nat} (x : SV T 0 a b (Tr.nd (T.lb k a) .leaf)) (hb : b < 2 ^ 17) (h1 : b = a + 2) (hka : (T.tkd a = 16 ∧ k = 15) ∨ (T.tkd a = 17 ∧ k = 16) ∨ (T.tkd a = 18 ∧ k = 17)) : StRun T tx m q1 q2 q3 q4 q5 q6 q7 q8 q0 z6 N6 a6 N5 a5 n2 b2 z34 N34 z35 N35 z a b (Tr.nd (T.lb k a) .leaf) (Tr.nd (T.lb k a) .leaf) [] mk mk := by
  subst h1
  have hno : ¬ opb (T.tkd a) := by unfold opb; omega
  obtain ⟨w1, w2, w3⟩ := ((x.sq hb).2.2.1 rfl).2.2 hno
  refine ⟨z, _, _, _, 0, 0, RunS.nil, by omega, by omega, fun i u => u.elim, fun i _ => rfl, fun G p hp hz => ?_, fun mk' ex' _ hu h0 d => ⟨1, ?_⟩⟩
  · have := at_one (F := .leaf) (lab := T.lb k a) hp hz
    exact this
  · have ha := hu a (by omega) (by omega) (fun u => u)
    have hw := wp_smp (T := T) (tx := tx) (mk := mk') (ex := ex') (p := a) (c := a + 1) (d := d) (x := tx a) (by unfold stB; omega) hno (by omega) (by omega) w1 (by omega) w2 w3 (by
      rw [Say.one]
      exact say0 (by rw [ha.1]; exact h0 a (by omega) (by omega)) ha.2 (rkM_lt (by omega)) (by omega) (by omega) (by omega))
    have e : ∀ k : Int32, (k = 15 ∨ k = 16 ∨ k = 17) → wS T tx d (Tr.nd (T.lb k a) .leaf) = lineW d (tx (Int32.toNatClampNeg (nI a))) := by
      intro k h
      rw [wS_nd (show k ≠ 3 by rintro rfl; revert h; decide)]
      rcases h with h | h | h <;> (subst h; rfl)
    rw [e k (by rcases hka with ⟨_, h⟩ | ⟨_, h⟩ | ⟨_, h⟩ <;> simp only [h, true_or, or_true]), nI_clamp' (by omega)]
    exact hw
/-- print and show -/
theorem SR_list (hT : TkOK T m) (hk : KdIs m N5 a5 T.tkd) (hp6 : PlIs m N6 a6 T) (hTx : TxK T tx) (hr : RkIs n2 b2) {z a b' : Nat} {k : Int32} {L : List Piece} {mk : Nat → Nat} (x : SV T 0 a (b' + 1) (Tr.nd (T.lb k a) (joinT L))) (hb : b' < m) (hka : (T.tkd a = 20 ∧ k = 18) ∨ (T.tkd a = 21 ∧ k = 19)) (hL : EC (VEl T (VV T) true) T.tkd 54 (a + 1) L b') : StRun T tx m q1 q2 q3 q4 q5 q6 q7 q8 q0 z6 N6 a6 N5 a5 n2 b2 z34 N34 z35 N35 z a (b' + 1) (Tr.nd (T.lb k a) (joinT L)) (Tr.nd (T.lb k a) .leaf) (exT z L) mk mk := by
  have hle := hT.le
  have hP : ∀ s e t, VEl T (VV T) true s e t → s < e := fun s e t h => (VEl.lay h).2.1
  have hno : ¬ opb (T.tkd a) := by unfold opb; omega
  obtain ⟨w1, w2, w3⟩ := ((x.sq (by omega)).2.2.1 rfl).2.2 hno
  rw [Nat.add_sub_cancel] at w1 w2 w3
  have hab := EC.le hP hL
  have hrt : ∀ x ∈ L, Tr.rt x.2.2 = 1 := fun x hxm => (VEl.lay (EC.mem hP hL x hxm).1).2.2.2.1
  refine ⟨z, _, _, _, _, _, Run_l hT hk hp6 hTx hr (q1 := q1) (q2 := q2) (q3 := q3) (q4 := q4) (q5 := q5) (q6 := q6) (q7 := q7) (q8 := q8) (q0 := q0) (z6 := z6) (N6 := N6) (a6 := a6) (N5 := N5) (a5 := a5) (n2 := n2) (b2 := b2) (z34 := z34) (N34 := N34) (z35 := z35) (N35 := N35) hL (by omega) z, by omega, by omega, fun i u => ⟨by have := u.1; omega, by have := u.2; omega, rfl⟩, fun i _ => rfl, fun G p hp hz => at_one hp hz, fun mk' ex' hQ hu h0 d => ⟨1, ?_⟩⟩
  have hw := wp_list (T := T) (tx := tx) (mk := mk') (ex := ex') (p := a) (c := b') (d := d) (by omega) w1 (by omega) w2 w3 (hQ (a + 1) (Nat.le_refl _) (fun h => absurd h (Nat.lt_irrefl _)))
  have e : ∀ k : Int32, (k = 18 ∨ k = 19) → wS T tx d (Tr.nd (T.lb k a) (joinT L)) = lineW d (tx (Int32.toNatClampNeg (nI a)) ++ sW 83 ++ wSep [44, 32] (wF T tx (joinT L) (fun _ => 1))) := by
    intro k h
    rw [wS_nd (show k ≠ 3 by rintro rfl; revert h; decide)]
    rcases h with h | h <;> (subst h; rfl)
  rw [e k (by rcases hka with ⟨_, h⟩ | ⟨_, h⟩ <;> simp only [h, true_or, or_true]), nI_clamp' (by omega), wF_join L hrt]
  exact hw
/-- an expression -/
theorem SR_expr (hT : TkOK T m) (hk : KdIs m N5 a5 T.tkd) (hp6 : PlIs m N6 a6 T) (hTx : TxK T tx) (hr : RkIs n2 b2) {z a b' r : Nat} {l : Tr Lb} {mk : Nat → Nat} (x : SV T 0 a (b' + 1) (Tr.nd (T.lb 20 a) l)) (hb : b' < m) (hw : ¬ wordK (T.tkd a)) (hl : VV T 0 r a b' l) : StRun T tx m q1 q2 q3 q4 q5 q6 q7 q8 q0 z6 N6 a6 N5 a5 n2 b2 z34 N34 z35 N35 z a (b' + 1) (Tr.nd (T.lb 20 a) l) (Tr.nd (T.lb 20 a) .leaf) [(1, z, a, b', 1)] mk mk := by
  have hle := hT.le
  have hno : ¬ opb (T.tkd a) := by unfold opb; unfold wordK at hw; omega
  obtain ⟨w1, w2, w3⟩ := ((x.sq (by omega)).2.2.1 rfl).2.2 hno
  rw [Nat.add_sub_cancel] at w1 w2 w3
  have hab := hl.lt
  refine ⟨z, _, _, _, _, _, Run_e hT hk hp6 hTx hr (q1 := q1) (q2 := q2) (q3 := q3) (q4 := q4) (q5 := q5) (q6 := q6) (q7 := q7) (q8 := q8) (q0 := q0) (z6 := z6) (N6 := N6) (a6 := a6) (N5 := N5) (a5 := a5) (n2 := n2) (b2 := b2) (z34 := z34) (N34 := N34) (z35 := z35) (N35 := N35) hl (by omega) z, by omega, by omega, fun i u => ⟨by have := u.1; omega, by have := u.2; omega, rfl⟩, fun i _ => rfl, fun G p hp hz => at_one hp hz, fun mk' ex' hQ hu h0 d => ⟨1, ?_⟩⟩
  have hw' := wp_smp (T := T) (tx := tx) (mk := mk') (ex := ex') (p := a) (c := b') (d := d) (by unfold stB; unfold wordK at hw; omega) hno (by unfold wordK at hw; omega) (by unfold wordK at hw; omega) w1 hab w2 w3 (hQ a (Nat.le_refl _) (fun h => absurd h (Nat.lt_irrefl _)))
  have e : wS T tx d (Tr.nd (T.lb 20 a) l) = lineW d (wSep [] (wF T tx l (fun _ => 1))) := by
    rw [wS_nd (show (20 : Int32) ≠ 3 by decide)]; rfl
  rw [e, wF_one hl.rt1]
  show WrP T tx mk' ex' 1 a d (b' + 1) d (lineW d (wX T tx 1 l ++ []))
  rw [List.append_nil]
  exact hw'
/-- a gift -/
theorem SR_give (hT : TkOK T m) (hk : KdIs m N5 a5 T.tkd) (hp6 : PlIs m N6 a6 T) (hTx : TxK T tx) (hr : RkIs n2 b2) {z a g b' r1 r2 : Nat} {t1 t2 : Tr Lb} {mk : Nat → Nat} (x : SV T 0 a (b' + 1) (Tr.nd (21, T.tpl g, T.tpl a, T.twd g, nI g) (Tr.app t1 t2))) (hb : b' < m) (h56 : T.tkd g = 56) (h2 : T.tkd a = 2) (x1 : VV T 0 r1 a g t1) (x2 : VV T 0 r2 (g + 1) b' t2) : StRun T tx m q1 q2 q3 q4 q5 q6 q7 q8 q0 z6 N6 a6 N5 a5 n2 b2 z34 N34 z35 N35 z a (b' + 1) (Tr.nd (21, T.tpl g, T.tpl a, T.twd g, nI g) (Tr.app t1 t2)) (Tr.nd (21, T.tpl g, T.tpl a, T.twd g, nI g) .leaf) [(1, z, a, g, 1), (1, z, g + 1, b', 1)] mk mk := by
  have hle := hT.le
  have hno : ¬ opb (T.tkd a) := by unfold opb; omega
  obtain ⟨w1, w2, w3⟩ := ((x.sq (by omega)).2.2.1 rfl).2.2 hno
  rw [Nat.add_sub_cancel] at w1 w2 w3
  have hab := x1.lt
  have hgb := x2.lt
  refine ⟨z, _, _, _, _, _, (Run_e hT hk hp6 hTx hr (q1 := q1) (q2 := q2) (q3 := q3) (q4 := q4) (q5 := q5) (q6 := q6) (q7 := q7) (q8 := q8) (q0 := q0) (z6 := z6) (N6 := N6) (a6 := a6) (N5 := N5) (a5 := a5) (n2 := n2) (b2 := b2) (z34 := z34) (N34 := N34) (z35 := z35) (N35 := N35) x1 (by omega) z).app (Run_e hT hk hp6 hTx hr (q1 := q1) (q2 := q2) (q3 := q3) (q4 := q4) (q5 := q5) (q6 := q6) (q7 := q7) (q8 := q8) (q0 := q0) (z6 := z6) (N6 := N6) (a6 := a6) (N5 := N5) (a5 := a5) (n2 := n2) (b2 := b2) (z34 := z34) (N34 := N34) (z35 := z35) (N35 := N35) x2 (by omega) z) (fun i u v => by have := u.2; have := v.1; omega) (b' - a) (by show 1 + _ ≤ _; omega) (by omega), by omega, by omega, fun i u => ?_, fun i _ => rfl, fun G p hp hz => at_one hp hz, fun mk' ex' hQ hu h0 d => ⟨1, ?_⟩⟩
  · rcases u with u | u
    · exact ⟨u.1, by have := u.2; omega, rfl⟩
    · exact ⟨by have := u.1; omega, by have := u.2; omega, rfl⟩
  have hg := hu g (by omega) (by omega) (fun u => u.elim (fun u => by have := u.2; omega) (fun u => by have := u.1; omega))
  have hw' := wp_smp (T := T) (tx := tx) (mk := mk') (ex := ex') (p := a) (c := b') (d := d) (x := wX T tx 1 t1 ++ ([32, 61, 32] ++ wX T tx 1 t2)) (by unfold stB; omega) hno (by omega) (by omega) w1 (by omega) w2 w3 (by
    rw [Say.cut (a := a) (c := g) (by omega) (by omega), Say.cons (a := g) (by omega), hQ.1 a (Nat.le_refl _) (fun h => absurd h (Nat.lt_irrefl _)), say56 hTx (by rw [hg.1]; exact h0 g (by omega) (by omega)) hg.2 h56, hQ.2 a (by omega) (fun _ => by rw [Nat.add_sub_cancel, h56]; unfold eO; omega)])
  have e : wS T tx d (Tr.nd (21, T.tpl g, T.tpl a, T.twd g, nI g) (Tr.app t1 t2)) = lineW d (wSep [32, 61, 32] (wF T tx (Tr.app t1 t2) (fun _ => 1))) := by
    rw [wS_nd (show (21 : Int32) ≠ 3 by decide)]; rfl
  rw [e, wF_app, wF_one x1.rt1, wF_one x2.rt1]
  show WrP T tx mk' ex' 1 a d (b' + 1) d (lineW d (wX T tx 1 t1 ++ ([32, 61, 32] ++ wX T tx 1 t2 ++ [])))
  rw [List.append_nil]
  exact hw'
end Md
end
