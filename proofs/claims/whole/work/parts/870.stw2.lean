section
section Md
variable {T : Tks} {m N5 N6 : Nat} {a5 a6 : Nat → Int32} {tx : Nat → List Int32}
variable {n2 : Nat} {b2 : Nat → Int32}
variable {q1 q2 q3 q4 q5 q6 q7 q8 q0 z6 z34 z35 : Int32} {N34 N35 : Nat}
/-- of more tokens: those that no task reaches stay as they were -/
theorem RunS.ext {Ts : List Tsk} {z : Nat} {U U' : Nat → Prop} {F : Tr Lb} {Q Q' : (Nat → Nat) → (Nat → Nat) → Prop} {tb lb tb' lb' : Nat} (h : RunS m q1 q2 q3 q4 q5 q6 q7 q8 q0 z6 N6 a6 N5 a5 n2 b2 z34 N34 z35 N35 Ts z U F Q tb lb) (hU : ∀ i, U i → U' i) (hI : Ins U' Q') (hQ : ∀ mk ex, Q mk ex → (∀ i, U' i → ¬ U i → mk i = 0 ∧ ex i = 0) → Q' mk ex) (ht : tb ≤ tb') (hl : lb ≤ lb') : RunS m q1 q2 q3 q4 q5 q6 q7 q8 q0 z6 N6 a6 N5 a5 n2 b2 z34 N34 z35 N35 Ts z U' F Q' tb' lb' := by
  refine ⟨hI, fun S G mu xu s hB hz hsz hS h0 => ?_⟩
  obtain ⟨n1, s1, m1, e1, c1, l1, w1, w2, w3, w4, w5, w6⟩ := h.2 S G mu xu s hB hz hsz (by omega) (fun i u => h0 i (hU i u))
  refine ⟨n1, s1, m1, e1, c1, l1, by omega, w2, w3, fun i u => w4 i (fun x => u (hU i x)), hQ _ _ w5 (fun i u v => ?_), w6⟩
  have := w4 i v
  rw [this.1, this.2]
  exact h0 i u
/-- the premise about inner blocks -/
def BlkR (T : Tks) (tx : Nat → List Int32) (m : Nat) (q1 q2 q3 q4 q5 q6 q7 q8 q0 z6 : Int32) (N6 : Nat) (a6 : Nat → Int32) (N5 : Nat) (a5 : Nat → Int32) (n2 : Nat) (b2 : Nat → Int32) (z34 : Int32) (N34 : Nat) (z35 : Int32) (N35 : Nat) (a b : Nat) : Prop := ∀ a' b' F, a < a' → b' < b → SV T 1 a' b' F → ∀ p, RunS m q1 q2 q3 q4 q5 q6 q7 q8 q0 z6 N6 a6 N5 a5 n2 b2 z34 N34 z35 N35 [(0, p, a', b', 0)] p (IvT a' b') F (QS T tx a' b' F) (4 * (b' - a') + 1) (b' - a')
theorem Run_l0 (hT : TkOK T m) (hk : KdIs m N5 a5 T.tkd) (hp6 : PlIs m N6 a6 T) (hTx : TxK T tx) (hr : RkIs n2 b2) {a b : Nat} {L : List Piece} (x : (b = a ∧ L = []) ∨ EC (VEl T (VV T) true) T.tkd 54 a L b) (hb : b ≤ m) (z : Nat) : RunS m q1 q2 q3 q4 q5 q6 q7 q8 q0 z6 N6 a6 N5 a5 n2 b2 z34 N34 z35 N35 (exT z L) z (IvT a b) (joinT L) (QX T tx a b (wSep [44, 32] (wF T tx (joinT L) (fun _ => 1)))) (b - a) (b - a) := by
  rcases x with ⟨h1, h2⟩ | x
  · subst h1 h2
    refine RunS.nil.ext (fun i u => u.elim) QX.ins (fun mk ex _ _ p0 _ _ => ?_) (Nat.zero_le _) (Nat.zero_le _)
    rw [Say.nil]
    rfl
  · have hP : ∀ s e t, VEl T (VV T) true s e t → s < e := fun s e t h => (VEl.lay h).2.1
    have hrt : ∀ x ∈ L, Tr.rt x.2.2 = 1 := fun y hxm => (VEl.lay (EC.mem hP x y hxm).1).2.2.2.1
    rw [wF_join L hrt]
    exact Run_l hT hk hp6 hTx hr (q1 := q1) (q2 := q2) (q3 := q3) (q4 := q4) (q5 := q5) (q6 := q6) (q7 := q7) (q8 := q8) (q0 := q0) (z6 := z6) (N6 := N6) (a6 := a6) (N5 := N5) (a5 := a5) (n2 := n2) (b2 := b2) (z34 := z34) (N34 := N34) (z35 := z35) (N35 := N35) x hb z
theorem say_par (hTx : TxK T tx) {a c : Nat} {w : List Int32} {mk ex : Nat → Nat} (h50 : T.tkd a = 50) (h51 : T.tkd c = 51) (hac : a + 1 ≤ c) (ha : mk a = 0 ∧ ex a = 0) (hc : mk c = 0 ∧ ex c = 0) (hQ : QX T tx (a + 1) c w mk ex) : Say T tx a mk ex a (c + 1) = [40] ++ w ++ [41] := by
  rw [Say.cons (by omega), Say.snoc (by omega), say50 hTx ha.1 ha.2 h50, say51 hTx hc.1 hc.2 h51, hQ a (by omega) (fun _ => by rw [Nat.add_sub_cancel, h50]; unfold eO; omega), List.append_assoc]
/-- several places -/
theorem SR_many (hT : TkOK T m) (hk : KdIs m N5 a5 T.tkd) (hp6 : PlIs m N6 a6 T) (hTx : TxK T tx) (hr : RkIs n2 b2) {z a n c : Nat} {l : Tr Lb} {L : List Piece} {mk : Nat → Nat} (x : SV T 0 a (c + 2) (Tr.nd (10, T.tpl (a + 2 * n + 1), T.tpl a, T.twd (a + 2 * n + 1), nI (a + 2 * n + 1)) (Tr.app (Tr.nd (T.nms a) l) (Tr.nd (33, T.tpl (a + 2 * n + 2), T.tpl (a + 2 * n + 3), T.twd (a + 2 * n + 2), nI (a + 2 * n + 2)) (joinT L))))) (hb : c + 1 < m) (h52 : T.tkd a = 52) (hn : 0 < n) (hl : NmL T true (a + 1) n l) (h53 : T.tkd (a + 2 * n) = 53) (h56 : T.tkd (a + 2 * n + 1) = 56) (h2 : T.tkd (a + 2 * n + 2) = 2) (h50 : T.tkd (a + 2 * n + 3) = 50) (h51 : T.tkd c = 51) (hL : (c = a + 2 * n + 4 ∧ L = []) ∨ EC (VEl T (VV T) true) T.tkd 54 (a + 2 * n + 4) L c) : StRun T tx m q1 q2 q3 q4 q5 q6 q7 q8 q0 z6 N6 a6 N5 a5 n2 b2 z34 N34 z35 N35 z a (c + 2) (Tr.nd (10, T.tpl (a + 2 * n + 1), T.tpl a, T.twd (a + 2 * n + 1), nI (a + 2 * n + 1)) (Tr.app (Tr.nd (T.nms a) l) (Tr.nd (33, T.tpl (a + 2 * n + 2), T.tpl (a + 2 * n + 3), T.twd (a + 2 * n + 2), nI (a + 2 * n + 2)) (joinT L)))) (Tr.nd (10, T.tpl (a + 2 * n + 1), T.tpl a, T.twd (a + 2 * n + 1), nI (a + 2 * n + 1)) (Tr.app (Tr.nd (T.nms a) l) (Tr.nd (33, T.tpl (a + 2 * n + 2), T.tpl (a + 2 * n + 3), T.twd (a + 2 * n + 2), nI (a + 2 * n + 2)) .leaf))) (exT (z + n + 2) L) mk mk := by
  have hle := hT.le
  have hno : ¬ opb (T.tkd a) := by unfold opb; omega
  obtain ⟨w1, w2, w3⟩ := ((x.sq (by omega)).2.2.1 rfl).2.2 hno
  have hac : a + 2 * n + 4 ≤ c := by
    rcases hL with h | h
    · omega
    · have := EC.le (fun s e t h => (VEl.lay h).2.1) h; omega
  have hls : Tr.sz l = n := hl.sz
  refine ⟨z + n + 2, _, _, _, _, _, Run_l0 hT hk hp6 hTx hr (q1 := q1) (q2 := q2) (q3 := q3) (q4 := q4) (q5 := q5) (q6 := q6) (q7 := q7) (q8 := q8) (q0 := q0) (z6 := z6) (N6 := N6) (a6 := a6) (N5 := N5) (a5 := a5) (n2 := n2) (b2 := b2) (z34 := z34) (N34 := N34) (z35 := z35) (N35 := N35) hL (by omega) (z + n + 2), by omega, by omega, fun i u => ⟨by have := u.1; omega, by have := u.2; omega, rfl⟩, fun i _ => rfl, fun G p hp hz => ?_, fun mk' ex' hQ hu h0 d => ⟨1, ?_⟩⟩
  · have := at_two (lab1 := (10, T.tpl (a + 2 * n + 1), T.tpl a, T.twd (a + 2 * n + 1), nI (a + 2 * n + 1))) (lab2 := (33, T.tpl (a + 2 * n + 2), T.tpl (a + 2 * n + 3), T.twd (a + 2 * n + 2), nI (a + 2 * n + 2))) (L := Tr.nd (T.nms a) l) (F := joinT L) hp hz
    rw [show z + Tr.sz (Tr.nd (T.nms a) l) + 1 = z + n + 2 by
      show z + (Tr.sz l + 0 + 1) + 1 = _
      omega] at this
    exact this
  · have zz : ∀ i, a ≤ i → i < a + 2 * n + 4 ∨ c ≤ i → i < c + 2 → mk' i = 0 ∧ ex' i = 0 := fun i i1 i2 i3 => by
      have := hu i i1 i3 (fun u => by have := u.1; have := u.2; omega)
      exact ⟨by rw [this.1]; exact h0 i i1 i3, this.2⟩
    have hw := wp_smp (T := T) (tx := tx) (mk := mk') (ex := ex') (p := a) (c := c + 1) (d := d) (x := [91] ++ (wSep [44, 32] (wF T tx l (fun _ => 1)) ++ ([93] ++ ([32, 61, 32] ++ (tx (a + 2 * n + 2) ++ ([40] ++ wSep [44, 32] (wF T tx (joinT L) (fun _ => 1)) ++ [41])))))) (by unfold stB; omega) hno (by omega) (by omega) w1 (by omega) w2 w3 (by
      have e1 := zz a (by omega) (by omega) (by omega)
      have e2 := zz (a + 2 * n) (by omega) (by omega) (by omega)
      have e3 := zz (a + 2 * n + 1) (by omega) (by omega) (by omega)
      have e4 := zz (a + 2 * n + 2) (by omega) (by omega) (by omega)
      have e5 := zz (a + 2 * n + 3) (by omega) (by omega) (by omega)
      have e6 := zz c (by omega) (by omega) (by omega)
      have hnm := (hl.say hTx (p := a) (mk := mk') (ex := ex') (by omega) hn (by omega) (fun i i1 i2 => zz i (by omega) (by omega) (by omega))).1
      rw [show a + 1 + 2 * n - 1 = a + 2 * n by omega] at hnm
      rw [Say.cons (a := a) (by omega), Say.cut (a := a + 1) (c := a + 2 * n) (by omega) (by omega), Say.cons (a := a + 2 * n) (by omega), Say.cons (a := a + 2 * n + 1) (by omega), Say.cons (a := a + 2 * n + 1 + 1) (by omega), hnm, say52 hTx e1.1 e1.2 h52, say53 hTx e2.1 e2.2 h53, say56 hTx e3.1 e3.2 h56, say2 e4.1 e4.2 (Or.inl h2)]
      have hp := say_par hTx h50 h51 (by omega) e5 e6 hQ
      rw [Say.cons (a := a + 2 * n + 1 + 1 + 1) (by omega), Say.snoc (by omega), say50 hTx e5.1 e5.2 h50, say51 hTx e6.1 e6.2 h51, hQ a (by omega) (fun _ => by show ¬ eO (T.tkd (a + 2 * n + 3)); rw [h50]; unfold eO; omega), ← List.append_assoc [40]])
    have e : wS T tx d (Tr.nd (10, T.tpl (a + 2 * n + 1), T.tpl a, T.twd (a + 2 * n + 1), nI (a + 2 * n + 1)) (Tr.app (Tr.nd (T.nms a) l) (Tr.nd (33, T.tpl (a + 2 * n + 2), T.tpl (a + 2 * n + 3), T.twd (a + 2 * n + 2), nI (a + 2 * n + 2)) (joinT L)))) = lineW d ([91] ++ wSep [44, 32] (wF T tx l (fun _ => 1)) ++ [93, 32, 61, 32] ++ (tx (Int32.toNatClampNeg (nI (a + 2 * n + 2))) ++ [40] ++ wSep [44, 32] (wF T tx (joinT L) (fun _ => 1)) ++ [41])) := by
      rw [wS_nd (show (10 : Int32) ≠ 3 by decide)]; rfl
    rw [e, nI_clamp' (by omega)]
    refine Eq.mp (congrArg (fun x => WrP T tx mk' ex' 1 a d (c + 2) d (lineW d x)) ?_) hw
    simp only [List.append_assoc, List.cons_append, List.nil_append]
/-- while -/
theorem SR_while (hT : TkOK T m) (hk : KdIs m N5 a5 T.tkd) (hp6 : PlIs m N6 a6 T) (hTx : TxK T tx) (hW : TxW T tx) (hr : RkIs n2 b2) {z a c e r : Nat} {l S : Tr Lb} {mk : Nat → Nat} (hb : e < m) (h14 : T.tkd a = 14) (h50 : T.tkd (a + 1) = 50) (xl : VV T 0 r (a + 2) c l) (h51 : T.tkd c = 51) (xs : SV T 1 (c + 1) e S) (h13 : T.tkd e = 13) (IH : BlkR T tx m q1 q2 q3 q4 q5 q6 q7 q8 q0 z6 N6 a6 N5 a5 n2 b2 z34 N34 z35 N35 a (e + 1)) : StRun T tx m q1 q2 q3 q4 q5 q6 q7 q8 q0 z6 N6 a6 N5 a5 n2 b2 z34 N34 z35 N35 z a (e + 1) (Tr.nd (T.lb 12 a) (Tr.app l (Tr.nd (T.blk c) S))) (Tr.nd (T.lb 12 a) .leaf) [(1, z, a + 2, c, 1), (2, z, c + 1, e, c)] mk mk := by
  have hle := hT.le
  have hac := xl.lt
  have hce := (xs.sq (by omega)).1
  refine ⟨z, _, _, _, _, _, (Run_e hT hk hp6 hTx hr (q1 := q1) (q2 := q2) (q3 := q3) (q4 := q4) (q5 := q5) (q6 := q6) (q7 := q7) (q8 := q8) (q0 := q0) (z6 := z6) (N6 := N6) (a6 := a6) (N5 := N5) (a5 := a5) (n2 := n2) (b2 := b2) (z34 := z34) (N34 := N34) (z35 := z35) (N35 := N35) xl (by omega) z).app (Run_b hT hp6 (q1 := q1) (q2 := q2) (q3 := q3) (q4 := q4) (q5 := q5) (q6 := q6) (q7 := q7) (q8 := q8) (q0 := q0) (z6 := z6) (N6 := N6) (a6 := a6) (N5 := N5) (a5 := a5) (n2 := n2) (b2 := b2) (z34 := z34) (N34 := N34) (z35 := z35) (N35 := N35) (tx := tx) (z := z) (u := c) (by omega) (IH (c + 1) e S (by omega) (by omega) xs)) (fun i u v => by have := u.2; have := v.1; omega) (e - a) (by show 1 + _ ≤ _; omega) (by omega), by omega, by omega, fun i u => ?_, fun i _ => rfl, fun G p hp hz => at_one hp hz, fun mk' ex' hQ hu h0 d => ?_⟩
  · rcases u with u | u
    · exact ⟨by have := u.1; omega, by have := u.2; omega, rfl⟩
    · exact ⟨by have := u.1; omega, by have := u.2; omega, rfl⟩
  have zz : ∀ i, a ≤ i → i < e + 1 → i < a + 2 ∨ i = c → mk' i = 0 ∧ ex' i = 0 := fun i i1 i2 i3 => by
    have := hu i i1 i2 (fun u => u.elim (fun u => by have := u.1; have := u.2; omega) (fun u => by have := u.1; have := u.2; omega))
    exact ⟨by rw [this.1]; exact h0 i i1 i2, this.2⟩
  obtain ⟨n, hn⟩ := hQ.2 (d + 1)
  have hs := say_par hTx h50 h51 (by omega) (zz (a + 1) (by omega) (by omega) (by omega)) (zz c (by omega) (by omega) (by omega)) hQ.1
  have hh := wp_head (d := d) hW (Or.inr (Or.inl h14)) (Lay.cl (Or.inl h50) xl.lay.1 (Or.inl h51) (by omega)) (by omega) hs
  rw [h14] at hh
  refine ⟨1 + (n + 1), ?_⟩
  have e1 : wS T tx d (Tr.nd (T.lb 12 a) (Tr.app l (Tr.nd (T.blk c) S))) = headW d 14 ([40] ++ (wF T tx (Tr.app l (Tr.nd (T.blk c) S)) (fun _ => 1)).getD 0 [] ++ [41]) ++ ((wL T tx (Tr.app l (Tr.nd (T.blk c) S)) (d + 1)).getD 1 [] ++ wordW d 13) := by
    rw [wS_nd (show (12 : Int32) ≠ 3 by decide)]; rfl
  obtain ⟨w, hw⟩ := wL_one (T := T) (tx := tx) (d := d + 1) xl.rt1
  rw [e1, wF_app, wF_one xl.rt1, wL_app, hw, wL_blk]
  exact hh.app (hn.app (wp_end hW h13))
/-- for -/
theorem SR_for (hT : TkOK T m) (hk : KdIs m N5 a5 T.tkd) (hp6 : PlIs m N6 a6 T) (hTx : TxK T tx) (hW : TxW T tx) (hr : RkIs n2 b2) {z a c e r : Nat} {l S : Tr Lb} {mk : Nat → Nat} (hb : e < m) (h15 : T.tkd a = 15) (h50 : T.tkd (a + 1) = 50) (h2 : T.tkd (a + 2) = 2) (h56 : T.tkd (a + 3) = 56) (xl : VV T 0 r (a + 4) c l) (h51 : T.tkd c = 51) (xs : SV T 1 (c + 1) e S) (h13 : T.tkd e = 13) (IH : BlkR T tx m q1 q2 q3 q4 q5 q6 q7 q8 q0 z6 N6 a6 N5 a5 n2 b2 z34 N34 z35 N35 a (e + 1)) : StRun T tx m q1 q2 q3 q4 q5 q6 q7 q8 q0 z6 N6 a6 N5 a5 n2 b2 z34 N34 z35 N35 z a (e + 1) (Tr.nd (T.lb 13 a) (Tr.app (Tr.nd (T.lb 32 (a + 2)) .leaf) (Tr.app l (Tr.nd (T.blk c) S)))) (Tr.nd (T.lb 13 a) (Tr.nd (T.lb 32 (a + 2)) .leaf)) [(1, z, a + 4, c, 1), (2, z, c + 1, e, c)] mk mk := by
  have hle := hT.le
  have hac := xl.lt
  have hce := (xs.sq (by omega)).1
  refine ⟨z, _, _, _, _, _, (Run_e hT hk hp6 hTx hr (q1 := q1) (q2 := q2) (q3 := q3) (q4 := q4) (q5 := q5) (q6 := q6) (q7 := q7) (q8 := q8) (q0 := q0) (z6 := z6) (N6 := N6) (a6 := a6) (N5 := N5) (a5 := a5) (n2 := n2) (b2 := b2) (z34 := z34) (N34 := N34) (z35 := z35) (N35 := N35) xl (by omega) z).app (Run_b hT hp6 (q1 := q1) (q2 := q2) (q3 := q3) (q4 := q4) (q5 := q5) (q6 := q6) (q7 := q7) (q8 := q8) (q0 := q0) (z6 := z6) (N6 := N6) (a6 := a6) (N5 := N5) (a5 := a5) (n2 := n2) (b2 := b2) (z34 := z34) (N34 := N34) (z35 := z35) (N35 := N35) (tx := tx) (z := z) (u := c) (by omega) (IH (c + 1) e S (by omega) (by omega) xs)) (fun i u v => by have := u.2; have := v.1; omega) (e - a) (by show 1 + _ ≤ _; omega) (by omega), by omega, by omega, fun i u => ?_, fun i _ => rfl, fun G p hp hz => at_more hp hz, fun mk' ex' hQ hu h0 d => ?_⟩
  · rcases u with u | u
    · exact ⟨by have := u.1; omega, by have := u.2; omega, rfl⟩
    · exact ⟨by have := u.1; omega, by have := u.2; omega, rfl⟩
  have zz : ∀ i, a ≤ i → i < e + 1 → i < a + 4 ∨ i = c → mk' i = 0 ∧ ex' i = 0 := fun i i1 i2 i3 => by
    have := hu i i1 i2 (fun u => u.elim (fun u => by have := u.1; have := u.2; omega) (fun u => by have := u.1; have := u.2; omega))
    exact ⟨by rw [this.1]; exact h0 i i1 i2, this.2⟩
  obtain ⟨n, hn⟩ := hQ.2 (d + 1)
  have z1 := zz (a + 1) (by omega) (by omega) (by omega)
  have z2 := zz (a + 2) (by omega) (by omega) (by omega)
  have z3 := zz (a + 3) (by omega) (by omega) (by omega)
  have z4 := zz c (by omega) (by omega) (by omega)
  have hs : Say T tx (a + 1) mk' ex' (a + 1) (c + 1) = [40] ++ (tx (a + 2) ++ ([32, 61, 32] ++ (wX T tx 1 l ++ [41]))) := by
    rw [Say.cons (a := a + 1) (by omega), Say.cons (a := a + 1 + 1) (by omega), Say.cons (a := a + 1 + 1 + 1) (by omega), Say.snoc (by omega), say50 hTx z1.1 z1.2 h50, say2 z2.1 z2.2 (Or.inl h2), say56 hTx z3.1 z3.2 h56, say51 hTx z4.1 z4.2 h51, hQ.1 (a + 1) (by omega) (fun _ => by rw [show a + 4 - 1 = a + 3 from rfl, h56]; unfold eO; omega)]
  have hLay : Lay T.tkd (a + 1 + 1) c := (Lay.one (K := T.tkd) (a := a + 2) (by omega) (by omega) (by omega) (by omega)).trans ((Lay.one (K := T.tkd) (a := a + 3) (by omega) (by omega) (by omega) (by omega)).trans xl.lay.1)
  have hh := wp_head (d := d) hW (Or.inr (Or.inr h15)) (Lay.cl (Or.inl h50) hLay (Or.inl h51) (by omega)) (by omega) hs
  rw [h15] at hh
  refine ⟨1 + (n + 1), ?_⟩
  have e1 : wS T tx d (Tr.nd (T.lb 13 a) (Tr.app (Tr.nd (T.lb 32 (a + 2)) .leaf) (Tr.app l (Tr.nd (T.blk c) S)))) = headW d 15 ([40] ++ tx (Int32.toNatClampNeg (nI (a + 2))) ++ [32, 61, 32] ++ (wF T tx (Tr.app l (Tr.nd (T.blk c) S)) (fun _ => 1)).getD 0 [] ++ [41]) ++ ((wL T tx (Tr.app l (Tr.nd (T.blk c) S)) (d + 1)).getD 1 [] ++ wordW d 13) := by
    rw [wS_nd (show (13 : Int32) ≠ 3 by decide)]; rfl
  obtain ⟨w, hw⟩ := wL_one (T := T) (tx := tx) (d := d + 1) xl.rt1
  rw [e1, wF_app, wF_one xl.rt1, wL_app, hw, wL_blk, nI_clamp' (by omega)]
  have := hh.app (hn.app (wp_end hW h13))
  refine Eq.mp (congrArg (fun x => WrP T tx mk' ex' (1 + (n + 1)) a d (e + 1) d (headW d 15 x ++ (wS T tx (d + 1) S ++ wordW d 13))) ?_) this
  show _ = [40] ++ tx (a + 2) ++ [32, 61, 32] ++ wX T tx 1 l ++ [41]
  simp only [List.append_assoc]
/-- try -/
theorem SR_try (hT : TkOK T m) (hp6 : PlIs m N6 a6 T) (hW : TxW T tx) {z a c e : Nat} {S1 S2 : Tr Lb} {mk : Nat → Nat} (hb : e < m) (h22 : T.tkd a = 22) (x1 : SV T 1 (a + 1) c S1) (h23 : T.tkd c = 23) (x2 : SV T 1 (c + 1) e S2) (h13 : T.tkd e = 13) (IH : BlkR T tx m q1 q2 q3 q4 q5 q6 q7 q8 q0 z6 N6 a6 N5 a5 n2 b2 z34 N34 z35 N35 a (e + 1)) : StRun T tx m q1 q2 q3 q4 q5 q6 q7 q8 q0 z6 N6 a6 N5 a5 n2 b2 z34 N34 z35 N35 z a (e + 1) (Tr.nd (T.lb 14 a) (Tr.app (Tr.nd (T.blk a) S1) (Tr.nd (T.blk c) S2))) (Tr.nd (T.lb 14 a) .leaf) [(2, z, a + 1, c, a), (2, z, c + 1, e, c)] mk mk := by
  have hle := hT.le
  have hce := (x2.sq (by omega)).1
  have hac := (x1.sq (by omega)).1
  refine ⟨z, _, _, _, _, _, (Run_b hT hp6 (q1 := q1) (q2 := q2) (q3 := q3) (q4 := q4) (q5 := q5) (q6 := q6) (q7 := q7) (q8 := q8) (q0 := q0) (z6 := z6) (N6 := N6) (a6 := a6) (N5 := N5) (a5 := a5) (n2 := n2) (b2 := b2) (z34 := z34) (N34 := N34) (z35 := z35) (N35 := N35) (tx := tx) (z := z) (u := a) (by omega) (IH (a + 1) c S1 (by omega) (by omega) x1)).app (Run_b hT hp6 (q1 := q1) (q2 := q2) (q3 := q3) (q4 := q4) (q5 := q5) (q6 := q6) (q7 := q7) (q8 := q8) (q0 := q0) (z6 := z6) (N6 := N6) (a6 := a6) (N5 := N5) (a5 := a5) (n2 := n2) (b2 := b2) (z34 := z34) (N34 := N34) (z35 := z35) (N35 := N35) (tx := tx) (z := z) (u := c) (by omega) (IH (c + 1) e S2 (by omega) (by omega) x2)) (fun i u v => by have := u.2; have := v.1; omega) (e - a) (by show 1 + _ ≤ _; omega) (by omega), by omega, by omega, fun i u => ?_, fun i _ => rfl, fun G p hp hz => at_one hp hz, fun mk' ex' hQ hu h0 d => ?_⟩
  · rcases u with u | u
    · exact ⟨by have := u.1; omega, by have := u.2; omega, rfl⟩
    · exact ⟨by have := u.1; omega, by have := u.2; omega, rfl⟩
  obtain ⟨n, hn⟩ := hQ.1 (d + 1)
  obtain ⟨k, hk'⟩ := hQ.2 (d + 1)
  refine ⟨1 + (n + (1 + (k + 1))), ?_⟩
  have e1 : wS T tx d (Tr.nd (T.lb 14 a) (Tr.app (Tr.nd (T.blk a) S1) (Tr.nd (T.blk c) S2))) = wordW d 22 ++ ((wL T tx (Tr.app (Tr.nd (T.blk a) S1) (Tr.nd (T.blk c) S2)) (d + 1)).getD 0 [] ++ (wordW d 23 ++ ((wL T tx (Tr.app (Tr.nd (T.blk a) S1) (Tr.nd (T.blk c) S2)) (d + 1)).getD 1 [] ++ wordW d 13))) := by
    rw [wS_nd (show (14 : Int32) ≠ 3 by decide)]; rfl
  rw [e1, wL_app, wL_blk, wL_blk]
  exact (wp_try hW h22).app (hn.app ((wp_mid hW h23 (Or.inr rfl)).app (hk'.app (wp_end hW h13))))
end Md
end

section
/-- branches of an if -/
def ifW (T : Tks) (tx : Nat → List Int32) (d : Nat) : Nat → List Brn → List Int32
  | _, [] => []
  | kw, x :: L => headW d kw ([40] ++ wX T tx 1 x.2.2.2.1 ++ [41]) ++ (wS T tx (d + 1) x.2.2.2.2 ++ ifW T tx d 11 L)
theorem elW_if {T : Tks} {tx : Nat → List Int32} {d : Nat} {ps bs : List (List Int32)} {r : List Int32} (hr : ∀ k, elW d k ps bs = r) : ∀ (L : List Brn) (kw : Nat), (∀ x ∈ L, Tr.rt x.2.2.2.1 = 1) → elW d kw (wF T tx (ifF T L) (fun _ => 1) ++ ps) (wL T tx (ifF T L) (d + 1) ++ bs) = ifW T tx d kw L ++ r
  | [], kw, _ => hr kw
  | x :: L, kw, h => by
    have h1 := h x List.mem_cons_self
    obtain ⟨w, hw⟩ := wL_one (T := T) (tx := tx) (d := d + 1) h1
    have ih := elW_if (T := T) (tx := tx) hr L 11 (fun y hy => h y (List.mem_cons_of_mem _ hy))
    rw [ifF, wF_app, wF_app, wF_one h1, wL_app, wL_app, hw, wL_blk]
    show headW d kw ([40] ++ wX T tx 1 x.2.2.2.1 ++ [41]) ++ (wS T tx (d + 1) x.2.2.2.2 ++ elW d 11 (wF T tx (ifF T L) (fun _ => 1) ++ ps) (wL T tx (ifF T L) (d + 1) ++ bs)) = _
    rw [ih, ifW]
    simp only [List.append_assoc]
/-- what the lines of branches say: they end a step further in -/
def QB (T : Tks) (tx : Nat → List Int32) (kw a b : Nat) (w : Nat → List Int32) (mk ex : Nat → Nat) : Prop := ∀ d, ∃ n, WrP T tx mk ex n a (if kw = 10 then d else d + 1) b (d + 1) (w d)
theorem QB.ins {T : Tks} {tx : Nat → List Int32} {kw a b : Nat} {w : Nat → List Int32} : Ins (IvT a b) (QB T tx kw a b w) := fun mk ex mk' ex' h q d => by
  obtain ⟨n, q⟩ := q d
  exact ⟨n, q.cg (fun i a b => h i ⟨a, b⟩)⟩
section Md
variable {T : Tks} {m N5 N6 : Nat} {a5 a6 : Nat → Int32} {tx : Nat → List Int32}
variable {n2 : Nat} {b2 : Nat → Int32}
variable {q1 q2 q3 q4 q5 q6 q7 q8 q0 z6 z34 z35 : Int32} {N34 N35 : Nat}
theorem SR_ifs (hT : TkOK T m) (hk : KdIs m N5 a5 T.tkd) (hp6 : PlIs m N6 a6 T) (hTx : TxK T tx) (hW : TxW T tx) (hr : RkIs n2 b2) {z a0 b0 : Nat} (IH : BlkR T tx m q1 q2 q3 q4 q5 q6 q7 q8 q0 z6 N6 a6 N5 a5 n2 b2 z34 N34 z35 N35 a0 b0) : ∀ (L : List Brn) (kw a d : Nat), IfC T kw a L d → kw = 11 ∨ (kw = 10 ∧ L ≠ []) → a0 ≤ a → d < b0 → d < m → RunS m q1 q2 q3 q4 q5 q6 q7 q8 q0 z6 N6 a6 N5 a5 n2 b2 z34 N34 z35 N35 (ifT z L) z (IvT a d) (ifF T L) (QB T tx kw a d (fun d => ifW T tx d kw L)) (4 * (d - a)) (d - a)
  | [], kw, a, d, h, hkw, _, _, _ => by
    have h : a = d := h
    have hkw : kw = 11 := by
      rcases hkw with h | ⟨_, h⟩
      · exact h
      · exact absurd rfl h
    subst h hkw
    refine RunS.nil.ext (fun i u => u.elim) QB.ins (fun mk ex _ _ d => ⟨0, rfl, rfl, rfl⟩) (Nat.zero_le _) (Nat.zero_le _)
  | x :: L, kw, a, d, h, hkw, ha, hd, hm => by
    have hle := hT.le
    obtain ⟨k1, k2⟩ := IfC.le h (by omega)
    obtain ⟨k3, k4, k5, k6⟩ := k2 x List.mem_cons_self
    obtain ⟨h1, h2, h3, ⟨r, h4⟩, h5, h6, h7⟩ := h
    have k7 := (IfC.le h7 (by omega)).1
    have hrec := SR_ifs hT hk hp6 hTx hW hr (z := z) IH L 11 x.2.2.1 d h7 (Or.inl rfl) (by omega) hd hm
    have hlt := h4.lt
    have hce := (h6.sq (by omega)).1
    have hone := (Run_e hT hk hp6 hTx hr (q1 := q1) (q2 := q2) (q3 := q3) (q4 := q4) (q5 := q5) (q6 := q6) (q7 := q7) (q8 := q8) (q0 := q0) (z6 := z6) (N6 := N6) (a6 := a6) (N5 := N5) (a5 := a5) (n2 := n2) (b2 := b2) (z34 := z34) (N34 := N34) (z35 := z35) (N35 := N35) h4 (by omega) z).app (Run_b hT hp6 (q1 := q1) (q2 := q2) (q3 := q3) (q4 := q4) (q5 := q5) (q6 := q6) (q7 := q7) (q8 := q8) (q0 := q0) (z6 := z6) (N6 := N6) (a6 := a6) (N5 := N5) (a5 := a5) (n2 := n2) (b2 := b2) (z34 := z34) (N34 := N34) (z35 := z35) (N35 := N35) (tx := tx) (z := z) (u := x.2.1) (by omega) (IH (x.2.1 + 1) x.2.2.1 x.2.2.2.2 (by omega) (by omega) h6)) (fun i u v => by have := u.2; have := v.1; omega) (x.2.2.1 - a - 2) (by show 1 + _ ≤ _; omega) (by omega)
    have hone' := hone.ext (U' := IvT a x.2.2.1) (Q' := QB T tx kw a x.2.2.1 (fun d => headW d kw ([40] ++ wX T tx 1 x.2.2.2.1 ++ [41]) ++ wS T tx (d + 1) x.2.2.2.2)) (tb' := 4 * (x.2.2.1 - a)) (lb' := x.2.2.1 - a - 2) (fun i u => by
        rcases u with u | u
        · exact ⟨by have := u.1; omega, by have := u.2; omega⟩
        · exact ⟨by have := u.1; omega, by have := u.2; omega⟩) QB.ins (fun mk ex hQ hz d => by
        have zz : ∀ i, a ≤ i → i < x.2.2.1 → i < a + 2 ∨ i = x.2.1 → mk i = 0 ∧ ex i = 0 := fun i i1 i2 i3 => hz i ⟨i1, i2⟩ (fun u => u.elim (fun u => by have := u.1; have := u.2; omega) (fun u => by have := u.1; have := u.2; omega))
        obtain ⟨n, hn⟩ := hQ.2 (d + 1)
        have hs := say_par hTx h3 h5 (by omega) (zz (a + 1) (by omega) (by omega) (by omega)) (zz x.2.1 (by omega) (by omega) (by omega)) hQ.1
        have hcl := Lay.cl (Or.inl h3) h4.lay.1 (Or.inl h5) (by omega)
        refine ⟨1 + n, ?_⟩
        rcases hkw with e | ⟨e, _⟩
        · subst e
          rw [if_neg (by decide)]
          exact (wp_elif hW h2 hcl (by omega) hs).app hn
        · subst e
          rw [if_pos rfl]
          have := wp_head (d := d) hW (Or.inl h2) hcl (by omega) hs
          rw [h2] at this
          exact this.app hn) (by omega) (by omega)
    have hall := hone'.app hrec (fun i u v => by have := u.2; have := v.1; omega) (d - a) (by rw [ifT_len]; omega) (by omega)
    rw [show ifF T (x :: L) = Tr.app (Tr.app x.2.2.2.1 (Tr.nd (T.blk x.2.1) x.2.2.2.2)) (ifF T L) by rw [ifF, Tr.app_assoc]]
    rw [show ifT z (x :: L) = ([(1, z, a + 2, x.2.1, 1)] ++ [(2, z, x.2.1 + 1, x.2.2.1, x.2.1)]) ++ ifT z L by rw [ifT, h1]; rfl]
    refine hall.ext (fun i u => ?_) QB.ins (fun mk ex hQ hz d' => ?_) (by omega) (Nat.le_refl _)
    · rcases u with u | u
      · exact ⟨u.1, by have := u.2; omega⟩
      · exact ⟨by have := u.1; omega, u.2⟩
    · obtain ⟨n, hn⟩ := hQ.1 d'
      obtain ⟨k, hk'⟩ := hQ.2 d'
      rw [if_neg (by decide)] at hk'
      refine ⟨n + k, ?_⟩
      show WrP T tx mk ex (n + k) a _ d _ (headW _ kw ([40] ++ wX T tx 1 x.2.2.2.1 ++ [41]) ++ (wS T tx _ x.2.2.2.2 ++ ifW T tx _ 11 L))
      rw [← List.append_assoc]
      exact hn.app hk'
/-- if -/
theorem SR_if (hT : TkOK T m) (hk : KdIs m N5 a5 T.tkd) (hp6 : PlIs m N6 a6 T) (hTx : TxK T tx) (hW : TxW T tx) (hr : RkIs n2 b2) {z a b d : Nat} {L : List Brn} {el : Option (Nat × Nat)} {l2 : Tr Lb} {mk : Nat → Nat} (hb : b ≤ m) (hL : IfC T 10 a L d) (hne : L ≠ []) (hel : (el = none ∧ T.tkd d = 13 ∧ b = d + 1 ∧ l2 = .leaf) ∨ ∃ e S, el = some (d, e) ∧ T.tkd d = 12 ∧ SV T 1 (d + 1) e S ∧ T.tkd e = 13 ∧ b = e + 1 ∧ l2 = Tr.nd (T.blk d) S) (IH : BlkR T tx m q1 q2 q3 q4 q5 q6 q7 q8 q0 z6 N6 a6 N5 a5 n2 b2 z34 N34 z35 N35 a b) : StRun T tx m q1 q2 q3 q4 q5 q6 q7 q8 q0 z6 N6 a6 N5 a5 n2 b2 z34 N34 z35 N35 z a b (Tr.nd (T.lb 11 a) (Tr.app (ifF T L) l2)) (Tr.nd (T.lb 11 a) .leaf) (ifT z L ++ elT z el) mk mk := by
  have hle := hT.le
  have hrt : ∀ x ∈ L, Tr.rt x.2.2.2.1 = 1 := by
    have : ∀ (L : List Brn) (kw a d : Nat), IfC T kw a L d → ∀ x ∈ L, Tr.rt x.2.2.2.1 = 1 := by
      intro L
      induction L with
      | nil => intro _ _ _ _ x hx; cases hx
      | cons y L ih =>
        intro kw a d h x hx
        obtain ⟨h1, h2, h3, ⟨r, h4⟩, h5, h6, h7⟩ := h
        rcases List.mem_cons.mp hx with e | e
        · subst e; exact h4.rt1
        · exact ih _ _ _ h7 x e
    exact this L 10 a d hL
  rcases hel with ⟨h1, h2, h3, h4⟩ | ⟨e, S, h1, h2, h3, h4, h5, h6⟩
  · subst h1 h3 h4
    obtain ⟨k1, _⟩ := IfC.le hL (by omega)
    have hrun := SR_ifs hT hk hp6 hTx hW hr (q1 := q1) (q2 := q2) (q3 := q3) (q4 := q4) (q5 := q5) (q6 := q6) (q7 := q7) (q8 := q8) (q0 := q0) (z6 := z6) (N6 := N6) (a6 := a6) (N5 := N5) (a5 := a5) (n2 := n2) (b2 := b2) (z34 := z34) (N34 := N34) (z35 := z35) (N35 := N35) (z := z) IH L 10 a d hL (Or.inr ⟨rfl, hne⟩) (Nat.le_refl _) (by omega) (by omega)
    rw [Tr.app_nil, show ifT z L ++ elT z none = ifT z L from List.append_nil _]
    refine ⟨z, _, _, _, _, _, hrun, by omega, by omega, fun i u => ⟨u.1, by have := u.2; omega, rfl⟩, fun i _ => rfl, fun G p hp hz => at_one hp hz, fun mk' ex' hQ hu h0 d' => ?_⟩
    obtain ⟨n, hn⟩ := hQ d'
    rw [if_pos rfl] at hn
    refine ⟨n + 1, ?_⟩
    have e1 : wS T tx d' (Tr.nd (T.lb 11 a) (ifF T L)) = elW d' 10 (wF T tx (ifF T L) (fun _ => 1)) (wL T tx (ifF T L) (d' + 1)) ++ wordW d' 13 := by
      rw [wS_nd (show (11 : Int32) ≠ 3 by decide)]; rfl
    have e2 := elW_if (T := T) (tx := tx) (d := d') (ps := []) (bs := []) (r := []) (fun _ => rfl) L 10 hrt
    rw [List.append_nil, List.append_nil, List.append_nil] at e2
    rw [e1, e2]
    exact hn.app (wp_end hW h2)
  · subst h1 h5 h6
    obtain ⟨k1, _⟩ := IfC.le hL (by have := (h3.sq (by omega)).1; omega)
    have hde := (h3.sq (by omega)).1
    have hrun := SR_ifs hT hk hp6 hTx hW hr (q1 := q1) (q2 := q2) (q3 := q3) (q4 := q4) (q5 := q5) (q6 := q6) (q7 := q7) (q8 := q8) (q0 := q0) (z6 := z6) (N6 := N6) (a6 := a6) (N5 := N5) (a5 := a5) (n2 := n2) (b2 := b2) (z34 := z34) (N34 := N34) (z35 := z35) (N35 := N35) (z := z) IH L 10 a d hL (Or.inr ⟨rfl, hne⟩) (Nat.le_refl _) (by omega) (by omega)
    have hblk := Run_b hT hp6 (q1 := q1) (q2 := q2) (q3 := q3) (q4 := q4) (q5 := q5) (q6 := q6) (q7 := q7) (q8 := q8) (q0 := q0) (z6 := z6) (N6 := N6) (a6 := a6) (N5 := N5) (a5 := a5) (n2 := n2) (b2 := b2) (z34 := z34) (N34 := N34) (z35 := z35) (N35 := N35) (tx := tx) (z := z) (u := d) (by omega) (IH (d + 1) e S (by have : 0 < L.length := List.length_pos_iff.mpr hne; omega) (by omega) h3)
    have hL0 : 0 < L.length := List.length_pos_iff.mpr hne
    refine ⟨z, _, _, _, _, _, hrun.app hblk (fun i u v => by have := u.2; have := v.1; omega) (e - a) (by show 1 + _ ≤ _; omega) (by omega), by omega, by omega, fun i u => ?_, fun i _ => rfl, fun G p hp hz => at_one hp hz, fun mk' ex' hQ hu h0 d' => ?_⟩
    · rcases u with u | u
      · exact ⟨u.1, by have := u.2; omega, rfl⟩
      · exact ⟨by have := u.1; omega, by have := u.2; omega, rfl⟩
    obtain ⟨n, hn⟩ := hQ.1 d'
    obtain ⟨k, hk'⟩ := hQ.2 (d' + 1)
    rw [if_pos rfl] at hn
    refine ⟨n + (1 + (k + 1)), ?_⟩
    have e1 : wS T tx d' (Tr.nd (T.lb 11 a) (Tr.app (ifF T L) (Tr.nd (T.blk d) S))) = elW d' 10 (wF T tx (Tr.app (ifF T L) (Tr.nd (T.blk d) S)) (fun _ => 1)) (wL T tx (Tr.app (ifF T L) (Tr.nd (T.blk d) S)) (d' + 1)) ++ wordW d' 13 := by
      rw [wS_nd (show (11 : Int32) ≠ 3 by decide)]; rfl
    obtain ⟨g, hg⟩ : ∃ g, wF T tx (Tr.nd (T.blk d) S) (fun _ => 1) = [g] := ⟨_, wF_one rfl⟩
    have e2 := elW_if (T := T) (tx := tx) (d := d') (ps := [g]) (bs := [wS T tx (d' + 1) S]) (r := wordW d' 12 ++ wS T tx (d' + 1) S) (fun _ => rfl) L 10 hrt
    rw [e1, wF_app, wL_app, wL_blk, hg, e2, List.append_assoc, List.append_assoc]
    exact hn.app ((wp_mid hW h2 (Or.inl rfl)).app (hk'.app (wp_end hW h4)))
end Md
end

section
section Md
variable {T : Tks} {m N5 N6 : Nat} {a5 a6 : Nat → Int32} {tx : Nat → List Int32}
variable {n2 : Nat} {b2 : Nat → Int32}
variable {q1 q2 q3 q4 q5 q6 q7 q8 q0 z6 z34 z35 : Int32} {N34 N35 : Nat}
/-- a function's head -/
theorem say_fun (hTx : TxK T tx) {a nm' c : Nat} {R Q : Tr Lb} {mk mk' ex' : Nat → Nat} (hF : FHd T a nm' c R Q) (hc : c < 2 ^ 17) (h0 : ∀ i, a ≤ i → i < c + 1 → mk i = 0) (hu : ∀ i, a ≤ i → i < c + 1 → mk' i = fnM T a nm' mk i ∧ ex' i = 0) : Say T tx (a + 1) mk' ex' (a + 1) (c + 1) = resW (wF T tx R (fun _ => 1)) ++ (tx nm' ++ ([40] ++ (wSep [44, 32] (wF T tx Q (fun _ => 1)) ++ [41]))) := by
  obtain ⟨q1', q2'⟩ := hF.le
  obtain ⟨f1, f2, f3, f4, n, f5, f6, f7⟩ := hF
  have zq : ∀ i, a ≤ i → i < c + 1 → (T.tkd (a + 1) = 52 ∧ nm' = a + 5 → i ≠ a + 1 ∧ i ≠ a + 3) → mk' i = 0 ∧ ex' i = 0 := fun i i1 i2 i3 => by
    have := hu i i1 i2
    refine ⟨?_, this.2⟩
    rw [this.1]
    unfold fnM
    by_cases e : T.tkd (a + 1) = 52 ∧ nm' = a + 5
    · rw [if_pos e]
      have := i3 e
      show (if i = a + 1 ∨ i = a + 3 then 1 else mk i) = 0
      rw [if_neg (by omega)]
      exact h0 i i1 i2
    · rw [if_neg e]
      exact h0 i i1 i2
  have zn : ∀ i, nm' ≤ i → i < c + 1 → mk' i = 0 ∧ ex' i = 0 := fun i i1 i2 => zq i (by omega) i2 (fun e => by omega)
  have hA : Say T tx (a + 1) mk' ex' (a + 1) nm' = resW (wF T tx R (fun _ => 1)) := by
    rcases f2 with ⟨k1, n1, k2, k3, k4, k5, k6⟩ | ⟨k1, k2, k3, k4⟩ | ⟨k1, k2⟩
    · have hlen : (wF T tx R (fun _ => 1)).length = n1 := by rw [wF_len, k3.rt]
      have z1 := hu (a + 1) (by omega) (by omega)
      have z2 := hu (a + 2 * n1 + 1) (by omega) (by omega)
      have z3 := zq (a + 2 * n1 + 2) (by omega) (by omega) (fun e => by omega)
      have hnm := (k3.say hTx (p := a + 1) (mk := mk') (ex := ex') (by omega) k2 (by omega) (fun i i1 i2 => zq i (by omega) (by omega) (fun e => by omega))).1
      rw [show a + 2 + 2 * n1 - 1 = a + 2 * n1 + 1 by omega] at hnm
      subst k6
      rw [Say.cons (a := a + 1) (by omega), Say.cut (a := a + 1 + 1) (c := a + 2 * n1 + 1) (by omega) (by omega), Say.cons (a := a + 2 * n1 + 1) (by omega), Say.cons (a := a + 2 * n1 + 1 + 1) (by omega), Say.nil, hnm, say56 hTx z3.1 z3.2 k5]
      unfold resW
      rw [hlen, if_neg (by omega)]
      by_cases e : n1 = 1
      · subst e
        have hf : ∀ i, i = a + 1 ∨ i = a + 3 → fnM T a (a + 2 * 1 + 3) mk i = 1 := fun i hi => by
          unfold fnM
          rw [if_pos ⟨k1, by omega⟩]
          exact if_pos hi
        rw [if_pos rfl, sayT_out (by rw [z1.1]; exact hf _ (by omega)), sayT_out (by rw [z2.1]; exact hf _ (by omega)), z1.2, z2.2]
        rfl
      · have y1 := zq (a + 1) (by omega) (by omega) (fun e => by omega)
        have y2 := zq (a + 2 * n1 + 1) (by omega) (by omega) (fun e => by omega)
        rw [if_neg e, say52 hTx y1.1 y1.2 k1, say53 hTx y2.1 y2.2 k4]
        simp only [List.append_assoc, List.cons_append, List.nil_append]
    · have z1 := zq (a + 1) (by omega) (by omega) (fun e => by omega)
      have z2 := zq (a + 2) (by omega) (by omega) (fun e => by omega)
      subst k3 k4
      rw [Say.cons (a := a + 1) (by omega), Say.cons (a := a + 1 + 1) (by omega), Say.nil, say2 z1.1 z1.2 (Or.inl k1), say56 hTx z2.1 z2.2 k2, show wF T tx (Tr.nd (T.lb 32 (a + 1)) .leaf) (fun _ => 1) = [tx (a + 1)] from wF_nm (Or.inl rfl) (by omega)]
      unfold resW
      rw [show [tx (a + 1)].length = 1 from rfl, if_neg (show ¬ (1 : Nat) = 0 by decide), if_pos rfl]
      show tx (a + 1) ++ ([32, 61, 32] ++ []) = tx (a + 1) ++ [] ++ [32, 61, 32]
      simp only [List.append_nil]
    · subst k1 k2
      rw [Say.nil]
      rfl
  have hB : Say T tx (a + 1) mk' ex' (nm' + 2) c = wSep [44, 32] (wF T tx Q (fun _ => 1)) := by
    by_cases e : n = 0
    · subst e
      have f5 : Q = .leaf := f5
      rw [if_pos rfl] at f6
      subst f5 f6
      rw [Say.nil]
      rfl
    · rw [if_neg e] at f6
      have hnm := (f5.say hTx (p := a + 1) (mk := mk') (ex := ex') (by omega) (by omega) (by omega) (fun i i1 i2 => zn i (by omega) (by omega))).1
      rw [show nm' + 2 + 2 * n - 1 = c by omega] at hnm
      exact hnm
  have y1 := zn nm' (by omega) (by omega)
  have y2 := zn (nm' + 1) (by omega) (by omega)
  have y3 := zn c (by omega) (by omega)
  rw [Say.cut (a := a + 1) (c := nm') (by omega) (by omega), Say.cons (a := nm') (by omega), Say.cons (a := nm' + 1) (by omega), Say.snoc (by omega), hA, hB, say2 y1.1 y1.2 (Or.inl f3), say50 hTx y2.1 y2.2 f4, say51 hTx y3.1 y3.2 f7]
/-- a function -/
theorem SR_fun (hT : TkOK T m) (hp6 : PlIs m N6 a6 T) (hTx : TxK T tx) (hW : TxW T tx) {z a nm' c e : Nat} {R Q S : Tr Lb} {mk : Nat → Nat} (hb : e < m) (hF : FHd T a nm' c R Q) (xs : SV T 1 (c + 1) e S) (h13 : T.tkd e = 13) (IH : BlkR T tx m q1 q2 q3 q4 q5 q6 q7 q8 q0 z6 N6 a6 N5 a5 n2 b2 z34 N34 z35 N35 a (e + 1)) : StRun T tx m q1 q2 q3 q4 q5 q6 q7 q8 q0 z6 N6 a6 N5 a5 n2 b2 z34 N34 z35 N35 z a (e + 1) (Tr.nd (1, T.tpl a, -1, T.twd nm', nI nm') (Tr.app (Tr.nd (T.nms nm') R) (Tr.app (Tr.nd (T.nms (nm' + 1)) Q) (Tr.nd (T.blk c) S)))) (Tr.nd (1, T.tpl a, -1, T.twd nm', nI nm') (Tr.app (Tr.nd (T.nms nm') R) (Tr.nd (T.nms (nm' + 1)) Q))) [(2, z, c + 1, e, c)] mk (fnM T a nm' mk) := by
  have hle := hT.le
  have hce := (xs.sq (by omega)).1
  obtain ⟨q1', q2'⟩ := hF.le
  have hfn : ∀ i, i ≤ a ∨ c < i → fnM T a nm' mk i = mk i := fun i hi => by
    unfold fnM
    by_cases e : T.tkd (a + 1) = 52 ∧ nm' = a + 5
    · rw [if_pos e]
      exact if_neg (by omega)
    · rw [if_neg e]
  refine ⟨z, _, _, _, _, _, Run_b hT hp6 (q1 := q1) (q2 := q2) (q3 := q3) (q4 := q4) (q5 := q5) (q6 := q6) (q7 := q7) (q8 := q8) (q0 := q0) (z6 := z6) (N6 := N6) (a6 := a6) (N5 := N5) (a5 := a5) (n2 := n2) (b2 := b2) (z34 := z34) (N34 := N34) (z35 := z35) (N35 := N35) (tx := tx) (z := z) (u := c) (by omega) (IH (c + 1) e S (by omega) (by omega) xs), by omega, by omega, fun i u => ⟨by have := u.1; omega, by have := u.2; omega, hfn i (by have := u.1; omega)⟩, fun i hi => hfn i (by omega), fun G p hp hz => ?_, fun mk' ex' hQ hu h0 d => ?_⟩
  · have := at_more (lab := (1, T.tpl a, -1, T.twd nm', nI nm')) (L := Tr.app (Tr.nd (T.nms nm') R) (Tr.nd (T.nms (nm' + 1)) Q)) (F := Tr.nd (T.blk c) S) hp hz
    rw [Tr.app_assoc] at this
    exact this
  · have hs := say_fun hTx hF (by omega) (fun i i1 i2 => h0 i i1 (by omega)) (fun i i1 i2 => hu i i1 (by omega) (fun u => by have := u.1; omega))
    obtain ⟨n, hn⟩ := hQ (d + 1)
    have hh := wp_fun (d := d) hW hF (by omega) hs
    refine ⟨1 + (n + 1), ?_⟩
    have e1 : wS T tx d (Tr.nd (1, T.tpl a, -1, T.twd nm', nI nm') (Tr.app (Tr.nd (T.nms nm') R) (Tr.app (Tr.nd (T.nms (nm' + 1)) Q) (Tr.nd (T.blk c) S)))) = headW d 19 (resW (wF T tx R (fun _ => 1)) ++ tx (Int32.toNatClampNeg (nI nm')) ++ [40] ++ wSep [44, 32] (wF T tx Q (fun _ => 1)) ++ [41]) ++ ((wL T tx (Tr.nd (T.blk c) S) (d + 1)).getD 0 [] ++ wordW d 13) := by
      rw [wS_nd (show (1 : Int32) ≠ 3 by decide)]; rfl
    rw [e1, wL_blk, nI_clamp' (by omega)]
    refine Eq.mp (congrArg (fun x => WrP T tx mk' ex' (1 + (n + 1)) a d (e + 1) d (headW d 19 x ++ (wS T tx (d + 1) S ++ wordW d 13))) ?_) (hh.app (hn.app (wp_end hW h13)))
    simp only [List.append_assoc]
/-- every form -/
theorem SF.run (hT : TkOK T m) (hk : KdIs m N5 a5 T.tkd) (hp6 : PlIs m N6 a6 T) (hTx : TxK T tx) (hW : TxW T tx) (hr : RkIs n2 b2) {z a b : Nat} {t X : Tr Lb} {Ts : List Tsk} {mk mk1 : Nat → Nat} (x : SV T 0 a b t) (hb : b ≤ m) (f : SF T z a b t X Ts mk mk1) (IH : BlkR T tx m q1 q2 q3 q4 q5 q6 q7 q8 q0 z6 N6 a6 N5 a5 n2 b2 z34 N34 z35 N35 a b) : StRun T tx m q1 q2 q3 q4 q5 q6 q7 q8 q0 z6 N6 a6 N5 a5 n2 b2 z34 N34 z35 N35 z a b t X Ts mk mk1 := by
  have hle := hT.le
  rcases f with ⟨h1, h2, h3, h4, h5, k, h6, h7⟩ | ⟨b', l, L, k, h1, h2, h3, h4, h5, h6, h7, h8, h9⟩ | ⟨b', r, l, h1, h2, h3, h4, h5, h6, h7, h8⟩ | ⟨g, b', r1, r2, t1, t2, h1, h2, h3, h4, h5, h6, h7, h8, h9, h10⟩ | ⟨n, l, c, L, h1, h2, h3, h4, h5, h6, h7, h8, h9, h10, h11, h12, h13, h14, h15⟩ | ⟨d, L, el, l2, h1, h2, h3, h4, h5, h6, h7, h8⟩ | ⟨c, r, l, e, S, h1, h2, h3, h4, h5, h6, h7, h8, h9, h10, h11⟩ | ⟨c, r, l, e, S, h1, h2, h3, h4, h5, h6, h7, h8, h9, h10, h11, h12, h13⟩ | ⟨c, e, S1, S2, h1, h2, h3, h4, h5, h6, h7, h8, h9, h10⟩ | ⟨nm', c, e, R, Q, S, h1, h2, h3, h4, h5, h6, h7, h8⟩
  · subst h3 h4 h5 h6
    exact SR_word x (by omega) h1 h7
  · subst h1 h4 h5 h6 h8 h9
    exact SR_list hT hk hp6 hTx hr x (by omega) h3 h7
  · subst h1 h5 h6 h7 h8
    exact SR_expr hT hk hp6 hTx hr x (by omega) h3 h4
  · subst h1 h7 h8 h9 h10
    exact SR_give hT hk hp6 hTx hr x (by omega) h3 h4 h5 h6
  · subst h10 h11 h12 h14 h15
    exact SR_many hT hk hp6 hTx hr x (by omega) h1 h2 h3 h4 h5 h6 h7 h8 h13
  · subst h5 h6 h7 h8
    exact SR_if hT hk hp6 hTx hW hr hb h2 h3 h4 IH
  · subst h7 h8 h9 h10 h11
    exact SR_while hT hk hp6 hTx hW hr (by omega) h1 h2 h3 h4 h5 h6 IH
  · subst h9 h10 h11 h12 h13
    exact SR_for hT hk hp6 hTx hW hr (by omega) h1 h2 h3 h4 h5 h6 h7 h8 IH
  · subst h6 h7 h8 h9 h10
    exact SR_try hT hp6 hW (by omega) h1 h2 h3 h4 h5 IH
  · subst h4 h5 h6 h7 h8
    exact SR_fun hT hp6 hTx hW (by omega) h1 h2 h3 IH
/-- **statements: their task puts their trees below its node and makes their tokens say their text** -/
theorem Run_st (hT : TkOK T m) (hk : KdIs m N5 a5 T.tkd) (hp6 : PlIs m N6 a6 T) (hTx : TxK T tx) (hW : TxW T tx) (hr : RkIs n2 b2) : ∀ (n a b : Nat) (F : Tr Lb), b - a ≤ n → b ≤ m → SV T 1 a b F → ∀ p u, RunS m q1 q2 q3 q4 q5 q6 q7 q8 q0 z6 N6 a6 N5 a5 n2 b2 z34 N34 z35 N35 [(0, p, a, b, u)] p (IvT a b) F (QS T tx a b F) (4 * (b - a) + 1) (b - a) := by
  intro n
  have hle := hT.le
  induction n with
  | zero =>
    intro a b F hn hb x p u
    rcases x.cons with ⟨h1, h2⟩ | ⟨m1, t1, t2, h1, h2, h3⟩
    · subst h1 h2
      refine ⟨QS.ins, fun S G mu xu s hB hz hsz hS h0 => ?_⟩
      obtain ⟨s1, c1, l1, w1, w2, w3⟩ := turn_e (q1 := q1) (q2 := q2) (q3 := q3) (q4 := q4) (q5 := q5) (q6 := q6) (q7 := q7) (q8 := q8) (q0 := q0) (z6 := z6) (N6 := N6) (a6 := a6) (N5 := N5) (a5 := a5) (n2 := n2) (b2 := b2) (z34 := z34) (N34 := N34) (z35 := z35) (N35 := N35) (S := S) hB (by omega)
      refine ⟨1, s1, mu, xu, c1, l1, by omega, by rw [Tr.appAt_nil]; exact w1, w2, fun i _ => ⟨rfl, rfl⟩, fun d => ⟨0, rfl, rfl, rfl⟩, fun fu R c' sl' hh => ?_⟩
      rw [show [((0, p, b, b, u) : Tsk)].length + S.length = S.length + 1 from Nat.add_comm 1 _]
      exact w3 fu R c' sl' hh
    · have := ((h1.sq (by have := (h2.sq (by omega)).1; omega)).2.2.1 rfl).1
      have := (h2.sq (by omega)).1
      omega
  | succ n ih =>
    intro a b F hn hb x p u
    rcases x.cons with ⟨h1, h2⟩ | ⟨m1, t1, t2, h1, h2, h3⟩
    · subst h1 h2
      refine ⟨QS.ins, fun S G mu xu s hB hz hsz hS h0 => ?_⟩
      obtain ⟨s1, c1, l1, w1, w2, w3⟩ := turn_e (q1 := q1) (q2 := q2) (q3 := q3) (q4 := q4) (q5 := q5) (q6 := q6) (q7 := q7) (q8 := q8) (q0 := q0) (z6 := z6) (N6 := N6) (a6 := a6) (N5 := N5) (a5 := a5) (n2 := n2) (b2 := b2) (z34 := z34) (N34 := N34) (z35 := z35) (N35 := N35) (S := S) hB (by omega)
      refine ⟨1, s1, mu, xu, c1, l1, by omega, by rw [Tr.appAt_nil]; exact w1, w2, fun i _ => ⟨rfl, rfl⟩, fun d => ⟨0, rfl, rfl, rfl⟩, fun fu R c' sl' hh => ?_⟩
      rw [show [((0, p, b, b, u) : Tsk)].length + S.length = S.length + 1 from Nat.add_comm 1 _]
      exact w3 fu R c' sl' hh
    · have hmb := (h2.sq (by omega)).1
      have ham := ((h1.sq (by omega)).2.2.1 rfl).1
      subst h3
      refine ⟨QS.ins, fun S G mu xu s hB hz hsz hS h0 => ?_⟩
      rw [Tr.sz_app] at hsz ⊢
      obtain ⟨X, Ts, s1, mk1, c1, l1, hSF, hB1, hG1, hgo⟩ := turn_s hT hk hp6 (q1 := q1) (q2 := q2) (q3 := q3) (q4 := q4) (q5 := q5) (q6 := q6) (q7 := q7) (q8 := q8) (q0 := q0) (z6 := z6) (N6 := N6) (a6 := a6) (N5 := N5) (a5 := a5) (n2 := n2) (b2 := b2) (z34 := z34) (N34 := N34) (z35 := z35) (N35 := N35) (S := S) hB hz (by omega) h1 hmb hb hS
      obtain ⟨z', U, F', Q, tb, lb, r1, r2, r3, r4, r5, r6, r7⟩ := SF.run hT hk hp6 hTx hW hr (q1 := q1) (q2 := q2) (q3 := q3) (q4 := q4) (q5 := q5) (q6 := q6) (q7 := q7) (q8 := q8) (q0 := q0) (z6 := z6) (N6 := N6) (a6 := a6) (N5 := N5) (a5 := a5) (n2 := n2) (b2 := b2) (z34 := z34) (N34 := N34) (z35 := z35) (N35 := N35) h1 (by omega) hSF (fun a' b' F i1 i2 y p => ih a' b' F (by omega) (by omega) y p 0)
      obtain ⟨g1, g2, g3⟩ := r6 G p hz rfl
      have hsX : Tr.sz (Tr.appAt X G p) = Tr.sz G + Tr.sz X := Tr.sz_appAt G p hz
      obtain ⟨n2', s2, mk2, ex2, c2, l2, v1, v2, v3, v4, v5, v6⟩ := r1.2 ((0, p, m1, b, 0) :: S) (Tr.appAt X G p) mk1 xu s1 hB1 g1 (by omega) (by show S.length + 1 + lb ≤ 17000; omega) (fun i ui => by
        obtain ⟨u1, u2, u3⟩ := r4 i ui
        rw [u3]
        exact h0 i ⟨u1, by omega⟩)
      rw [g2] at v2
      have hz1 : Tr.OnP (Tr.appAt t1 G p) p := Tr.OnP_le G p p hz hz (Nat.le_refl _)
      have hs1 : Tr.sz (Tr.appAt t1 G p) = Tr.sz G + Tr.sz t1 := Tr.sz_appAt G p hz
      have hout : ∀ i, i < a ∨ m1 ≤ i → mk2 i = mu i ∧ ex2 i = xu i := fun i hi => by
        have := v4 i (fun ui => by obtain ⟨u1, u2, u3⟩ := r4 i ui; omega)
        exact ⟨this.1.trans (r5 i hi), this.2⟩
      obtain ⟨n3, s3, mk3, ex3, c3, l3, w1, w2, w3, w4, w5, w6⟩ := (ih m1 b t2 (by omega) hb h2 p 0).2 S (Tr.appAt t1 G p) mk2 ex2 s2 v2 hz1 (by omega) (by omega) (fun i ui => by
        have := hout i (Or.inr ui.1)
        rw [this.1, this.2]
        exact h0 i ⟨by have := ui.1; omega, ui.2⟩)
      rw [Tr.appAt_app G p hz] at w2
      refine ⟨n3 + n2' + 1, s3, mk3, ex3, c1 + (c2 + c3), l1 + (l2 + l3), by omega, w2, hG1.trans (v3.trans w3), fun i ui => ?_, fun d => ?_, fun fu R c' sl' hh => ?_⟩
      · have a1 := w4 i (fun x => ui ⟨by have := x.1; omega, x.2⟩)
        have a2 := hout i (by
          rcases Nat.lt_or_ge i a with h | h
          · exact Or.inl h
          · exact Or.inr (by
              rcases Nat.lt_or_ge i b with h' | h'
              · exact absurd ⟨h, h'⟩ ui
              · omega))
        exact ⟨a1.1.trans a2.1, a1.2.trans a2.2⟩
      · have hq := r7 mk2 ex2 v5 (fun i i1 i2 i3 => by
          have := v4 i i3
          exact ⟨this.1, by rw [this.2]; exact (h0 i ⟨i1, by omega⟩).2⟩) (fun i i1 i2 => (h0 i ⟨i1, by omega⟩).1)
        obtain ⟨k1, y1⟩ := (QS.ins _ _ mk3 ex3 (fun i ui => w4 i (fun x => by have := x.1; have := ui.2; omega)) hq) d
        obtain ⟨k2, y2⟩ := w5 d
        rw [wS_app]
        exact ⟨k1 + k2, y1.app y2⟩
      · have a1 := w6 fu R c' sl' (by rw [hs1, show Tr.sz G + Tr.sz t1 + Tr.sz t2 = Tr.sz G + (Tr.sz t1 + Tr.sz t2) by omega]; exact hh)
        rw [hs1, show [((0, p, m1, b, 0) : Tsk)].length + S.length = S.length + 1 from Nat.add_comm 1 _] at a1
        have a2 := v6 (fu + n3) R _ _ (by rw [hsX, show Tr.sz G + Tr.sz X + Tr.sz F' = Tr.sz G + Tr.sz t1 by omega]; exact a1)
        rw [hsX, List.length_cons, show Ts.length + (S.length + 1) = Ts.length + 1 + S.length by omega] at a2
        have a3 := hgo (fu + n3 + n2') R _ _ a2
        rw [show fu + (n3 + n2' + 1) = fu + n3 + n2' + 1 by omega, show c1 + (c2 + c3) + c' = c1 + (c2 + (c3 + c')) by omega, show l1 + (l2 + l3) + sl' = l1 + (l2 + (l3 + sl')) by omega, show [((0, p, a, b, u) : Tsk)].length + S.length = S.length + 1 from Nat.add_comm 1 _]
        exact a3
end Md
end
