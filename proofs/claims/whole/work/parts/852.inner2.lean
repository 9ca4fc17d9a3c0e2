section
section Md
variable {T : Tks} {m N5 N6 : Nat} {a5 a6 : Nat → Int32} {tx : Nat → List Int32}
variable {n2 : Nat} {b2 : Nat → Int32}
variable {q1 q2 q3 q4 q5 q6 q7 q8 q0 z6 z34 z35 : Int32} {N34 N35 : Nat}
/-- a list in brackets: its text stands between o and b - 1 -/
theorem In_list {z o b d sep : Nat} {sc : Int32} {P : Nat → Nat → Tr Lb → Prop} {tk : Piece → Tsk} {L : List Piece} (hsep : sep = 54 ∨ sep = 55) (hsc : ∀ i, T.tkd i = sep → tx i = [sc]) (hP : ∀ s e t, P s e t → s < e) (hd : d ≤ 1) (htk : ∀ x, (tk x).2.1 = z ∧ (tk x).2.2.1 = x.1 ∧ (tk x).2.2.2.1 = x.2.1) (hL : (L = [] ∧ b = o + 1) ∨ EC P T.tkd sep o L (b - 1)) (hob : o + 1 ≤ b) (hne : ¬ eO (T.tkd (o - 1))) (ho : 0 < o) (hR : ∀ x ∈ L, RunT T tx m q1 q2 q3 q4 q5 q6 q7 q8 q0 z6 N6 a6 N5 a5 n2 b2 z34 N34 z35 N35 (tk x) x.2.2 (wX T tx 1 x.2.2) (x.2.1 - x.1 + d)) (S : List Tsk) (G : Tr Lb) (mu xu : Nat → Nat) (s : BS) (hB : BOK m N34 N35 G (L.map tk ++ S) mu xu s) (hz : Tr.OnP G z) (hsz : Tr.sz G + Tr.sz (joinT L) ≤ 16400) (hS : S.length + (b - 1 - o) ≤ 17000) (h0 : ∀ i, o ≤ i → i < b → mu i = 0) (hx : ∀ i, o ≤ i → i + 1 < b → xu i = 0) :
    ∃ (tn : Nat) (s' : BS) (mk' ex' : Nat → Nat) (c sl : Nat), tn ≤ b - 1 - o + d ∧ BOK m N34 N35 (Tr.appAt (joinT L) G z) S mk' ex' s' ∧ BG s s' c sl ∧ (∀ i, i < o ∨ b - 1 ≤ i → mk' i = mu i ∧ ex' i = xu i) ∧ (∀ p0, p0 < o → Say T tx p0 mk' ex' o (b - 1) = wSep [sc, 32] (L.map (fun x => wX T tx 1 x.2.2))) ∧ ∀ fu R c' sl', BLp q1 q2 q3 q4 q5 q6 q7 q8 q0 z6 N6 a6 N5 a5 n2 b2 z34 N34 z35 N35 fu (Tr.sz G + Tr.sz (joinT L)) S.length s' = some (R, c', sl') → BLp q1 q2 q3 q4 q5 q6 q7 q8 q0 z6 N6 a6 N5 a5 n2 b2 z34 N34 z35 N35 (fu + tn) (Tr.sz G) (L.length + S.length) s = some (R, c + c', sl + sl') := by
  rcases hL with ⟨h1, h2⟩ | h
  · subst h1 h2
    refine ⟨0, s, mu, xu, 0, 0, by omega, by rw [show joinT [] = .leaf from rfl, Tr.appAt_nil]; exact hB, BG.rfl, fun i _ => ⟨rfl, rfl⟩, fun p0 _ => ?_, fun fu R c' sl' hh => ?_⟩
    · rw [Nat.add_sub_cancel, Say.nil]; rfl
    · show BLp q1 q2 q3 q4 q5 q6 q7 q8 q0 z6 N6 a6 N5 a5 n2 b2 z34 N34 z35 N35 (fu + 0) (Tr.sz G) (0 + S.length) s = some (R, 0 + c', 0 + sl')
      rw [Nat.zero_add, Nat.zero_add, Nat.zero_add]
      exact hh
  · have hlen := EC.le hP h
    obtain ⟨tn, s', mk', ex', c, sl, g1, g2, g3, g4, g5, g6⟩ := RunL (W := fun x => wX T tx 1 x.2.2) hsep hsc hP hd htk L o h hR S G mu xu s 0 hB hz hsz hS (fun i a1 a2 => h0 i a1 (by omega)) (fun i a1 a2 => hx i a1 (by omega)) (hx _ (by omega) (by omega))
    refine ⟨tn, s', mk', ex', c, sl, g1, g2, g3, g4, fun p0 hp0 => ?_, g6⟩
    rw [g5 p0 (by omega) (fun _ => hne), List.replicate_zero, List.append_nil]
/-- a call -/
theorem In_call {z r a b : Nat} {L : List Piece} (hTx : TxK T tx) (ha31 : a < 2 ^ 31) (hr7 : r ≠ 7) (h2 : T.tkd a = 2) (h50 : T.tkd (a + 1) = 50) (h51 : T.tkd (b - 1) = 51) (hb : a + 3 ≤ b) (hL : (L = [] ∧ b = a + 3) ∨ EC (VEl T (VV T) true) T.tkd 54 (a + 2) L (b - 1)) (hR : ∀ x ∈ L, RunT T tx m q1 q2 q3 q4 q5 q6 q7 q8 q0 z6 N6 a6 N5 a5 n2 b2 z34 N34 z35 N35 (1, z, x.1, x.2.1, 1) x.2.2 (wX T tx 1 x.2.2) (x.2.1 - x.1)) : InR T tx m q1 q2 q3 q4 q5 q6 q7 q8 q0 z6 N6 a6 N5 a5 n2 b2 z34 N34 z35 N35 z r a b (33, T.tpl a, T.tpl (a + 1), T.twd a, nI a) (joinT L) (exT z L) := by
  intro S G mu xu s x1 hB hz hsz hS h0 h0a hx hx1
  have hma : mu a = 0 := h0a.resolve_right (fun h => hr7 h.2)
  have hP : ∀ s e t, VEl T (VV T) true s e t → s < e := fun s e t h => (VEl.lay h).2.1
  obtain ⟨tn, s', mk', ex', c, sl, g1, g2, g3, g4, g5, g6⟩ := In_list (P := VEl T (VV T) true) (tk := fun x => (1, z, x.1, x.2.1, 1)) (d := 0) (sep := 54) (sc := 44) (o := a + 2) (b := b) (L := L) (Or.inl rfl) (fun i hi => (hTx i).2.2.2.2.1 hi) hP (by omega) (fun x => ⟨rfl, rfl, rfl⟩) hL (by omega) (by rw [show a + 2 - 1 = a + 1 by omega, h50]; unfold eO; omega) (by omega) hR S G mu xu s hB hz hsz (by omega) (fun i a1 a2 => h0 i (by omega) a2) (fun i a1 a2 => hx i (by omega) a2)
  have hrt : ∀ x ∈ L, Tr.rt x.2.2 = 1 := by
    intro x hxm
    rcases hL with ⟨h, _⟩ | h
    · subst h; cases hxm
    · exact (VEl.lay (EC.mem hP h x hxm).1).2.2.2.1
  refine ⟨tn, s', mk', ex', c, sl, by omega, g2, g3, fun i hi => g4 i (by omega), fun p0 d1 d2 => ?_, fun fu R c' sl' hh => ?_⟩
  · have qa := g4 a (Or.inl (by omega))
    have qb := g4 (a + 1) (Or.inl (by omega))
    have qc := g4 (b - 1) (Or.inr (Nat.le_refl _))
    have e1 : sayT T tx p0 mk' ex' a = tx a := by
      rw [sayT_plain (by rw [qa.1]; exact hma) (bopB_k (Or.inl (by rw [h2]; rfl))) (by omega) (by omega) (by omega), qa.2, hx a (Nat.le_refl _) (by omega)]
      exact List.append_nil _
    have e2 : sayT T tx p0 mk' ex' (a + 1) = [40] := by
      rw [sayT_plain (by rw [qb.1]; exact h0 _ (by omega) (by omega)) (bopB_k (Or.inl (by rw [h50]; rfl))) (by omega) (by omega) (by omega), qb.2, hx _ (by omega) (by omega), (hTx _).1 h50]
      rfl
    have e3 : sayT T tx p0 mk' ex' (b - 1) = [41] ++ List.replicate x1 41 := by
      rw [sayT_plain (by rw [qc.1]; exact h0 _ (by omega) (by omega)) (bopB_k (Or.inl (by rw [h51]; rfl))) (by omega) (by omega) (by omega), qc.2, hx1, (hTx _).2.1 h51]
    have hb1 : b - 1 + 1 = b := by omega
    have e4 : Say T tx p0 mk' ex' (b - 1) b = [41] ++ List.replicate x1 41 := by
      rw [← e3, ← Say.one, hb1]
    have hbody : bodyW T tx (33, T.tpl a, T.tpl (a + 1), T.twd a, nI a) (wF T tx (joinT L) (needW T (33, T.tpl a, T.tpl (a + 1), T.twd a, nI a) (joinT L))) = tx a ++ [40] ++ wSep [44, 32] (L.map (fun x => wX T tx 1 x.2.2)) ++ [41] := by
      rw [show needW T (33, T.tpl a, T.tpl (a + 1), T.twd a, nI a) (joinT L) = fun _ => 1 from funext (fun _ => rfl), wF_join L hrt]
      show tx (Int32.toNatClampNeg (nI a)) ++ [40] ++ wSep [44, 32] _ ++ [41] = _
      rw [nI_clamp' ha31]
    rw [Say.cut (a := a) (c := a + 1) (b := b) (by omega) (by omega), Say.one, Say.cut (a := a + 1) (c := a + 2) (b := b) (by omega) (by omega), Say.one, Say.cut (a := a + 2) (c := b - 1) (b := b) (by omega) (by omega), e1, e2, g5 p0 (by omega), e4, hma, if_neg (by decide), hbody]
    simp only [List.nil_append, List.append_assoc]
  · rw [show (exT z L).length = L.length from List.length_map ..]
    exact g6 fu R c' sl' hh
/-- rows -/
theorem In_rows {z r a b : Nat} {L : List Piece} (hTx : TxK T tx) (hr7 : r ≠ 7) (h52 : T.tkd a = 52) (h53 : T.tkd (b - 1) = 53) (hb : a + 2 ≤ b) (hL : (L = [] ∧ b = a + 2) ∨ EC (VRow T) T.tkd 55 (a + 1) L (b - 1)) (hR : ∀ x ∈ L, RunT T tx m q1 q2 q3 q4 q5 q6 q7 q8 q0 z6 N6 a6 N5 a5 n2 b2 z34 N34 z35 N35 (3, z, x.1, x.2.1, 0) x.2.2 (wX T tx 1 x.2.2) (x.2.1 - x.1 + 1)) : InR T tx m q1 q2 q3 q4 q5 q6 q7 q8 q0 z6 N6 a6 N5 a5 n2 b2 z34 N34 z35 N35 z r a b (T.lb 36 a) (joinT L) (rowT z L) := by
  intro S G mu xu s x1 hB hz hsz hS h0 h0a hx hx1
  have hma : mu a = 0 := h0a.resolve_right (fun h => hr7 h.2)
  have hP : ∀ s e t, VRow T s e t → s < e := fun s e t h => (VRow.lay h).2.1
  obtain ⟨tn, s', mk', ex', c, sl, g1, g2, g3, g4, g5, g6⟩ := In_list (P := VRow T) (tk := fun x => (3, z, x.1, x.2.1, 0)) (d := 1) (sep := 55) (sc := 59) (o := a + 1) (b := b) (L := L) (Or.inr rfl) (fun i hi => (hTx i).2.2.2.2.2.1 hi) hP (by omega) (fun x => ⟨rfl, rfl, rfl⟩) hL (by omega) (by rw [Nat.add_sub_cancel, h52]; unfold eO; omega) (by omega) hR S G mu xu s hB hz hsz (by omega) (fun i a1 a2 => h0 i (by omega) a2) (fun i a1 a2 => hx i (by omega) a2)
  have hrt : ∀ x ∈ L, Tr.rt x.2.2 = 1 := by
    intro x hxm
    rcases hL with ⟨h, _⟩ | h
    · subst h; cases hxm
    · obtain ⟨l, _, hl⟩ := (EC.mem hP h x hxm).1
      rw [hl]; rfl
  refine ⟨tn, s', mk', ex', c, sl, by omega, g2, g3, fun i hi => g4 i (by omega), fun p0 d1 d2 => ?_, fun fu R c' sl' hh => ?_⟩
  · have qa := g4 a (Or.inl (by omega))
    have qc := g4 (b - 1) (Or.inr (Nat.le_refl _))
    have e1 : sayT T tx p0 mk' ex' a = [91] := by
      rw [sayT_plain (by rw [qa.1]; exact hma) (bopB_k (Or.inl (by rw [h52]; rfl))) (by omega) (by omega) (by omega), qa.2, hx a (Nat.le_refl _) (by omega), (hTx _).2.2.1 h52]
      rfl
    have e3 : sayT T tx p0 mk' ex' (b - 1) = [93] ++ List.replicate x1 41 := by
      rw [sayT_plain (by rw [qc.1]; exact h0 _ (by omega) (by omega)) (bopB_k (Or.inl (by rw [h53]; rfl))) (by omega) (by omega) (by omega), qc.2, hx1, (hTx _).2.2.2.1 h53]
    have hb1 : b - 1 + 1 = b := by omega
    have e4 : Say T tx p0 mk' ex' (b - 1) b = [93] ++ List.replicate x1 41 := by
      rw [← e3, ← Say.one, hb1]
    have hbody : bodyW T tx (T.lb 36 a) (wF T tx (joinT L) (needW T (T.lb 36 a) (joinT L))) = [91] ++ wSep [59, 32] (L.map (fun x => wX T tx 1 x.2.2)) ++ [93] := by
      rw [show needW T (T.lb 36 a) (joinT L) = fun _ => 1 from funext (fun _ => rfl), wF_join L hrt]
      rfl
    rw [Say.cut (a := a) (c := a + 1) (b := b) (by omega) (by omega), Say.one, Say.cut (a := a + 1) (c := b - 1) (b := b) (by omega) (by omega), e1, g5 p0 (by omega), e4, hma, if_neg (by decide), hbody]
    simp only [List.nil_append, List.append_assoc]
  · rw [show (rowT z L).length = L.length from List.length_map ..]
    exact g6 fu R c' sl' hh
/-- all forms of a root -/
theorem Mo_in {z r a b c : Nat} {lab : Lb} {l : Tr Lb} {Ts : List Tsk} (hTx : TxK T tx) (hb : b < 2 ^ 17) (x : XF T z r a b c lab l Ts)
    (IHx : ∀ a' b' need t, a ≤ a' → b' ≤ b → b' - a' < b - a → EX T need a' b' t → need ≤ 10 → ∀ z, RunT T tx m q1 q2 q3 q4 q5 q6 q7 q8 q0 z6 N6 a6 N5 a5 n2 b2 z34 N34 z35 N35 (1, z, a', b', need) t (wX T tx need t) (b' - a'))
    (IHr : ∀ a' b' t, a ≤ a' → b' ≤ b → b' - a' < b - a → VRow T a' b' t → ∀ z, RunT T tx m q1 q2 q3 q4 q5 q6 q7 q8 q0 z6 N6 a6 N5 a5 n2 b2 z34 N34 z35 N35 (3, z, a', b', 0) t (wX T tx 1 t) (b' - a' + 1)) : InR T tx m q1 q2 q3 q4 q5 q6 q7 q8 q0 z6 N6 a6 N5 a5 n2 b2 z34 N34 z35 N35 z r a b lab l Ts := by
  rcases x with ⟨h1, h2⟩ | ⟨h1, h2, h3, h4, h5, r', h6, h7⟩ | ⟨h1, h2, h3, h4, h5, r', h6, h7⟩ | ⟨h1, h2, h3, h4, r1, t1, r2, t2, h5, h6, h7, h8, h9, h10⟩ | ⟨h1, h2, h3, r1, r2, t1, t2, h4, h5, h6, h7, h8, h9⟩ | ⟨h1, h2, c1, h3, h4, r1, r2, r3, t1, t2, t3, h5, h6, h7, h8, h9, h10, h11, h12⟩
  · rcases h2 with ⟨k1, k2, k3, k4, k, k5, k6⟩ | ⟨k1, k2, k3, k4, k5, L, k6, k7, k8⟩ | ⟨k1, k2, k3, k4, L, k5, k6, k7⟩
    · subst k1 k2 k3 k6
      exact In_tok (by omega) (by omega) k4 k5
    · subst k5 k6 k7
      refine In_call hTx (by omega) (by omega) k1 k2 k3 k4 k8 (fun x hx => ?_)
      rcases k8 with ⟨h, _⟩ | h
      · subst h; cases hx
      · obtain ⟨g1, g2, g3⟩ := EC.mem (fun s e t h => (VEl.lay h).2.1) h x hx
        have g4 := (VEl.lay g1).2.1
        refine IHx x.1 x.2.1 1 x.2.2 (by omega) (by omega) (by omega) ?_ (by omega) z
        rcases g1 with ⟨r, g⟩ | ⟨_, g⟩
        · exact Or.inl ⟨r, g, Or.inl (((g.lay.2.2 rfl).2.2.2.2).1)⟩
        · exact Or.inr g
    · subst k4 k5 k6
      refine In_rows hTx (by omega) k1 k2 k3 k7 (fun x hx => ?_)
      rcases k7 with ⟨h, _⟩ | h
      · subst h; cases hx
      · obtain ⟨g1, g2, g3⟩ := EC.mem (fun s e t h => (VRow.lay h).2.1) h x hx
        exact IHr x.1 x.2.1 x.2.2 (by omega) (by omega) (by omega) g1 z
  · subst h2 h4 h5
    have hl := h7.lt
    exact In_post hl (by omega) (by omega) h3 h7.rt1 (IHx a c 9 l (Nat.le_refl _) (by omega) (by omega) (Or.inl ⟨r', h7, Or.inl h6⟩) (by omega) z) (Nat.le_refl _)
  · subst h2 h4 h5
    have hl := h7.lt
    exact In_sign hl (by omega) h3 h7.rt1 (IHx (c + 1) b 7 l (by omega) (Nat.le_refl _) (by omega) (Or.inl ⟨r', h7, Or.inl h6⟩) (by omega) z) (Nat.le_refl _)
  · subst h4 h8 h10
    have hl := h6.lt; have hl2 := h7.lt
    have hr8 := rk_le (T.tkd c)
    have hrn := rk_not7 (T.tkd c)
    have hnd : ndT T r t2 ≤ 10 := by
      unfold ndT
      by_cases e : r = 8
      · rw [if_pos e]
        by_cases e2 : tgT T t2 = true
        · rw [if_pos e2]; omega
        · rw [if_neg e2]; omega
      · rw [if_neg e]; omega
    have hpos : 0 < rkM (T.tkd c) := by omega
    have h38 : T.tkd c ≠ 38 := fun e => by rw [e] at h3; exact h2 h3.symm
    refine In_two (sp := if rkM (T.tkd c) < 8 then [32] ++ tx c ++ [32] else tx c) hl hl2 (by omega) (IHx a c r t1 (Nat.le_refl _) (by omega) (by omega) (Or.inl ⟨r1, h6, Or.inl h5⟩) (by omega) z) (IHx (c + 1) b _ t2 (by omega) (Nat.le_refl _) (by omega) (Or.inl ⟨r2, h7, h9⟩) hnd z) (Nat.le_refl _) (Nat.le_refl _) (neO hpos) (fun p0 mk ex k1 k2 k3 => sayT_op k2 k3 hpos h38 (by omega) (h6.lay.2.2 rfl).2.1) ?_
    have n0 : needW T (T.lb 40 c) (Tr.app t1 t2) 0 = r := by
      show rkM (T.tkd (Int32.toNatClampNeg (nI c))) = r
      rw [nI_clamp' (by omega)]; exact h3
    have n1 : needW T (T.lb 40 c) (Tr.app t1 t2) (0 + Tr.rt t1) = ndT T r t2 := by
      rw [h6.rt1]
      show ndT T (rkM (T.tkd (Int32.toNatClampNeg (nI c)))) (Tr.sib (Tr.app t1 t2)) = _
      rw [nI_clamp' (by omega), h3, sib_app h6.rt1]
    rw [wF_app, wF_one h6.rt1, wF_one h7.rt1, n0, n1]
    show wSep (if rkM (T.tkd (Int32.toNatClampNeg (nI c))) < 8 then [32] ++ tx (Int32.toNatClampNeg (nI c)) ++ [32] else tx (Int32.toNatClampNeg (nI c))) [wX T tx r t1, wX T tx (ndT T r t2) t2] = _
    rw [nI_clamp' (by omega), wSep_cons]
    show _ ++ (_ ++ (_ ++ [])) = _
    rw [List.append_nil]
  · subst h3 h8 h9
    have hl := h6.lt; have hl2 := h7.lt
    refine In_two (sp := [58]) hl hl2 (by omega) (IHx a c 5 t1 (Nat.le_refl _) (by omega) (by omega) (Or.inl ⟨r1, h6, Or.inl h4⟩) (by omega) z) (IHx (c + 1) b 5 t2 (by omega) (Nat.le_refl _) (by omega) (Or.inl ⟨r2, h7, Or.inl h5⟩) (by omega) z) (Nat.le_refl _) (Nat.le_refl _) (neO (by rw [h2]; decide)) (fun p0 mk ex k1 k2 k3 => ?_) ?_
    · rw [sayT_plain k2 (bopB_k (Or.inr (Or.inr (Or.inl h2)))) (by omega) (by omega) (by omega), k3, (hTx c).2.2.2.2.2.2.2 h2]; rfl
    · rw [wF_app, wF_one h6.rt1, wF_one h7.rt1]
      show wSep [58] [wX T tx 5 t1, wX T tx 5 t2] = _
      rw [wSep_cons]
      show _ ++ (_ ++ (_ ++ [])) = _
      rw [List.append_nil]
  · subst h4 h11 h12
    have hl := h8.lt; have hl2 := h9.lt; have hl3 := h10.lt
    refine In_three hTx hl hl2 hl3 (by omega) h3 h2 (IHx a c1 5 t1 (Nat.le_refl _) (by omega) (by omega) (Or.inl ⟨r1, h8, Or.inl h5⟩) (by omega) z) (IHx (c1 + 1) c 5 t2 (by omega) (by omega) (by omega) (Or.inl ⟨r2, h9, Or.inl h6⟩) (by omega) z) (IHx (c + 1) b 5 t3 (by omega) (Nat.le_refl _) (by omega) (Or.inl ⟨r3, h10, Or.inl h7⟩) (by omega) z) (Nat.le_refl _) (Nat.le_refl _) (Nat.le_refl _) ?_
    rw [wF_app, wF_app, wF_one h8.rt1, wF_one h9.rt1, wF_one h10.rt1]
    show wSep [58] [wX T tx 5 t1, wX T tx 5 t2, wX T tx 5 t3] = _
    rw [wSep_cons, wSep_cons]
    show _ ++ (_ ++ (_ ++ (_ ++ (_ ++ [])))) = _
    rw [List.append_nil]
end Md
end
