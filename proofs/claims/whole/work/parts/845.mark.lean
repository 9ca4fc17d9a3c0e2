section
/-! marks -/
def MkIs (m N : Nat) (b : Nat → Int32) (mk : Nat → Nat) : Prop := m ≤ N ∧ N ≤ 2 ^ 20 ∧ ∀ i, i < m → b i = nI (mk i)
def mkP (a b j : Nat) (mk : Nat → Nat) : Nat → Nat := fun i => if (a ≤ i ∧ i < a + j) ∨ (b ≤ i + j ∧ i < b) then 1 else mk i
theorem MkIs.upd {m N : Nat} {b : Nat → Int32} {mk mk' : Nat → Nat} (h : MkIs m N b mk) {i v : Nat} (h2 : mk' i = v) (h3 : ∀ j, j ≠ i → mk' j = mk j) : MkIs m N (upd b i (nI v)) mk' :=
  ⟨h.1, h.2.1, fun j hj => by
    by_cases e : j = i
    · subst e; rw [upd_self, h2]
    · rw [upd_ne e, h3 j e]; exact h.2.2 j hj⟩
/-- what is marked at an expression with k brackets around it -/
def XM (a b need k r : Nat) (mk ex mk' ex' : Nat → Nat) : Prop :=
  (need ≤ r ∧ mk' = mkP a b k mk ∧ ex' = ex) ∨ (r < need ∧ 0 < k ∧ mk' = mkP a b (k - 1) mk ∧ ex' = ex) ∨ (r < need ∧ k = 0 ∧ r = 7 ∧ mk' = (fun i => if i = a then 2 else mk i) ∧ ex' = fun i => if i = b - 1 then ex i + 1 else ex i)
/-- an expression that may stand where rank need is wanted, or a colon -/
def EX (T : Tks) (need a b : Nat) (t : Tr Lb) : Prop := (∃ r, VV T 0 r a b t ∧ (need ≤ r ∨ (need = 9 ∧ r = 7))) ∨ (b = a + 1 ∧ T.tkd a = 38 ∧ t = Tr.nd (T.lb 34 a) .leaf)
section Md
variable {T : Tks} {m N5 N6 : Nat} {a5 a6 : Nat → Int32}
variable {n2 : Nat} {b2 : Nat → Int32}
variable {q1 q2 q3 q4 q5 q6 q7 q8 q9 q0 z6 z34 z35 : Int32}
variable {C : NC} {f : NFn} {N34 N35 : Nat} {b34 b35 : Nat → Int32}
theorem Mo_70 (hT : TkOK T m) (hk : KdIs m N5 a5 T.tkd) (hp6 : PlIs m N6 a6 T) (hr : RkIs n2 b2) {G : Tr Lb} {p r a b c k need : Nat} {t : Tr Lb} {N : Nat} {b0 : Nat → Int32} {l0 : List Int32} {mk ex : Nat → Nat} (h : NdS C f G) (hp : Tr.OnP G p) (hz : Tr.sz G ≤ 16400) (hb : b ≤ m) (x : VR T r (a + k) (b - k) c t) (hv : VecT N b0 l0) (h0 : ∀ i, a ≤ i → i < b → mk i = 0) (h35 : MkIs m N35 b35 ex) (hnd : need ≤ 10) (hn : need ≤ r ∨ 0 < k ∨ r = 7) : ∀ (n j fu : Nat) (b34 : Nat → Int32), j + n = k → n < fu → MkIs m N34 b34 (mkP a b j mk) →
    ∃ (C' : NC) (f' : NFn) (lab : Lb) (l : Tr Lb) (Ts : List Tsk) (N' : Nat) (b' b34' b35' : Nat → Int32) (mk' ex' : Nat → Nat) (fnd : Int32) (cc ss c1 s1 c2 s2 : Nat), F_Mo_buildExpression_70 (nI p) (nI a) (nI b) (nI need) q1 q2 q3 q4 q5 q6 q7 q8 q0 N5 a5 z6 N6 a6 (nI (Tr.sz G)) C.1 f.1 (nI (Tr.sz G)) C.2.1 f.2.1 (nI (Tr.sz G)) C.2.2.1 f.2.2.1 (nI (Tr.sz G)) C.2.2.2.1 f.2.2.2.1 (nI (Tr.sz G)) C.2.2.2.2.1 f.2.2.2.2.1 (nI (Tr.sz G)) C.2.2.2.2.2.1 f.2.2.2.2.2.1 (nI (Tr.sz G)) C.2.2.2.2.2.2.1 f.2.2.2.2.2.2.1 (nI (Tr.sz G)) C.2.2.2.2.2.2.2 f.2.2.2.2.2.2.2 n2 b2 z34 N34 z35 N35 b35 0 N b0 fu (nI j) (nI c) (nI r) (nI (b - k)) (nI (a + k)) (nI k) b34 q9 = some ((fnd, nI (Tr.sz G + 1), nI (Tr.sz G + 1), nI (Tr.sz G + 1), b34', b35', nI (5 * Ts.length), C'.1, f'.1, C'.2.1, f'.2.1, C'.2.2.1, f'.2.2.1, C'.2.2.2.1, f'.2.2.2.1, C'.2.2.2.2.1, f'.2.2.2.2.1, C'.2.2.2.2.2.1, f'.2.2.2.2.2.1, C'.2.2.2.2.2.2.1, f'.2.2.2.2.2.2.1, C'.2.2.2.2.2.2.2, f'.2.2.2.2.2.2.2, N', b'), cc, ss) ∧ cc = c1 + c2 ∧ ss = s1 + s2 ∧ t = Tr.nd lab l ∧ NdS C' f' (Tr.appAt (Tr.nd lab .leaf) G p) ∧ GrowA C C' c1 s1 ∧ VecT N' b' (flT Ts) ∧ Grow N N' c2 s2 ∧ XF T (Tr.sz G) r (a + k) (b - k) c lab l Ts ∧ MkIs m N34 b34' mk' ∧ MkIs m N35 b35' ex' ∧ XM a b need k r mk ex mk' ex' := by
  have hle := hT.le
  have hlt := x.vv.lt
  have hr10 := ((x.vv.lay.2.2 rfl).2.2.2.2)
  have e1 : nI (b - k) - 1 = nI (b - k - 1) := by rw [show b - k = (b - k - 1) + 1 by omega]; exact nI_p1 _
  intro n
  induction n with
  | zero =>
    intro j fu b34 hj hf h34
    have hjk : j = k := by omega
    subst hjk
    obtain ⟨f2, rfl⟩ : ∃ f2, fu = f2 + 1 := ⟨fu - 1, by omega⟩
    have hN4 := h34.1; have hN4' := h34.2.1
    have hN5 := h35.1; have hN5' := h35.2.1
    rw [F_Mo_buildExpression_70, if_pos (show nI j ≤ nI j by rw [nI_le' (by omega) (by omega)]; omega)]
    have enr : (nI need ≤ nI r) = (need ≤ r) := nI_le' (by omega) (by omega)
    simp only [enr]
    by_cases c1 : need ≤ r
    · rw [if_pos c1]
      unfold F_Mo_buildExpression_150
      simp only [enr]
      rw [if_pos c1]
      obtain ⟨C', f', lab, l, Ts, N', b', fnd, cc, ss, c1', s1, c2, s2, g1, g2, g3, g4, g5, g6, g7, g8, g9⟩ := Mo_203 hT hk hp6 hr (q1 := q1) (q2 := q2) (q3 := q3) (q4 := q4) (q5 := q5) (q6 := q6) (q7 := q7) (q8 := q8) (q9 := q9) (q0 := q0) (z6 := z6) (v10 := nI j) (v5 := nI j) (b34 := b34) (b35 := b35) h hp hz (by omega) x hv
      exact ⟨C', f', lab, l, Ts, N', b', b34, b35, mkP a b j mk, ex, fnd, cc, ss, c1', s1, c2, s2, g1, g2, g3, g4, g5, g6, g7, g8, g9, h34, h35, Or.inl ⟨c1, rfl, rfl⟩⟩
    · rw [if_neg c1]
      by_cases c2 : j = 0
      · subst c2
        rw [if_pos (show nI 0 ≤ (0 : Int32) by decide)]
        unfold F_Mo_buildExpression_150
        simp only [enr]
        have hmk : mkP a b 0 mk = mk := by
          funext i
          unfold mkP
          rw [if_neg (by omega)]
        rw [hmk] at h34
        have hva := h34.2.2 a (by omega)
        have hvb := h35.2.2 (b - 1) (by omega)
        rw [h0 a (Nat.le_refl _) (by omega)] at hva
        have ea : a + 0 = a := rfl
        have eb : b - 0 - 1 = b - 1 := rfl
        rw [if_neg c1, e1, eb]
        have at1 : F_Nm_at (nI (a + 0)) z34 N34 b34 = some () := Nm_at (by omega) (by omega)
        have at2 : F_Nm_at (nI (b - 1)) z35 N35 b35 = some () := Nm_at (by omega) (by omega)
        rw [at1, Option.bind_some, inb_ok (show a + 0 < N34 by omega) (by omega), at2, Option.bind_some, inb_ok (show b - 1 < N35 by omega) (by omega), nI_clamp' (show a + 0 < 2 ^ 31 by omega), nI_clamp' (show b - 1 < 2 ^ 31 by omega), ea, hva, hvb, show nI 0 + 2 = nI 2 from rfl, show nI (ex (b - 1)) + 1 = nI (ex (b - 1) + 1) from nI_add' _ 1]
        obtain ⟨C', f', lab, l, Ts, N', b', fnd, cc, ss, c1', s1, c2, s2, g1, g2, g3, g4, g5, g6, g7, g8, g9⟩ := Mo_203 hT hk hp6 hr (q1 := q1) (q2 := q2) (q3 := q3) (q4 := q4) (q5 := q5) (q6 := q6) (q7 := q7) (q8 := q8) (q9 := q9) (q0 := q0) (z6 := z6) (v10 := nI 0) (v5 := nI 0) (b34 := upd b34 a (nI 2)) (b35 := upd b35 (b - 1) (nI (ex (b - 1) + 1))) h hp hz (by omega) x hv
        refine ⟨C', f', lab, l, Ts, N', b', _, _, (fun i => if i = a then 2 else mk i), (fun i => if i = b - 1 then ex i + 1 else ex i), fnd, cc, ss, c1', s1, c2, s2, g1, g2, g3, g4, g5, g6, g7, g8, g9, ?_, ?_, Or.inr (Or.inr ⟨by omega, rfl, by omega, rfl, rfl⟩)⟩
        · exact h34.upd (if_pos rfl) (fun j hj => if_neg hj)
        · exact h35.upd (if_pos rfl) (fun j hj => if_neg hj)
      · rw [if_neg (show ¬ nI j ≤ (0 : Int32) by rw [show (0 : Int32) = nI 0 from rfl, nI_le' (by omega) (by omega)]; omega)]
        have ea : nI (a + j) - 1 = nI (a + j - 1) := by rw [show a + j = (a + j - 1) + 1 by omega]; exact nI_p1 _
        rw [ea, inb_ok (show a + j - 1 < N34 by omega) (by omega), inb_ok (show b - j < N34 by omega) (by omega), nI_clamp' (show a + j - 1 < 2 ^ 31 by omega), nI_clamp' (show b - j < 2 ^ 31 by omega)]
        obtain ⟨C', f', lab, l, Ts, N', b', fnd, cc, ss, c1', s1, c2', s2, g1, g2, g3, g4, g5, g6, g7, g8, g9⟩ := Mo_203 hT hk hp6 hr (q1 := q1) (q2 := q2) (q3 := q3) (q4 := q4) (q5 := q5) (q6 := q6) (q7 := q7) (q8 := q8) (q9 := q9) (q0 := q0) (z6 := z6) (v10 := nI j) (v5 := nI j) (b34 := upd (upd b34 (a + j - 1) 0) (b - j) 0) (b35 := b35) h hp hz (by omega) x hv
        refine ⟨C', f', lab, l, Ts, N', b', _, b35, mkP a b (j - 1) mk, ex, fnd, cc, ss, c1', s1, c2', s2, g1, g2, g3, g4, g5, g6, g7, g8, g9, ?_, h35, Or.inr (Or.inl ⟨by omega, by omega, rfl, rfl⟩)⟩
        have q1 : mkP a b (j - 1) mk (a + j - 1) = 0 := by
          unfold mkP
          rw [if_neg (by omega)]; exact h0 _ (by omega) (by omega)
        have q2 : mkP a b (j - 1) mk (b - j) = 0 := by
          unfold mkP
          rw [if_neg (by omega)]; exact h0 _ (by omega) (by omega)
        have hm : MkIs m N34 (upd b34 (a + j - 1) (nI 0)) (fun i => if i = a + j - 1 then 0 else mkP a b j mk i) := h34.upd (if_pos rfl) (fun i hi => if_neg hi)
        refine hm.upd (v := 0) q2 (fun i hi => ?_)
        by_cases e : i = a + j - 1
        · show mkP a b (j - 1) mk i = if i = a + j - 1 then 0 else mkP a b j mk i
          rw [if_pos e, e]; exact q1
        · show mkP a b (j - 1) mk i = if i = a + j - 1 then 0 else mkP a b j mk i
          rw [if_neg e]
          unfold mkP
          by_cases d : (a ≤ i ∧ i < a + (j - 1)) ∨ (b ≤ i + (j - 1) ∧ i < b)
          · rw [if_pos d, if_pos (by omega)]
          · rw [if_neg d, if_neg (by omega)]
  | succ n ih =>
    intro j fu b34 hj hf h34
    obtain ⟨f2, rfl⟩ : ∃ f2, fu = f2 + 1 := ⟨fu - 1, by omega⟩
    have hN4 := h34.1; have hN4' := h34.2.1
    have ea : nI a + nI j = nI (a + j) := nI_add' a j
    have eb : nI b - 1 - nI j = nI (b - 1 - j) := by
      rw [show nI b - 1 = nI (b - 1) from by rw [show b = (b - 1) + 1 by omega]; exact nI_p1 _]
      exact nI_sub' (by omega)
    rw [F_Mo_buildExpression_70, if_neg (show ¬ nI k ≤ nI j by rw [nI_le' (by omega) (by omega)]; omega), ea, eb, inb_ok (show a + j < N34 by omega) (by omega), inb_ok (show b - 1 - j < N34 by omega) (by omega), nI_clamp' (show a + j < 2 ^ 31 by omega), nI_clamp' (show b - 1 - j < 2 ^ 31 by omega), show nI j + 1 = nI (j + 1) from nI_add' j 1]
    refine ih (j + 1) f2 _ (by omega) (by omega) ?_
    have hm : MkIs m N34 (upd b34 (a + j) (nI 1)) (fun i => if i = a + j then 1 else mkP a b j mk i) := h34.upd (if_pos rfl) (fun i hi => if_neg hi)
    refine hm.upd (v := 1) (by unfold mkP; rw [if_pos (by omega)]) (fun i hi => ?_)
    show mkP a b (j + 1) mk i = if i = a + j then 1 else mkP a b j mk i
    by_cases e : i = a + j
    · rw [if_pos e]; unfold mkP; rw [if_pos (by omega)]
    · rw [if_neg e]
      unfold mkP
      by_cases d : (a ≤ i ∧ i < a + j) ∨ (b ≤ i + j ∧ i < b)
      · rw [if_pos d, if_pos (by omega)]
      · rw [if_neg d, if_neg (by omega)]
/-- one turn: an expression -/
theorem Mo_bx (hT : TkOK T m) (hk : KdIs m N5 a5 T.tkd) (hp6 : PlIs m N6 a6 T) (hr : RkIs n2 b2) {G : Tr Lb} {p a b need : Nat} {t : Tr Lb} {N : Nat} {b0 : Nat → Int32} {l0 : List Int32} {mk ex : Nat → Nat} (h : NdS C f G) (hp : Tr.OnP G p) (hz : Tr.sz G ≤ 16400) (hb : b ≤ m) (x : EX T need a b t) (hv : VecT N b0 l0) (h0 : ∀ i, a ≤ i → i < b → mk i = 0) (h34 : MkIs m N34 b34 mk) (h35 : MkIs m N35 b35 ex) (hnd : need ≤ 10) :
    ∃ (C' : NC) (f' : NFn) (lab : Lb) (l : Tr Lb) (Ts : List Tsk) (N' : Nat) (b' b34' b35' : Nat → Int32) (mk' ex' : Nat → Nat) (fnd : Int32) (cc ss c1 s1 c2 s2 : Nat), F_Mo_buildExpression (nI p) (nI a) (nI b) (nI need) q1 q2 q3 q4 q5 q6 q7 q8 q9 q0 N5 a5 z6 N6 a6 (nI (Tr.sz G)) C.1 f.1 (nI (Tr.sz G)) C.2.1 f.2.1 (nI (Tr.sz G)) C.2.2.1 f.2.2.1 (nI (Tr.sz G)) C.2.2.2.1 f.2.2.2.1 (nI (Tr.sz G)) C.2.2.2.2.1 f.2.2.2.2.1 (nI (Tr.sz G)) C.2.2.2.2.2.1 f.2.2.2.2.2.1 (nI (Tr.sz G)) C.2.2.2.2.2.2.1 f.2.2.2.2.2.2.1 (nI (Tr.sz G)) C.2.2.2.2.2.2.2 f.2.2.2.2.2.2.2 n2 b2 z34 N34 b34 z35 N35 b35 0 N b0 = some ((fnd, nI (Tr.sz G + 1), nI (Tr.sz G + 1), nI (Tr.sz G + 1), b34', b35', nI (5 * Ts.length), C'.1, f'.1, C'.2.1, f'.2.1, C'.2.2.1, f'.2.2.1, C'.2.2.2.1, f'.2.2.2.1, C'.2.2.2.2.1, f'.2.2.2.2.1, C'.2.2.2.2.2.1, f'.2.2.2.2.2.1, C'.2.2.2.2.2.2.1, f'.2.2.2.2.2.2.1, C'.2.2.2.2.2.2.2, f'.2.2.2.2.2.2.2, N', b'), cc, ss) ∧ cc = c1 + c2 ∧ ss = s1 + s2 ∧ t = Tr.nd lab l ∧ NdS C' f' (Tr.appAt (Tr.nd lab .leaf) G p) ∧ GrowA C C' c1 s1 ∧ VecT N' b' (flT Ts) ∧ Grow N N' c2 s2 ∧ MkIs m N34 b34' mk' ∧ MkIs m N35 b35' ex' ∧ ((b = a + 1 ∧ T.tkd a = 38 ∧ lab = T.lb 34 a ∧ l = .leaf ∧ Ts = [] ∧ mk' = mk ∧ ex' = ex) ∨ ∃ k r c, XF T (Tr.sz G) r (a + k) (b - k) c lab l Ts ∧ VR T r (a + k) (b - k) c t ∧ (∀ i, i < k → T.tkd (a + i) = 50 ∧ T.tkd (b - 1 - i) = 51) ∧ XM a b need k r mk ex mk' ex') := by
  have hle := hT.le
  have hv0 : VecT N b0 (flT []) := ⟨hv.1.clear, hv.2⟩
  unfold F_Mo_buildExpression
  have ea1 : nI a + 1 = nI (a + 1) := nI_add' a 1
  rcases x with ⟨r, x, hn⟩ | ⟨h1, h2, h3⟩
  · have hlt := x.lt
    obtain ⟨k, r', c, g1, g2, g3, g4, g5⟩ := Mo_ar hT hk (q1 := q1) (q2 := q2) (q3 := q3) (q4 := q4) (q5 := q5) (q6 := q6) (q7 := q7) (q8 := q8) (q9 := q9) (q0 := q0) x hb
    have hlt2 := g2.vv.lt
    have hak : nI a + nI k = nI (a + k) := nI_add' a k
    have hbk : nI b - nI k = nI (b - k) := nI_sub' (by omega)
    have hrb := Mo_rb hT hk hr (q1 := q1) (q2 := q2) (q3 := q3) (q4 := q4) (q5 := q5) (q6 := q6) (q7 := q7) (q8 := q8) (q9 := q9) (q0 := q0) g2 (by omega)
    have hmk : mkP a b 0 mk = mk := by
      funext i
      unfold mkP
      rw [if_neg (by omega)]
    have hn' : need ≤ r' ∨ 0 < k ∨ r' = 7 := by
      by_cases hk0 : k = 0
      · have := g4 hk0; omega
      · omega
    have hm := Mo_70 hT hk hp6 hr (q1 := q1) (q2 := q2) (q3 := q3) (q4 := q4) (q5 := q5) (q6 := q6) (q7 := q7) (q8 := q8) (q9 := nI c) (q0 := q0) (z6 := z6) (z34 := z34) (z35 := z35) (N34 := N34) (k := k) (need := need) h hp hz hb g2 hv h0 h35 hnd hn' k 0 FU b34 (by omega) (by unfold FU; omega) (by rw [hmk]; exact h34)
    have go : F_Mo_buildExpression_31 (nI p) (nI a) (nI b) (nI need) q1 q2 q3 q4 q5 q6 q7 q8 q9 q0 N5 a5 z6 N6 a6 (nI (Tr.sz G)) C.1 f.1 (nI (Tr.sz G)) C.2.1 f.2.1 (nI (Tr.sz G)) C.2.2.1 f.2.2.1 (nI (Tr.sz G)) C.2.2.2.1 f.2.2.2.1 (nI (Tr.sz G)) C.2.2.2.2.1 f.2.2.2.2.1 (nI (Tr.sz G)) C.2.2.2.2.2.1 f.2.2.2.2.2.1 (nI (Tr.sz G)) C.2.2.2.2.2.2.1 f.2.2.2.2.2.2.1 (nI (Tr.sz G)) C.2.2.2.2.2.2.2 f.2.2.2.2.2.2.2 n2 b2 z34 N34 b34 z35 N35 b35 0 N b0 = F_Mo_buildExpression_70 (nI p) (nI a) (nI b) (nI need) q1 q2 q3 q4 q5 q6 q7 q8 q0 N5 a5 z6 N6 a6 (nI (Tr.sz G)) C.1 f.1 (nI (Tr.sz G)) C.2.1 f.2.1 (nI (Tr.sz G)) C.2.2.1 f.2.2.1 (nI (Tr.sz G)) C.2.2.2.1 f.2.2.2.1 (nI (Tr.sz G)) C.2.2.2.2.1 f.2.2.2.2.1 (nI (Tr.sz G)) C.2.2.2.2.2.1 f.2.2.2.2.2.1 (nI (Tr.sz G)) C.2.2.2.2.2.2.1 f.2.2.2.2.2.2.1 (nI (Tr.sz G)) C.2.2.2.2.2.2.2 f.2.2.2.2.2.2.2 n2 b2 z34 N34 z35 N35 b35 0 N b0 FU (nI 0) (nI c) (nI r') (nI (b - k)) (nI (a + k)) (nI k) b34 (nI c) := by
      unfold F_Mo_buildExpression_31
      rw [g1, Option.bind_some, hak, hbk, hrb, Option.bind_some]
      rfl
    obtain ⟨C', f', lab, l, Ts, N', b', b34', b35', mk', ex', fnd, cc, ss, c1, s1, c2, s2, w1, w2, w3, w4, w5, w6, w7, w8, w9, w10, w11, w12⟩ := hm
    refine ⟨C', f', lab, l, Ts, N', b', b34', b35', mk', ex', fnd, cc, ss, c1, s1, c2, s2, ?_, w2, w3, w4, w5, w6, w7, w8, w10, w11, Or.inr ⟨k, r', c, w9, g2, g3, w12⟩⟩
    rw [ea1]
    by_cases hb1 : b = a + 1
    · have hE := (x.lay.2.2 rfl).2.1
      rw [hb1, Nat.add_sub_cancel] at hE
      have e38 : (a5 (Int32.toNatClampNeg (nI a)) = 38) = (T.tkd a = 38) := Mo_kd hk (by omega) (p := 38) (by omega)
      rw [if_pos (show nI b = nI (a + 1) by rw [hb1]), Mo_at hk (by omega), Option.bind_some]
      simp only [e38]
      rw [if_neg (show ¬ T.tkd a = 38 by unfold eO at hE; omega), go]
      exact w1
    · rw [if_neg (show ¬ nI b = nI (a + 1) by rw [nI_eq' (by omega) (by omega)]; exact hb1), go]
      exact w1
  · have e38 : (a5 (Int32.toNatClampNeg (nI a)) = 38) = (T.tkd a = 38) := Mo_kd hk (by omega) (p := 38) (by omega)
    rw [ea1, if_pos (show nI b = nI (a + 1) by rw [h1]), Mo_at hk (by omega), Option.bind_some]
    simp only [e38]
    rw [if_pos h2]
    obtain ⟨C', f', c, s, e1, g1, g2⟩ := Mo_leaf hT hp6 (q1 := q1) (q2 := q2) (q3 := q3) (q4 := q4) (q5 := q5) (q6 := q6) (q7 := q7) (q8 := q8) (q9 := q9) (z6 := z6) (k := 34) (i := a) h hp hz (by omega) (T.twd a)
    exact ⟨C', f', T.lb 34 a, .leaf, [], N, b0, b34, b35, mk, ex, q9, _, _, c, s, 0, 0, bw_ok e1 rfl, rfl, rfl, h3, g1, g2, hv0, Grow.rfl, h34, h35, Or.inl ⟨h1, h2, rfl, rfl, rfl, rfl, rfl⟩⟩
end Md
end
