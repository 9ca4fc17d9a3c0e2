section
/-! what stands outside of all brackets -/
/-- the depth behind a token -/
def dpt (k d : Nat) : Nat := if k = 50 ∨ k = 52 then d + 1 else if k = 51 ∨ k = 53 then d - 1 else d
theorem dpt_open {k d : Nat} (h : k = 50 ∨ k = 52) : dpt k d = d + 1 := if_pos h
theorem dpt_close {k d : Nat} (h : k = 51 ∨ k = 53) : dpt k (d + 1) = d := by
  unfold dpt
  rw [if_neg (by omega), if_pos h]; omega
theorem dpt_mid {k d : Nat} (h : k ≠ 50) (h1 : k ≠ 51) (h2 : k ≠ 52) (h3 : k ≠ 53) : dpt k d = d := by
  unfold dpt; rw [if_neg (fun x => x.elim h h2), if_neg (fun x => x.elim h1 h3)]
/-- n tokens from i on, at depth d, end outside of all brackets, and P holds of the kinds that stand outside -/
def TopP (K : Nat → Nat) (P : Nat → Prop) : Nat → Nat → Nat → Prop
  | 0, _, d => d = 0
  | n + 1, i, d => (d = 0 → P (K i)) ∧ (K i = 51 ∨ K i = 53 → 0 < d) ∧ TopP K P n (i + 1) (dpt (K i) d)
theorem TopP.app {K : Nat → Nat} {P : Nat → Prop} : ∀ {n i d m j : Nat}, TopP K P n i d → TopP K P m j 0 → j = i + n → TopP K P (n + m) i d
  | 0, i, d, m, j, h, g, e => by
    have h : d = 0 := h
    subst h e
    rw [Nat.zero_add]; exact g
  | n + 1, i, d, m, j, h, g, e => by
    obtain ⟨h1, h2, h3⟩ := h
    rw [show n + 1 + m = (n + m) + 1 by omega]
    exact ⟨h1, h2, TopP.app h3 g (by omega)⟩
theorem TopP.and {K : Nat → Nat} {P Q : Nat → Prop} : ∀ {n i d : Nat}, TopP K P n i d → TopP K Q n i d → TopP K (fun k => P k ∧ Q k) n i d
  | 0, _, _, h, _ => h
  | _ + 1, _, _, h, g => ⟨fun e => ⟨h.1 e, g.1 e⟩, h.2.1, TopP.and h.2.2 g.2.2⟩
theorem TopP.imp {K : Nat → Nat} {P Q : Nat → Prop} (hq : ∀ k, P k → Q k) : ∀ {n i d : Nat}, TopP K P n i d → TopP K Q n i d
  | 0, _, _, h => h
  | _ + 1, _, _, h => ⟨fun e => hq _ (h.1 e), h.2.1, TopP.imp hq h.2.2⟩
/-- no closing word outside of all brackets -/
def E13 (K : Nat → Nat) (a b : Nat) : Prop := a ≤ b ∧ TopP K (fun k => k ≠ 13) (b - a) a 0
theorem E13.one {K : Nat → Nat} {a : Nat} (h : K a ≠ 13) (h0 : K a ≠ 50) (h1 : K a ≠ 51) (h2 : K a ≠ 52) (h3 : K a ≠ 53) : E13 K a (a + 1) :=
  ⟨Nat.le_succ _, by rw [show a + 1 - a = 0 + 1 by omega]; exact ⟨fun _ => h, fun x => (x.elim h1 h3).elim, dpt_mid h0 h1 h2 h3⟩⟩
theorem E13.trans {K : Nat → Nat} {a b c : Nat} (h : E13 K a b) (g : E13 K b c) : E13 K a c := by
  have h1 := h.1; have g1 := g.1
  refine ⟨by omega, ?_⟩
  rw [show c - a = (b - a) + (c - b) by omega]
  exact h.2.app g.2 (by omega)
/-- one turn of the reading of an expression -/
def Mx.Tp (K : Nat → Nat) (i d : Nat) : Sum Nat (Bool × Mx) → Prop
  | .inl _ => True
  | .inr (true, (_, _, _, _, i', _, _)) => i' = i ∧ d = 0
  | .inr (false, (_, _, _, _, i', _, op')) => i < i' ∧ ∀ n, TopP K (fun k => k ≠ 13) n i' op'.length → TopP K (fun k => k ≠ 13) (n + (i' - i)) i d
theorem Mx.tp_ite {K : Nat → Nat} {i d : Nat} {p : Prop} [Decidable p] {x y : Sum Nat (Bool × Mx)} (h1 : p → Mx.Tp K i d x) (h2 : ¬ p → Mx.Tp K i d y) : Mx.Tp K i d (if p then x else y) := by
  by_cases c : p
  · rw [if_pos c]; exact h1 c
  · rw [if_neg c]; exact h2 c
theorem TopP.s1 {K : Nat → Nat} {i d d' : Nat} (h13 : d = 0 → K i ≠ 13) (hc : K i = 51 ∨ K i = 53 → 0 < d) (e : dpt (K i) d = d') : i < i + 1 ∧ ∀ n, TopP K (fun k => k ≠ 13) n (i + 1) d' → TopP K (fun k => k ≠ 13) (n + (i + 1 - i)) i d :=
  ⟨by omega, fun n h => by rw [show n + (i + 1 - i) = n + 1 by omega]; exact ⟨h13, hc, by rw [e]; exact h⟩⟩
theorem TopP.s2 {K : Nat → Nat} {i d d1 d' : Nat} (h13 : d = 0 → K i ≠ 13) (hc : K i = 51 ∨ K i = 53 → 0 < d) (e : dpt (K i) d = d1) (h13' : d1 = 0 → K (i + 1) ≠ 13) (hc' : K (i + 1) = 51 ∨ K (i + 1) = 53 → 0 < d1) (e' : dpt (K (i + 1)) d1 = d') : i < i + 2 ∧ ∀ n, TopP K (fun k => k ≠ 13) n (i + 2) d' → TopP K (fun k => k ≠ 13) (n + (i + 2 - i)) i d :=
  ⟨by omega, fun n h => by rw [show n + (i + 2 - i) = n + 1 + 1 by omega]; exact ⟨h13, hc, by rw [e]; exact ⟨h13', hc', by rw [e']; exact h⟩⟩⟩
theorem Mx.tp_opn {K : Nat → Nat} {fr co lv c a : Nat} {op : List Ent} (ho : K a = 50 ∨ K a = 52) : Mx.Tp K a op.length (Mx.opn K fr co lv op c a) := by
  have h1 : a < a + 1 ∧ ∀ n, TopP K (fun k => k ≠ 13) n (a + 1) (op.length + 1) → TopP K (fun k => k ≠ 13) (n + (a + 1 - a)) a op.length := TopP.s1 (fun _ => by omega) (by omega) (dpt_open ho)
  refine Mx.tp_ite (fun _ => trivial) fun _ => Mx.tp_ite (fun _ => h1) fun _ => Mx.tp_ite (fun h => Mx.tp_ite (fun _ => ?_) fun _ => trivial) fun _ => h1
  exact TopP.s2 (d1 := op.length + 1) (fun _ => by omega) (by omega) (dpt_open ho) (by omega) (by omega) (dpt_mid (by omega) (by omega) (by omega) (by omega))
theorem Mx.Tp.pre {K : Nat → Nat} {i d : Nat} {x : Sum Nat (Bool × Mx)} (h : Mx.Tp K (i + 1) d x) (h0 : K i ≠ 13) (h1 : K i ≠ 50) (h2 : K i ≠ 51) (h3 : K i ≠ 52) (h4 : K i ≠ 53) (hf : ∀ s, x ≠ .inr (true, s)) : Mx.Tp K i d x := by
  match x, h, hf with
  | .inl _, _, _ => trivial
  | .inr (true, s), _, hf => exact absurd rfl (hf s)
  | .inr (false, (_, _, _, _, i', _, op')), h, _ =>
    have hlt : i + 1 < i' := h.1
    refine ⟨by omega, fun n g => ?_⟩
    have := h.2 n g
    rw [show n + (i' - i) = (n + (i' - (i + 1))) + 1 by omega]
    exact ⟨fun _ => h0, fun x => (x.elim h2 h4).elim, by rw [dpt_mid h1 h2 h3 h4]; exact this⟩
theorem Mx.opn_nf {K : Nat → Nat} {fr co lv c a : Nat} {op : List Ent} (s : Mx) : Mx.opn K fr co lv op c a ≠ .inr (true, s) := by
  unfold Mx.opn
  intro h
  split at h
  · cases h
  · split at h
    · cases h
    · split at h
      · split at h <;> cases h
      · cases h
theorem Mx.mark_ln2 : ∀ {op op' : List Ent}, Mx.mark op = some op' → op'.length = op.length ∧ op ≠ []
  | [], op', h => by cases h
  | (wh, cn, li, co, fr) :: r, op', h => by
    refine ⟨?_, fun x => by cases x⟩
    rw [Mx.mark] at h
    by_cases c : wh = 2
    · rw [if_pos c] at h
      by_cases d : cn ≤ 1
      · rw [if_pos d] at h
        cases h
        rfl
      · rw [if_neg d] at h
        cases h
    · rw [if_neg c] at h
      cases e : Mx.mark r with
      | none => rw [e] at h; cases h
      | some r' =>
        rw [e] at h
        cases h
        rw [List.length_cons, List.length_cons, (Mx.mark_ln2 e).1]
theorem Mx.tp_wnt {K : Nat → Nat} {fr bh co lv i : Nat} {op : List Ent} : Mx.Tp K i op.length (Mx.wnt K fr bh co i lv op) := by
  have mid : K i ≠ 13 → K i ≠ 50 → K i ≠ 51 → K i ≠ 52 → K i ≠ 53 → i < i + 1 ∧ ∀ n, TopP K (fun k => k ≠ 13) n (i + 1) op.length → TopP K (fun k => k ≠ 13) (n + (i + 1 - i)) i op.length := fun a b c d e => TopP.s1 (fun _ => a) (fun x => (x.elim c e).elim) (dpt_mid b c d e)
  unfold Mx.wnt
  refine Mx.tp_ite (fun h => mid (by omega) (by omega) (by omega) (by omega) (by omega)) fun _ => Mx.tp_ite (fun h => Mx.tp_ite (fun _ => trivial) fun _ => mid (by omega) (by omega) (by omega) (by omega) (by omega)) fun _ => Mx.tp_ite (fun h => Mx.tp_opn h) fun _ => Mx.tp_ite (fun h => (Mx.tp_opn (Or.inl h.2)).pre (by omega) (by omega) (by omega) (by omega) (by omega) Mx.opn_nf) fun _ => Mx.tp_ite (fun h => mid (by omega) (by omega) (by omega) (by omega) (by omega)) fun _ => Mx.tp_ite (fun h => ?_) fun _ => trivial
  cases e : Mx.mark op with
  | none => trivial
  | some op' =>
    obtain ⟨h1, h2⟩ := Mx.mark_ln2 e
    have hl : op.length ≠ 0 := fun x => h2 (List.length_eq_zero_iff.mp x)
    exact TopP.s1 (fun x => absurd x hl) (by omega) (by rw [h1]; exact dpt_mid (by omega) (by omega) (by omega) (by omega))
theorem Mx.tp_inB {K : Nat → Nat} {fr bh lv i : Nat} : ∀ {op : List Ent}, Mx.Tp K i op.length (Mx.inB K fr bh i lv op)
  | [] => ⟨rfl, rfl⟩
  | (wh, cn, li, co1, fr1) :: r => by
    have cl : (K i = 51 ∨ K i = 53) → i < i + 1 ∧ ∀ n, TopP K (fun k => k ≠ 13) n (i + 1) r.length → TopP K (fun k => k ≠ 13) (n + (i + 1 - i)) i (r.length + 1) := fun h => TopP.s1 (by omega) (by omega) (dpt_close h)
    have mid : (K i = 54 ∨ K i = 55) → i < i + 1 ∧ ∀ n, TopP K (fun k => k ≠ 13) n (i + 1) (r.length + 1) → TopP K (fun k => k ≠ 13) (n + (i + 1 - i)) i (r.length + 1) := fun h => TopP.s1 (by omega) (by omega) (dpt_mid (by omega) (by omega) (by omega) (by omega))
    rw [Mx.inB]
    refine Mx.tp_ite (fun _ => Mx.tp_ite (fun h => cl (Or.inl h)) fun _ => trivial) fun _ => Mx.tp_ite (fun _ => Mx.tp_ite (fun h => cl (Or.inr h)) fun _ => Mx.tp_ite (fun h => mid h.1) fun _ => trivial) fun _ => Mx.tp_ite (fun h => cl (Or.inl h)) fun _ => Mx.tp_ite (fun h => Mx.tp_ite (fun h3 => Mx.tp_ite (fun _ => Mx.tp_ite (fun _ => ?_) fun _ => trivial) fun _ => trivial) fun _ => mid (Or.inl h.1)) fun _ => trivial
    exact TopP.s2 (d1 := r.length + 1) (by omega) (by omega) (dpt_mid (by omega) (by omega) (by omega) (by omega)) (by omega) (by omega) (dpt_mid (by omega) (by omega) (by omega) (by omega))
theorem rk_kd {k : Nat} (h : 0 < rkM k) : k ≠ 50 ∧ k ≠ 51 ∧ k ≠ 52 ∧ k ≠ 53 ∧ k ≠ 54 ∧ k ≠ 13 := by
  refine ⟨?_, ?_, ?_, ?_, ?_, ?_⟩ <;> (intro e; rw [e] at h; exact absurd h (by decide))
theorem Mx.tp_step {K : Nat → Nat} {w fr bh co i lv : Nat} {op : List Ent} : Mx.Tp K i op.length (Mx.step K (w, fr, bh, co, i, lv, op)) := by
  rw [Mx.step]
  refine Mx.tp_ite (fun _ => Mx.tp_ite (fun h => ?_) fun _ => Mx.tp_ite (fun h => Mx.tp_ite (fun _ => ?_) fun _ => trivial) fun _ => Mx.tp_inB) fun _ => Mx.tp_wnt
  · exact TopP.s1 (by omega) (by omega) (dpt_mid (by omega) (by omega) (by omega) (by omega))
  · obtain ⟨h1, h2, h3, h4, h5, h6⟩ := rk_kd h.1
    exact TopP.s1 (fun _ => h6) (fun x => (x.elim h2 h4).elim) (dpt_mid h1 h2 h3 h4)
theorem Mx.tp_run {K : Nat → Nat} : ∀ (fu w fr bh co i lv : Nat) (op : List Ent) (j l : Nat), Mx.run K fu (w, fr, bh, co, i, lv, op) = .inr (j, l) → i ≤ j ∧ TopP K (fun k => k ≠ 13) (j - i) i op.length
  | 0, _, _, _, _, _, _, _, _, _, h => by cases h
  | fu + 1, w, fr, bh, co, i, lv, op, j, l, h => by
    have h1 := Mx.tp_step (K := K) (w := w) (fr := fr) (bh := bh) (co := co) (i := i) (lv := lv) (op := op)
    rw [Mx.run] at h
    cases e : Mx.step K (w, fr, bh, co, i, lv, op) with
    | inl k => rw [e] at h; cases h
    | inr p =>
      rw [e] at h h1
      match p, h, h1 with
      | (true, (_, _, _, _, i', _, _)), h, h1 =>
        cases h
        obtain ⟨rfl, h2⟩ := h1
        refine ⟨Nat.le_refl _, ?_⟩
        rw [Nat.sub_self]
        exact h2
      | (false, (w', fr', bh', co', i', lv', op')), h, h1 =>
        obtain ⟨h2, h3⟩ := Mx.tp_run fu w' fr' bh' co' i' lv' op' j l h
        have h4 : i < i' := h1.1
        refine ⟨by omega, ?_⟩
        have := h1.2 _ h3
        rw [show j - i' + (i' - i) = j - i by omega] at this
        exact this
end

section
/-! statements -/
/-- n names (or, where tg, nothings) from token a on, commas between -/
def NmL (T : Tks) (tg : Bool) (a : Nat) : Nat → Tr Lb → Prop
  | 0, t => t = .leaf
  | n + 1, t => ∃ t0, NmL T tg a n t0 ∧ (0 < n → T.tkd (a + 2 * n - 1) = 54) ∧ ((T.tkd (a + 2 * n) = 2 ∧ t = Tr.app t0 (Tr.nd (T.lb 32 (a + 2 * n)) .leaf)) ∨ (tg = true ∧ T.tkd (a + 2 * n) = 49 ∧ t = Tr.app t0 (Tr.nd (5, T.tpl (a + 2 * n), -1, 1, nI (a + 2 * n)) .leaf)))
theorem NmL.rt {T : Tks} {tg : Bool} {a : Nat} : ∀ {n : Nat} {t : Tr Lb}, NmL T tg a n t → Tr.rt t = n
  | 0, t, h => by rw [show t = .leaf from h]; rfl
  | n + 1, t, h => by
    obtain ⟨t0, h1, h2, h3⟩ := h
    have := h1.rt
    rcases h3 with ⟨_, h⟩ | ⟨_, _, h⟩ <;> (rw [h, Tr.rt_app, this]; rfl)
theorem NmL.sz {T : Tks} {tg : Bool} {a : Nat} : ∀ {n : Nat} {t : Tr Lb}, NmL T tg a n t → Tr.sz t = n
  | 0, t, h => by rw [show t = .leaf from h]; rfl
  | n + 1, t, h => by
    obtain ⟨t0, h1, h2, h3⟩ := h
    have := h1.sz
    rcases h3 with ⟨_, h⟩ | ⟨_, _, h⟩ <;> (rw [h, Tr.sz_app, this]; rfl)
/-- a block's node, behind the token c -/
def Tks.blk (T : Tks) (c : Nat) : Lb := (3, T.tpl c, -1, 0, -1)
/-- a list of names that stands at token c -/
def Tks.nms (T : Tks) (c : Nat) : Lb := (2, T.tpl c, -1, 0, -1)
def wordK (k : Nat) : Prop := 10 ≤ k ∧ k < 24
/-- a function's head from token a to its last bracket c: its name, results, parameters -/
def FHd (T : Tks) (a nm c : Nat) (R Q : Tr Lb) : Prop :=
  T.tkd a = 19 ∧ ((T.tkd (a + 1) = 52 ∧ ∃ n, 0 < n ∧ NmL T false (a + 2) n R ∧ T.tkd (a + 2 * n + 1) = 53 ∧ T.tkd (a + 2 * n + 2) = 56 ∧ nm = a + 2 * n + 3) ∨ (T.tkd (a + 1) = 2 ∧ T.tkd (a + 2) = 56 ∧ R = Tr.nd (T.lb 32 (a + 1)) .leaf ∧ nm = a + 3) ∨ (R = .leaf ∧ nm = a + 1)) ∧ T.tkd nm = 2 ∧ T.tkd (nm + 1) = 50 ∧ ∃ n, NmL T false (nm + 2) n Q ∧ c = (if n = 0 then nm + 2 else nm + 2 * n + 1) ∧ T.tkd c = 51
/-- one step of the statements' grammar: mode 0 a statement, 1 statements, 2 an if with its branches so far -/
def SS (T : Tks) (P : Nat → Nat → Nat → Tr Lb → Prop) : Nat → Nat → Nat → Tr Lb → Prop
  | 0, a, b, t =>
    (b = a + 2 ∧ T.tkd (a + 1) = 55 ∧ ((T.tkd a = 16 ∧ t = Tr.nd (T.lb 15 a) .leaf) ∨ (T.tkd a = 17 ∧ t = Tr.nd (T.lb 16 a) .leaf) ∨ (T.tkd a = 18 ∧ t = Tr.nd (T.lb 17 a) .leaf)))
    ∨ (∃ b' l, b = b' + 1 ∧ T.tkd b' = 55 ∧ VV T 2 0 (a + 1) b' l ∧ E13 T.tkd (a + 1) b' ∧ ((T.tkd a = 20 ∧ t = Tr.nd (T.lb 18 a) l) ∨ (T.tkd a = 21 ∧ t = Tr.nd (T.lb 19 a) l)))
    ∨ (∃ b' r l, b = b' + 1 ∧ T.tkd b' = 55 ∧ ¬ wordK (T.tkd a) ∧ VV T 0 r a b' l ∧ E13 T.tkd a b' ∧ t = Tr.nd (T.lb 20 a) l)
    ∨ (∃ g b' r1 r2 t1 t2, b = b' + 1 ∧ T.tkd b' = 55 ∧ T.tkd g = 56 ∧ T.tkd a = 2 ∧ VV T 0 r1 a g t1 ∧ VV T 0 r2 (g + 1) b' t2 ∧ E13 T.tkd a g ∧ E13 T.tkd (g + 1) b' ∧ t = Tr.nd (21, T.tpl g, T.tpl a, T.twd g, nI g) (Tr.app t1 t2))
    ∨ (∃ n l g c l2, T.tkd a = 52 ∧ 0 < n ∧ NmL T true (a + 1) n l ∧ T.tkd (a + 2 * n) = 53 ∧ g = a + 2 * n + 1 ∧ T.tkd g = 56 ∧ T.tkd (g + 1) = 2 ∧ T.tkd (g + 2) = 50 ∧ ((c = g + 3 ∧ l2 = .leaf) ∨ VV T 2 0 (g + 3) c l2) ∧ T.tkd c = 51 ∧ T.tkd (c + 1) = 55 ∧ b = c + 2 ∧ t = Tr.nd (10, T.tpl g, T.tpl a, T.twd g, nI g) (Tr.app (Tr.nd (T.nms a) l) (Tr.nd (33, T.tpl (g + 1), T.tpl (g + 2), T.twd (g + 1), nI (g + 1)) l2)))
    ∨ (∃ d l, T.tkd a = 10 ∧ P 2 a d l ∧ ((T.tkd d = 13 ∧ b = d + 1 ∧ t = Tr.nd (T.lb 11 a) l) ∨ (T.tkd d = 12 ∧ ∃ e S, P 1 (d + 1) e S ∧ T.tkd e = 13 ∧ b = e + 1 ∧ t = Tr.nd (T.lb 11 a) (Tr.app l (Tr.nd (T.blk d) S)))))
    ∨ (∃ c r l e S, T.tkd a = 14 ∧ T.tkd (a + 1) = 50 ∧ VV T 0 r (a + 2) c l ∧ T.tkd c = 51 ∧ P 1 (c + 1) e S ∧ T.tkd e = 13 ∧ b = e + 1 ∧ t = Tr.nd (T.lb 12 a) (Tr.app l (Tr.nd (T.blk c) S)))
    ∨ (∃ c r l e S, T.tkd a = 15 ∧ T.tkd (a + 1) = 50 ∧ T.tkd (a + 2) = 2 ∧ T.tkd (a + 3) = 56 ∧ VV T 0 r (a + 4) c l ∧ T.tkd c = 51 ∧ P 1 (c + 1) e S ∧ T.tkd e = 13 ∧ b = e + 1 ∧ t = Tr.nd (T.lb 13 a) (Tr.app (Tr.nd (T.lb 32 (a + 2)) .leaf) (Tr.app l (Tr.nd (T.blk c) S))))
    ∨ (∃ c e S1 S2, T.tkd a = 22 ∧ P 1 (a + 1) c S1 ∧ T.tkd c = 23 ∧ P 1 (c + 1) e S2 ∧ T.tkd e = 13 ∧ b = e + 1 ∧ t = Tr.nd (T.lb 14 a) (Tr.app (Tr.nd (T.blk a) S1) (Tr.nd (T.blk c) S2)))
    ∨ (∃ nm c e R Q S, FHd T a nm c R Q ∧ P 1 (c + 1) e S ∧ T.tkd e = 13 ∧ b = e + 1 ∧ t = Tr.nd (1, T.tpl a, -1, T.twd nm, nI nm) (Tr.app (Tr.nd (T.nms nm) R) (Tr.app (Tr.nd (T.nms (nm + 1)) Q) (Tr.nd (T.blk c) S))))
  | 1, a, b, t => (b = a ∧ t = .leaf) ∨ ∃ m t1 t2, P 1 a m t1 ∧ P 0 m b t2 ∧ t = Tr.app t1 t2
  | 2, a, d, l => (∃ c r e S, T.tkd (a + 1) = 50 ∧ VV T 0 r (a + 2) c e ∧ T.tkd c = 51 ∧ P 1 (c + 1) d S ∧ l = Tr.app e (Tr.nd (T.blk c) S)) ∨ ∃ m c r e S l1, P 2 a m l1 ∧ T.tkd m = 11 ∧ T.tkd (m + 1) = 50 ∧ VV T 0 r (m + 2) c e ∧ T.tkd c = 51 ∧ P 1 (c + 1) d S ∧ l = Tr.app l1 (Tr.app e (Tr.nd (T.blk c) S))
  | _, _, _, _ => False
theorem SS.mono {T : Tks} {P Q : Nat → Nat → Nat → Tr Lb → Prop} (h : ∀ md a b t, P md a b t → Q md a b t) : ∀ {md a b : Nat} {t : Tr Lb}, SS T P md a b t → SS T Q md a b t
  | 0, a, b, t, x => by
    rcases x with x | x | x | x | x | ⟨d, l, x1, x2, x3⟩ | ⟨c, r, l, e, S, x1, x2, x3, x4, x5, x6⟩ | ⟨c, r, l, e, S, x1, x2, x3, x4, x5, x6, x7, x8⟩ | ⟨c, e, S1, S2, x1, x2, x3, x4, x5⟩ | ⟨nm, c, e, R, Q', S, x1, x2, x3⟩
    · exact Or.inl x
    · exact Or.inr (Or.inl x)
    · exact Or.inr (Or.inr (Or.inl x))
    · exact Or.inr (Or.inr (Or.inr (Or.inl x)))
    · exact Or.inr (Or.inr (Or.inr (Or.inr (Or.inl x))))
    · refine Or.inr (Or.inr (Or.inr (Or.inr (Or.inr (Or.inl ⟨d, l, x1, h _ _ _ _ x2, ?_⟩)))))
      rcases x3 with x3 | ⟨x3, e, S, x4, x5⟩
      · exact Or.inl x3
      · exact Or.inr ⟨x3, e, S, h _ _ _ _ x4, x5⟩
    · exact Or.inr (Or.inr (Or.inr (Or.inr (Or.inr (Or.inr (Or.inl ⟨c, r, l, e, S, x1, x2, x3, x4, h _ _ _ _ x5, x6⟩))))))
    · exact Or.inr (Or.inr (Or.inr (Or.inr (Or.inr (Or.inr (Or.inr (Or.inl ⟨c, r, l, e, S, x1, x2, x3, x4, x5, x6, h _ _ _ _ x7, x8⟩)))))))
    · exact Or.inr (Or.inr (Or.inr (Or.inr (Or.inr (Or.inr (Or.inr (Or.inr (Or.inl ⟨c, e, S1, S2, x1, h _ _ _ _ x2, x3, h _ _ _ _ x4, x5⟩))))))))
    · exact Or.inr (Or.inr (Or.inr (Or.inr (Or.inr (Or.inr (Or.inr (Or.inr (Or.inr ⟨nm, c, e, R, Q', S, x1, h _ _ _ _ x2, x3⟩))))))))
  | 1, a, b, t, x => by
    rcases x with x | ⟨m, t1, t2, x1, x2, x3⟩
    · exact Or.inl x
    · exact Or.inr ⟨m, t1, t2, h _ _ _ _ x1, h _ _ _ _ x2, x3⟩
  | 2, a, b, t, x => by
    rcases x with ⟨c, r, e, S, x1, x2, x3, x4, x5⟩ | ⟨m, c, r, e, S, l1, x1, x2, x3, x4, x5, x6, x7⟩
    · exact Or.inl ⟨c, r, e, S, x1, x2, x3, h _ _ _ _ x4, x5⟩
    · exact Or.inr ⟨m, c, r, e, S, l1, h _ _ _ _ x1, x2, x3, x4, x5, h _ _ _ _ x6, x7⟩
  | _ + 3, a, b, t, x => x.elim
/-- what the tokens from a to b - 1 stand for -/
def SV (T : Tks) (md a b : Nat) (t : Tr Lb) : Prop := ∀ Q : Nat → Nat → Nat → Tr Lb → Prop, (∀ md a b t, SS T Q md a b t → Q md a b t) → Q md a b t
theorem SV.mk {T : Tks} {md a b : Nat} {t : Tr Lb} (x : SS T (SV T) md a b t) : SV T md a b t := fun Q h => h _ _ _ _ (SS.mono (fun _ _ _ _ y => y Q h) x)
theorem SV.unfold {T : Tks} {md a b : Nat} {t : Tr Lb} (x : SV T md a b t) : SS T (SV T) md a b t := x (SS T (SV T)) (fun _ _ _ _ y => SS.mono (fun _ _ _ _ z => SV.mk z) y)
theorem SV.nil {T : Tks} {a : Nat} : SV T 1 a a .leaf := SV.mk (Or.inl ⟨rfl, rfl⟩)
theorem SV.snoc {T : Tks} {a m b : Nat} {t1 t2 : Tr Lb} (x : SV T 1 a m t1) (y : SV T 0 m b t2) : SV T 1 a b (Tr.app t1 t2) := SV.mk (Or.inr ⟨m, t1, t2, x, y, rfl⟩)
/-- a block frame f that token a opened, whose block stands behind token c; L: its parts before -/
def BlkO (T : Tks) (f : Fm) (kd a c : Nat) (L : Tr Lb) : Prop :=
  f.pl = T.tpl a ∧ f.ipl = T.tpl c ∧ f.pa = nI (Tr.rt L) ∧ f.wb = 0 ∧ f.sg = 0 ∧ f.tg = 0 ∧
  ((kd = 10 ∧ f.k = 11 ∧ f.lb = 0 ∧ f.wd = T.twd a ∧ T.tkd a = 10 ∧ ((T.tkd (a + 1) = 50 ∧ T.tkd c = 51 ∧ ∃ r, VV T 0 r (a + 2) c L) ∨ ∃ m l1 r e, SV T 2 a m l1 ∧ T.tkd m = 11 ∧ T.tkd (m + 1) = 50 ∧ VV T 0 r (m + 2) c e ∧ T.tkd c = 51 ∧ L = Tr.app l1 e))
  ∨ (kd = 12 ∧ f.k = 11 ∧ f.lb = 1 ∧ f.wd = T.twd a ∧ T.tkd a = 10 ∧ SV T 2 a c L ∧ T.tkd c = 12)
  ∨ (kd = 14 ∧ f.k = 12 ∧ f.lb = 0 ∧ f.wd = T.twd a ∧ T.tkd a = 14 ∧ T.tkd (a + 1) = 50 ∧ T.tkd c = 51 ∧ ∃ r, VV T 0 r (a + 2) c L)
  ∨ (kd = 15 ∧ f.k = 13 ∧ f.lb = 0 ∧ f.wd = T.twd a ∧ T.tkd a = 15 ∧ T.tkd (a + 1) = 50 ∧ T.tkd (a + 2) = 2 ∧ T.tkd (a + 3) = 56 ∧ T.tkd c = 51 ∧ ∃ r e, VV T 0 r (a + 4) c e ∧ L = Tr.app (Tr.nd (T.lb 32 (a + 2)) .leaf) e)
  ∨ (kd = 22 ∧ f.k = 14 ∧ f.lb = 0 ∧ f.wd = T.twd a ∧ T.tkd a = 22 ∧ c = a ∧ L = .leaf)
  ∨ (kd = 23 ∧ f.k = 14 ∧ f.lb = 1 ∧ f.wd = T.twd a ∧ T.tkd a = 22 ∧ T.tkd c = 23 ∧ ∃ S, SV T 1 (a + 1) c S ∧ L = Tr.nd (T.blk a) S)
  ∨ (kd = 19 ∧ f.k = 1 ∧ f.lb = 0 ∧ ∃ nm R Q, FHd T a nm c R Q ∧ f.wd = T.twd nm ∧ L = Tr.app (Tr.nd (T.nms nm) R) (Tr.nd (T.nms (nm + 1)) Q)))
/-- the open blocks, the latest first, at the beginning of a statement at token i -/
def BI (T : Tks) : List Fm → List Nat → Nat → Tr Lb → Prop
  | [], _, _, _ => False
  | [f], [], i, X => f.k = 0 ∧ f.ip = nI (Tr.rt X) ∧ SV T 1 0 i X ∧ f.tg = 0
  | f :: r, kd :: bl, i, X => ∃ a c L S X0, BI T r bl a X0 ∧ BlkO T f kd a c L ∧ SV T 1 (c + 1) i S ∧ f.ip = nI (Tr.rt S) ∧ X = Tr.app X0 (Tr.app L S)
  | _, _, _, _ => False
end

section
/-- levels: as many as at the start, and one for each sign and bracket -/
def Mx.Lv (lv0 : Nat) : Mx → Prop
  | (w, fr, _, _, _, lv, op) => lv = lv0 + fr + op.length + (op.map (fun e => e.2.2.2.2)).sum ∧ (w = 0 → fr = 0)
def Mx.Lo (lv0 : Nat) : Sum Nat (Bool × Mx) → Prop
  | .inl _ => True
  | .inr (true, (_, _, _, _, _, lv, _)) => lv = lv0
  | .inr (false, s) => Mx.Lv lv0 s
theorem Mx.lo_ite {lv0 : Nat} {p : Prop} [Decidable p] {x y : Sum Nat (Bool × Mx)} (h1 : p → Mx.Lo lv0 x) (h2 : ¬ p → Mx.Lo lv0 y) : Mx.Lo lv0 (if p then x else y) := by
  by_cases c : p
  · rw [if_pos c]; exact h1 c
  · rw [if_neg c]; exact h2 c
theorem Mx.lo_opn {K : Nat → Nat} {lv0 fr co lv c a : Nat} {op : List Ent} (h : lv = lv0 + fr + op.length + (op.map (fun e => e.2.2.2.2)).sum) : Mx.Lo lv0 (Mx.opn K fr co lv op c a) := by
  have e : ∀ cn li, lv + 1 = lv0 + 0 + (((c, cn, li, co, fr) : Ent) :: op).length + ((((c, cn, li, co, fr) : Ent) :: op).map (fun e => e.2.2.2.2)).sum := by
    intro cn li
    show lv + 1 = lv0 + 0 + (op.length + 1) + (fr + (op.map (fun e => e.2.2.2.2)).sum)
    omega
  unfold Mx.opn
  exact Mx.lo_ite (fun _ => trivial) fun _ => Mx.lo_ite (fun _ => ⟨e 0 0, fun _ => rfl⟩) fun _ => Mx.lo_ite (fun _ => Mx.lo_ite (fun _ => ⟨e 1 1, fun _ => rfl⟩) fun _ => trivial) fun _ => ⟨e 0 0, fun _ => rfl⟩
theorem Mx.lo_step {K : Nat → Nat} {lv0 w fr bh co i lv : Nat} {op : List Ent} (h : Mx.Lv lv0 (w, fr, bh, co, i, lv, op)) : Mx.Lo lv0 (Mx.step K (w, fr, bh, co, i, lv, op)) := by
  obtain ⟨h1, h2⟩ := h
  rw [Mx.step]
  refine Mx.lo_ite (fun c => Mx.lo_ite (fun _ => ⟨h1, fun _ => h2 c⟩) fun _ => Mx.lo_ite (fun _ => Mx.lo_ite (fun _ => ⟨h1, fun x => absurd x (by decide)⟩) fun _ => trivial) fun _ => ?_) fun c => ?_
  · have hfr := h2 c
    match op, h1 with
    | [], h1 =>
      show lv = lv0
      have h1 : lv = lv0 + fr + 0 + 0 := h1
      omega
    | (wh, cn, li, co1, fr1) :: r, h1 =>
      have h1 : lv = lv0 + fr + (r.length + 1) + (fr1 + (r.map (fun e => e.2.2.2.2)).sum) := h1
      have pop : Mx.Lo lv0 (.inr (false, (0, 0, bh, co1, i + 1, lv - fr1 - 1, r))) := ⟨by omega, fun _ => rfl⟩
      have nw : ∀ w n l2 j, Mx.Lo lv0 (.inr (false, (w, fr, 0, 0, j, lv, (wh, n, l2, co1, fr1) :: r))) := fun w n l2 j => ⟨h1, fun _ => hfr⟩
      rw [Mx.inB]
      exact Mx.lo_ite (fun _ => Mx.lo_ite (fun _ => pop) fun _ => trivial) fun _ => Mx.lo_ite (fun _ => Mx.lo_ite (fun _ => pop) fun _ => Mx.lo_ite (fun _ => nw _ _ _ _) fun _ => trivial) fun _ => Mx.lo_ite (fun _ => pop) fun _ => Mx.lo_ite (fun _ => Mx.lo_ite (fun _ => Mx.lo_ite (fun _ => Mx.lo_ite (fun _ => nw _ _ _ _) fun _ => trivial) fun _ => trivial) fun _ => nw _ _ _ _) fun _ => trivial
  · unfold Mx.wnt
    refine Mx.lo_ite (fun _ => ⟨h1, fun x => absurd x (by decide)⟩) fun _ => Mx.lo_ite (fun _ => Mx.lo_ite (fun _ => trivial) fun _ => ⟨by show lv + 1 = lv0 + (fr + 1) + _ + _; omega, fun x => absurd x (by decide)⟩) fun _ => Mx.lo_ite (fun _ => Mx.lo_opn h1) fun _ => Mx.lo_ite (fun _ => Mx.lo_opn h1) fun _ => Mx.lo_ite (fun _ => ⟨by show lv - fr = lv0 + 0 + _ + _; omega, fun _ => rfl⟩) fun _ => Mx.lo_ite (fun _ => ?_) fun _ => trivial
    have hl := Mx.mark_len op
    have hs : match Mx.mark op with | none => True | some op' => (op'.map (fun e => e.2.2.2.2)).sum = (op.map (fun e => e.2.2.2.2)).sum := by
      have : ∀ op : List Ent, match Mx.mark op with | none => True | some op' => (op'.map (fun e => e.2.2.2.2)).sum = (op.map (fun e => e.2.2.2.2)).sum := by
        intro op
        induction op with
        | nil => trivial
        | cons e r ih =>
          obtain ⟨wh, cn, li, co, fr⟩ := e
          rw [Mx.mark]
          by_cases c : wh = 2
          · rw [if_pos c]
            by_cases d : cn ≤ 1
            · rw [if_pos d]; rfl
            · rw [if_neg d]; trivial
          · rw [if_neg c]
            cases e : Mx.mark r with
            | none => trivial
            | some op' =>
              rw [e] at ih
              show fr + (op'.map (fun e => e.2.2.2.2)).sum = fr + (r.map (fun e => e.2.2.2.2)).sum
              rw [ih]
      exact this op
    cases e : Mx.mark op with
    | none => trivial
    | some op' =>
      rw [e] at hl hs
      have hl : op'.length = op.length := hl
      exact ⟨by show lv - fr = lv0 + 0 + op'.length + (op'.map (fun e => e.2.2.2.2)).sum; rw [hs]; omega, fun _ => rfl⟩
theorem Mx.lo_run {K : Nat → Nat} {lv0 : Nat} : ∀ (fu : Nat) (s : Mx), Mx.Lv lv0 s → match Mx.run K fu s with | .inl _ => True | .inr (_, lv) => lv = lv0
  | 0, _, _ => trivial
  | fu + 1, (w, fr, bh, co, i, lv, op), h => by
    have h1 := Mx.lo_step (K := K) h
    rw [Mx.run]
    cases e : Mx.step K (w, fr, bh, co, i, lv, op) with
    | inl j => trivial
    | inr p =>
      rw [e] at h1
      match p, h1 with
      | (true, (_, _, _, _, _, _, _)), h1 => exact h1
      | (false, s'), h1 => exact Mx.lo_run fu s' h1
/-- the reference's reading of an expression at i -/
def rdE (K : Nat → Nat) (i lv : Nat) : Sum Nat (Nat × Nat) := Mx.run K FU (1, 0, 0, 0, i, lv, [])
theorem rdE_13 {K : Nat → Nat} {i lv j l : Nat} (h : rdE K i lv = .inr (j, l)) : E13 K i j := Mx.tp_run FU 1 0 0 0 i lv [] j l h
section Sim
variable {T : Tks} {B : Bs} {sm : Int32 → Int32 → Int32 → Bool} {m : Nat}
/-- the machine stops at token j -/
def FltN (T : Tks) (sm : Int32 → Int32 → Int32 → Bool) (i j : Nat) (s : Rs) : Prop := i ≤ j ∧ ∃ s', Rs.nxs T sm (j - i) i s = some s' ∧ s'.stands (tokC T j) sm = none ∧ NB T j s'
/-- the machine goes from token i to token j -/
def GoN (T : Tks) (sm : Int32 → Int32 → Int32 → Bool) (i j : Nat) (s s' : Rs) : Prop := i ≤ j ∧ Rs.nxs T sm (j - i) i s = some s'
theorem GoN.rfl {i : Nat} {s : Rs} : GoN T sm i i s s := ⟨Nat.le_refl _, by rw [Nat.sub_self]; exact Eq.refl _⟩
theorem GoN.trans {i j k : Nat} {s s' s'' : Rs} (h1 : GoN T sm i j s s') (h2 : GoN T sm j k s' s'') : GoN T sm i k s s'' := by
  refine ⟨Nat.le_trans h1.1 h2.1, ?_⟩
  have a := h1.1
  have b := h2.1
  rw [show k - i = (j - i) + (k - j) by omega, nxs_add, h1.2, Option.bind_some, show i + (j - i) = j by omega]
  exact h2.2
theorem GoN.one {i : Nat} {s s1 : Rs} (h : s.stands (tokC T i) sm = some s1) : GoN T sm i (i + 1) s (s1.settle (tokC T (i + 1))) :=
  ⟨Nat.le_succ _, by rw [show i + 1 - i = 1 by omega]; exact nx_one h⟩
theorem GoN.flt {i j k : Nat} {s s' : Rs} (h1 : GoN T sm i j s s') (h2 : FltN T sm j k s') : FltN T sm i k s := by
  obtain ⟨h3, s2, h4, h5⟩ := h2
  have a := h1.1
  refine ⟨Nat.le_trans h1.1 h3, s2, ?_, h5⟩
  rw [show k - i = (j - i) + (k - j) by omega, nxs_add, h1.2, Option.bind_some, show i + (j - i) = j by omega]
  exact h4
theorem FltN.now {i : Nat} {s : Rs} (h : s.stands (tokC T i) sm = none) (hn : NB T i s := by first | (intro h _ _ _; omega) | (intro _ h; simp only [Rs.mode] at h; first | done | exact absurd h (by decide))) : FltN T sm i i s := ⟨Nat.le_refl _, s, by rw [Nat.sub_self]; rfl, h, hn⟩
/-- the machine goes from token i, settled, to token j, not yet settled -/
def GoS (T : Tks) (sm : Int32 → Int32 → Int32 → Bool) (i j : Nat) (s s' : Rs) : Prop := ∃ z, i < j ∧ GoN T sm i (j - 1) s z ∧ z.stands (tokC T (j - 1)) sm = some s'
theorem GoS.one {i : Nat} {s s1 : Rs} (h : s.stands (tokC T i) sm = some s1) : GoS T sm i (i + 1) s s1 :=
  ⟨s, Nat.lt_succ_self i, GoN.rfl, h⟩
theorem GoN.transS {i j k : Nat} {s s' s'' : Rs} (h1 : GoN T sm i j s s') (h2 : GoS T sm j k s' s'') : GoS T sm i k s s'' := by
  obtain ⟨z, a1, a2, a3⟩ := h2
  have := h1.1
  exact ⟨z, by omega, h1.trans a2, a3⟩
theorem GoS.go {i j : Nat} {s s' : Rs} (h : GoS T sm i j s s') : GoN T sm i j s (s'.settle (tokC T j)) := by
  obtain ⟨z, a1, a2, a3⟩ := h
  have h1 := a2.trans (GoN.one a3)
  rw [show j - 1 + 1 = j by omega] at h1
  exact h1
/-- where the base's expression begins -/
theorem ER.base {i lv : Nat} (hi : i < m) (hlv : lv ≤ 60) (ha : B.b0.k = 20 → T.tkd i ≠ 52) (hst : B.b0.k = 52 → B.b0.pa = 0 → T.tkd i ≠ 51) (hd : B.bd.length ≤ i) : ER T B i m (1, 0, 0, 0, i, lv, []) (B.st T (if T.tkd i = 51 ∨ T.tkd i = 53 ∨ T.tkd i = 38 then 30 else 31) lv 0 [] .leaf []) := by
  refine ⟨[], [], [], i, .leaf, hi, hlv, fun f hf => absurd hf List.not_mem_nil, fun h1 h2 => absurd h2 (ha h1), Nat.le_refl _, Or.inl ⟨rfl, rfl, ⟨rfl, rfl⟩, .leaf, _, ⟨rfl, rfl⟩, ?_, rfl, ?_⟩⟩
  · show B.bd.length + 0 + 0 + 0 + 0 ≤ i; omega
  · by_cases c : T.tkd i = 51 ∨ T.tkd i = 53 ∨ T.tkd i = 38
    · rw [if_pos c]
      exact Or.inr (Or.inr (Or.inr ⟨rfl, rfl, rfl, c, hst⟩))
    · rw [if_neg c]
      exact Or.inl ⟨rfl, rfl, Nat.zero_le _⟩
/-- an expression in a base frame, from a state of the reading on -/
theorem expr_go (hT : TkOK T m) {a i lv w fr bh co : Nat} {op : List Ent} {s : Rs} (hB : BsOK T B a) (hI : Mx.MI m T.tkd w fr bh co i lv op) (hE : ER T B a m (w, fr, bh, co, i, lv, op) s) {fu lv0 : Nat} (hL : Mx.Lv lv0 (w, fr, bh, co, i, lv, op)) (hf : m - i < fu) :
    match Mx.run T.tkd fu (w, fr, bh, co, i, lv, op) with
    | .inl j => j < m ∧ FltN T sm i j s
    | .inr (j, lv') => lv' = lv0 ∧ j < m ∧ T.tkd j ≠ 48 ∧ rkM (T.tkd j) = 0 ∧ ∃ t ρ s', VV T 0 ρ a j t ∧ B.bd.length + Tr.sz t ≤ j ∧ GoN T sm i j s s' ∧ s'.stands (tokC T j) sm = Rs.afterW (B.st T 34 lv0 0 [] t []) (tokC T j) 0 ∧ s'.mode = 34 := by
  have h1 := sim_run (sm := sm) hT hB fu hI hE hf
  have h2 := Mx.lo_run (K := T.tkd) fu _ hL
  cases e : Mx.run T.tkd fu (w, fr, bh, co, i, lv, op) with
  | inl j =>
    rw [e] at h1
    obtain ⟨h3, h4, s', h5, h6⟩ := h1
    exact ⟨h4, h3, s', h5, h6⟩
  | inr p =>
    obtain ⟨j, lv'⟩ := p
    rw [e] at h1 h2
    have h2 : lv' = lv0 := h2
    subst h2
    obtain ⟨h3, s', bh', co', h5, h6, h7, h8⟩ := h1
    obtain ⟨es, Ws, W, c, X, hi, hlv, htg, ha0, hai, h | h | h | h⟩ := h6
    · exact absurd h.1 (by decide)
    · obtain ⟨_, _, hco, hch, hp1, hp2, hp3, k, Y, t, ρ, hp, hv, h9, hsz, hs⟩ := h
      subst hs
      obtain ⟨t', ρ', hv', hsz', hst⟩ := to_elem (sm := sm) (lv := lv') hT hB hi htg hch hp hv h9 hsz h7 h8
      match es, Ws, hch, h5, hst, hsz' with
      | [], [], hch, h5, hst, hsz' =>
        obtain ⟨rfl, rfl⟩ := hch
        refine ⟨rfl, hi, h7, h8, t', ρ', _, hv', ?_, ⟨h3, h5⟩, hst, rfl⟩
        have : B.bd.length + 0 + Tr.sz t' + 0 + 0 ≤ j := hsz'
        omega
    · obtain ⟨_, _, _, _, _, _, f, es', cn, co1, fr1, op', _, _, hop, _⟩ := h
      cases hop
    · obtain ⟨_, _, _, _, hch, _, _, f, es', he, _⟩ := h
      subst he
      exact hch.elim
/-- an expression from its beginning -/
theorem expr_run (hT : TkOK T m) {i lv : Nat} (hB : BsOK T B i) (hi : i < m) (hlv : lv ≤ 60) (ha : B.b0.k = 20 → T.tkd i ≠ 52) (hst : B.b0.k = 52 → B.b0.pa = 0 → T.tkd i ≠ 51) (hd : B.bd.length ≤ i) :
    match rdE T.tkd i lv with
    | .inl j => j < m ∧ FltN T sm i j (B.st T (if T.tkd i = 51 ∨ T.tkd i = 53 ∨ T.tkd i = 38 then 30 else 31) lv 0 [] .leaf [])
    | .inr (j, lv') => lv' = lv ∧ j < m ∧ T.tkd j ≠ 48 ∧ rkM (T.tkd j) = 0 ∧ ∃ t ρ s', VV T 0 ρ i j t ∧ B.bd.length + Tr.sz t ≤ j ∧ GoN T sm i j (B.st T (if T.tkd i = 51 ∨ T.tkd i = 53 ∨ T.tkd i = 38 then 30 else 31) lv 0 [] .leaf []) s' ∧ s'.stands (tokC T j) sm = Rs.afterW (B.st T 34 lv 0 [] t []) (tokC T j) 0 ∧ s'.mode = 34 := by
  have hle := hT.le
  refine expr_go hT hB ⟨hi, by omega, fun h => absurd h (by decide), by omega, by omega, hlv, ?_, fun e he => absurd he List.not_mem_nil⟩ (ER.base hi hlv ha hst hd) ⟨?_, fun h => absurd h (by decide)⟩ (by unfold FU; omega)
  · show 0 + 0 + 0 ≤ lv; omega
  · show lv = lv + 0 + 0 + 0; omega
end Sim
end

section
theorem BlkO.ip {T : Tks} {f : Fm} {kd a c : Nat} {L : Tr Lb} (h : BlkO T f kd a c L) (v : Int32) : BlkO T (f.s_ip v) kd a c L := h
/-- a statement more in the innermost block -/
theorem BI.add {T : Tks} {i i' : Nat} {t : Tr Lb} (ht : SV T 0 i i' t) (h1 : Tr.rt t = 1) : ∀ {f : Fm} {r : List Fm} {bl : List Nat} {X : Tr Lb}, BI T (f :: r) bl i X → BI T (f.s_ip (f.ip + 1) :: r) bl i' (Tr.app X t)
  | f, [], [], X, h => by
    obtain ⟨h2, h3, h4, h5⟩ := h
    refine ⟨h2, ?_, h4.snoc ht, h5⟩
    show f.ip + 1 = _
    rw [h3, Tr.rt_app, h1]
    exact nI_add' _ 1
  | f, [], kd :: bl, X, h => by
    obtain ⟨a, c, L, S, X0, h2, _⟩ := h
    exact h2.elim
  | f, g :: r, [], X, h => h.elim
  | f, g :: r, kd :: bl, X, h => by
    obtain ⟨a, c, L, S, X0, h2, h3, h4, h5, h6⟩ := h
    refine ⟨a, c, L, Tr.app S t, X0, h2, h3, h4.snoc ht, ?_, ?_⟩
    · show f.ip + 1 = _
      rw [h5, Tr.rt_app, h1]
      exact nI_add' _ 1
    · rw [h6]; simp only [Tr.app_assoc]
theorem BI.top {T : Tks} {i : Nat} : ∀ {f : Fm} {r : List Fm} {bl : List Nat} {X : Tr Lb}, BI T (f :: r) bl i X → (bl = [] ∧ r = [] ∧ f.k = 0) ∨ (f.k = 1 ∨ f.k = 11 ∨ f.k = 12 ∨ f.k = 13 ∨ f.k = 14)
  | f, [], [], X, h => Or.inl ⟨rfl, rfl, h.1⟩
  | f, [], kd :: bl, X, h => by
    obtain ⟨a, c, L, S, X0, h2, _⟩ := h
    exact h2.elim
  | f, g :: r, [], X, h => h.elim
  | f, g :: r, kd :: bl, X, h => by
    obtain ⟨a, c, L, S, X0, h2, h3, _⟩ := h
    obtain ⟨_, _, _, _, _, _, h⟩ := h3
    refine Or.inr ?_
    rcases h with h | h | h | h | h | h | h
    · exact Or.inr (Or.inl h.2.1)
    · exact Or.inr (Or.inl h.2.1)
    · exact Or.inr (Or.inr (Or.inl h.2.1))
    · exact Or.inr (Or.inr (Or.inr (Or.inl h.2.1)))
    · exact Or.inr (Or.inr (Or.inr (Or.inr h.2.1)))
    · exact Or.inr (Or.inr (Or.inr (Or.inr h.2.1)))
    · exact Or.inl h.2.1
theorem BI.ne {T : Tks} {i : Nat} {bl : List Nat} {X : Tr Lb} : ∀ {l : List Fm}, BI T l bl i X → l ≠ []
  | [], h => h.elim
  | _ :: _, _ => List.cons_ne_nil _ _
/-- loops that are open -/
def lpN : List Nat → Nat
  | [] => 0
  | k :: bl => lpN bl + (if k = 14 ∨ k = 15 then 1 else 0)
theorem lpN_le : ∀ bl : List Nat, lpN bl ≤ bl.length
  | [] => Nat.le_refl _
  | k :: bl => by
    have := lpN_le bl
    show lpN bl + (if k = 14 ∨ k = 15 then 1 else 0) ≤ bl.length + 1
    split <;> omega
/-- a function stands at the bottom alone -/
def BlOK : List Nat → Prop
  | [] => True
  | k :: bl => (k = 19 → bl = []) ∧ BlOK bl
def fnW (T : Tks) (q : Nat) : Wt := (10, T.tpl q, -1, T.twd q)
/-- the machine's state at the beginning of a statement: what stands, the innermost frame, those around it -/
def SRs (T : Tks) (bl fs : List Nat) (X : Tr Lb) (f : Fm) (r : List Fm) : Rs := (0, nI bl.length, 0, nI (lpN bl), f, r, Tr.pn X, [], fs.map (fnW T))
def SR (T : Tks) (m i : Nat) (bl fs : List Nat) (s : Rs) : Prop := ∃ X f r, s = SRs T bl fs X f r ∧ BI T (f :: r) bl i X ∧ Tr.sz X + bl.length ≤ i ∧ bl.length ≤ 60 ∧ BlOK bl ∧ i < m ∧ fs.length ≤ i ∧ ∀ q ∈ fs, q < i
def StR (T : Tks) (sm : Int32 → Int32 → Int32 → Bool) (m i : Nat) (s : Rs) : Sum Nat (Nat × List Nat × List Nat) → Prop
  | .inl j => j < m ∧ FltN T sm i j (s.settle (tokC T i))
  | .inr (i', bl', fs') => ∃ s', GoS T sm i i' (s.settle (tokC T i)) s' ∧ SR T m i' bl' fs' s'
section Stm
variable {T : Tks} {sm : Int32 → Int32 → Int32 → Bool} {m : Nat}
theorem tk_word {i : Nat} (h : wordK (T.tkd i)) : Rs.isWordK (nI (ck (T.tkd i))) = true := by
  have : ∀ k, k < 24 → 10 ≤ k → Rs.isWordK (nI (ck k)) = true := by decide +kernel
  exact this _ h.2 h.1
theorem tk_noword (hT : TkOK T m) {i : Nat} (h : ¬ wordK (T.tkd i)) : Rs.isWordK (nI (ck (T.tkd i))) = false := by
  have hk := hT.ok i
  have : ((List.range 57).all fun k => !(decide (kOK k)) || (decide (10 ≤ k) && decide (k < 24)) || !(Rs.isWordK (nI (ck k)))) = true := by decide +kernel
  have := List.all_eq_true.mp this (T.tkd i) (List.mem_range.mpr hk.lt)
  rw [decide_eq_true hk] at this
  have h2 : (decide (10 ≤ T.tkd i) && decide (T.tkd i < 24)) = false := by
    rw [Bool.and_eq_false_iff, decide_eq_false_iff_not, decide_eq_false_iff_not]
    by_cases c : 10 ≤ T.tkd i
    · exact Or.inr (fun d => h ⟨c, d⟩)
    · exact Or.inl c
  rw [h2] at this
  simpa using this
/-- a word settles nothing -/
theorem se_word {i : Nat} (h : wordK (T.tkd i)) {l sg lp : Int32} {f : Fm} {r : List Fm} {d : List Nd} {w fn : List Wt} : Rs.settle (0, l, sg, lp, f, r, d, w, fn) (tokC T i) = (0, l, sg, lp, f, r, d, w, fn) := by
  show Rs.settle2 (if (0 : Int32) = 0 ∧ Rs.isWordK (nI (ck (T.tkd i))) = false then (Rs.push (0, l, sg, lp, f, r, d, w, fn) (tokC T i) 20).s_mode 30 else (0, l, sg, lp, f, r, d, w, fn)) (tokC T i) = _
  rw [if_neg (show ¬ ((0 : Int32) = 0 ∧ Rs.isWordK (nI (ck (T.tkd i))) = false) from fun x => by rw [tk_word h] at x; exact absurd x.2 (by decide))]
  rfl
/-- any other token begins a statement of its own -/
theorem se_alone (hT : TkOK T m) {i : Nat} (h : ¬ wordK (T.tkd i)) {l lp : Int32} {f : Fm} {r : List Fm} {d : List Nd} {fn : List Wt} : Rs.settle (0, l, 0, lp, f, r, d, [], fn) (tokC T i) = ((if T.tkd i = 51 ∨ T.tkd i = 53 ∨ T.tkd i = 38 then 30 else 31), l, 0, lp, fm_0 20 (T.tpl i) (T.twd i), f :: r, d, [], fn) := by
  show Rs.settle2 (if (0 : Int32) = 0 ∧ Rs.isWordK (nI (ck (T.tkd i))) = false then (Rs.push (0, l, 0, lp, f, r, d, [], fn) (tokC T i) 20).s_mode 30 else (0, l, 0, lp, f, r, d, [], fn)) (tokC T i) = _
  rw [if_pos (show (0 : Int32) = 0 ∧ Rs.isWordK (nI (ck (T.tkd i))) = false from ⟨rfl, tk_noword hT h⟩)]
  have := se_30 (l := l) (sg := 0) (lp := lp) (f := fm_0 20 (T.tpl i) (T.twd i)) (r := f :: r) (d := d) (w := []) (fn := fn) (t := tokC T i) (Or.inl rfl)
  rw [show (tokC T i).k = nI (ck (T.tkd i)) from rfl, tk_mode hT, seF_base (show (20 : Int32) ≠ 36 by decide) rfl] at this
  rw [← this]
  rfl
theorem se_no {md l sg lp : Int32} {f : Fm} {r : List Fm} {d : List Nd} {w fn : List Wt} {t : Tok} (h : md = 1 ∨ md = 2 ∨ md = 3 ∨ md = 4 ∨ md = 10 ∨ md = 11 ∨ md = 12 ∨ md = 13 ∨ md = 14 ∨ md = 15 ∨ md = 16 ∨ md = 17 ∨ md = 18 ∨ md = 19 ∨ md = 20 ∨ md = 21 ∨ md = 22 ∨ md = 23 ∨ md = 24 ∨ md = 25) : Rs.settle (md, l, sg, lp, f, r, d, w, fn) t = (md, l, sg, lp, f, r, d, w, fn) := by
  rcases h with rfl | rfl | rfl | rfl | rfl | rfl | rfl | rfl | rfl | rfl | rfl | rfl | rfl | rfl | rfl | rfl | rfl | rfl | rfl | rfl <;> rfl
/-- a statement has ended -/
theorem SR.next {i i' : Nat} {bl fs : List Nat} {X t : Tr Lb} {f : Fm} {r : List Fm} (hb : BI T (f :: r) bl i X) (hs : Tr.sz X + bl.length ≤ i) (hbl : bl.length ≤ 60) (hok : BlOK bl) (hf : fs.length ≤ i) (hf2 : ∀ q ∈ fs, q < i) (hi : i' < m) (ht : SV T 0 i i' t) (h1 : Tr.rt t = 1) (hz : Tr.sz t + i ≤ i') : SR T m i' bl fs (SRs T bl fs (Tr.app X t) (f.s_ip (f.ip + 1)) r) :=
  ⟨_, _, _, rfl, BI.add ht h1 hb, by rw [Tr.sz_app]; omega, hbl, hok, hi, by omega, fun q hq => by have := hf2 q hq; omega⟩
theorem stm_word (hT : TkOK T m) {i : Nat} {bl fs : List Nat} {s : Rs} (hR : SR T m i bl fs s) (hk : T.tkd i = 16 ∨ T.tkd i = 17 ∨ T.tkd i = 18) : StR T sm m i s (if (T.tkd i = 16 ∨ T.tkd i = 17) ∧ lpN bl = 0 then .inl i else if T.tkd (i + 1) = 55 then .inr (i + 2, bl, fs) else .inl (i + 1)) := by
  obtain ⟨X, f, r, hs, hb, hsz, hbl, hok, hi, hf, hf2⟩ := hR
  subst hs
  have hle := hT.le
  have hi1 : i + 1 < m := hT.go hi (by omega)
  have hlp := lpN_le bl
  have hse : (SRs T bl fs X f r).settle (tokC T i) = SRs T bl fs X f r := se_word (by unfold wordK; omega)
  -- the word's own step
  have s1 : ∀ kd : Int32, ((T.tkd i = 16 ∧ kd = 15) ∨ (T.tkd i = 17 ∧ kd = 16) ∨ (T.tkd i = 18 ∧ kd = 17)) → (SRs T bl fs X f r).stands (tokC T i) sm = if (T.tkd i = 16 ∨ T.tkd i = 17) ∧ lpN bl = 0 then none else some (1, nI bl.length, 0, nI (lpN bl), f, r, Tr.pn (Tr.app X (Tr.nd (T.lb kd i) .leaf)), [], fs.map (fnW T)) := by
    intro kd hkd
    have hn : Rs.nadd (Tr.pn X) kd (T.tpl i) (-1) 0 (T.twd i) = Tr.pn (Tr.app X (Tr.nd (T.lb kd i) .leaf)) := nadd_leaf (nI i) (by omega)
    have hl0 : (nI (lpN bl) ≤ 0) = (lpN bl = 0) := by
      rw [show (0 : Int32) = nI 0 from rfl, nI_le' (by omega) (by omega)]
      exact propext ⟨fun h => by omega, fun h => by omega⟩
    rcases hkd with ⟨h, rfl⟩ | ⟨h, rfl⟩ | ⟨h, rfl⟩
    · rw [tokC_of h]
      show (if nI (lpN bl) ≤ 0 then none else some ((1, nI bl.length, 0, nI (lpN bl), f, r, Rs.nadd (Tr.pn X) 15 (T.tpl i) (-1) 0 (T.twd i), [], fs.map (fnW T)) : Rs)) = _
      rw [hn]
      by_cases c : lpN bl = 0
      · rw [if_pos (by rw [hl0]; exact c), if_pos ⟨Or.inl h, c⟩]
      · rw [if_neg (by rw [hl0]; exact c), if_neg (fun x => c x.2)]
    · rw [tokC_of h]
      show (if nI (lpN bl) ≤ 0 then none else some ((1, nI bl.length, 0, nI (lpN bl), f, r, Rs.nadd (Tr.pn X) 16 (T.tpl i) (-1) 0 (T.twd i), [], fs.map (fnW T)) : Rs)) = _
      rw [hn]
      by_cases c : lpN bl = 0
      · rw [if_pos (by rw [hl0]; exact c), if_pos ⟨Or.inr h, c⟩]
      · rw [if_neg (by rw [hl0]; exact c), if_neg (fun x => c x.2)]
    · rw [tokC_of h]
      show some ((1, nI bl.length, 0, nI (lpN bl), f, r, Rs.nadd (Tr.pn X) 17 (T.tpl i) (-1) 0 (T.twd i), [], fs.map (fnW T)) : Rs) = _
      rw [hn, if_neg (fun x => by omega)]
  obtain ⟨kd, hkd, hsv⟩ : ∃ kd : Int32, ((T.tkd i = 16 ∧ kd = 15) ∨ (T.tkd i = 17 ∧ kd = 16) ∨ (T.tkd i = 18 ∧ kd = 17)) ∧ (T.tkd (i + 1) = 55 → SV T 0 i (i + 2) (Tr.nd (T.lb kd i) .leaf)) := by
    rcases hk with h | h | h
    · exact ⟨15, Or.inl ⟨h, rfl⟩, fun h2 => SV.mk (Or.inl ⟨rfl, h2, Or.inl ⟨h, rfl⟩⟩)⟩
    · exact ⟨16, Or.inr (Or.inl ⟨h, rfl⟩), fun h2 => SV.mk (Or.inl ⟨rfl, h2, Or.inr (Or.inl ⟨h, rfl⟩)⟩)⟩
    · exact ⟨17, Or.inr (Or.inr ⟨h, rfl⟩), fun h2 => SV.mk (Or.inl ⟨rfl, h2, Or.inr (Or.inr ⟨h, rfl⟩)⟩)⟩
  have s1 := s1 kd hkd
  by_cases c : (T.tkd i = 16 ∨ T.tkd i = 17) ∧ lpN bl = 0
  · rw [if_pos c] at s1 ⊢
    exact ⟨hi, by rw [hse]; exact FltN.now s1⟩
  · rw [if_neg c] at s1 ⊢
    have g1 := GoN.one s1
    rw [se_no (Or.inl rfl)] at g1
    by_cases d : T.tkd (i + 1) = 55
    · rw [if_pos d]
      have hi2 : i + 2 < m := hT.go hi1 (by omega)
      refine ⟨SRs T bl fs (Tr.app X (Tr.nd (T.lb kd i) .leaf)) (f.s_ip (f.ip + 1)) r, ?_, SR.next hb hsz hbl hok hf hf2 hi2 (hsv d) rfl (by simp only [Tr.sz]; omega)⟩
      rw [hse]
      refine g1.transS (GoS.one (s1 := SRs T bl fs (Tr.app X (Tr.nd (T.lb kd i) .leaf)) (f.s_ip (f.ip + 1)) r) ?_)
      rw [tokC_of d]
      rfl
    · rw [if_neg d]
      refine ⟨hi1, ?_⟩
      rw [hse]
      refine g1.flt (FltN.now ?_)
      show (if nI (ck (T.tkd (i + 1))) = (59 : Int32) then _ else none) = none
      exact if_neg (tk_ne hT (j := 55) rfl d)
end Stm
end

section
/-- the reference's reading of several expressions, n of which stand -/
def rdSev (K : Nat → Nat) : Nat → Nat → Nat → Nat → Sum Nat (Nat × Nat)
  | 0, _, _, _ => .inl 0
  | fu + 1, n, i, lv => match rdE K i lv with
    | .inl j => .inl j
    | .inr (j, lv') => if K j = 54 then (if n + 1 = 8 then .inl j else rdSev K fu (n + 1) (j + 1) lv') else .inr (j, lv')
theorem rdSev_13 {K : Nat → Nat} : ∀ {fu n i lv j l : Nat}, rdSev K fu n i lv = .inr (j, l) → E13 K i j
  | 0, _, _, _, _, _, h => by cases h
  | fu + 1, n, i, lv, j, l, h => by
    rw [rdSev] at h
    cases e : rdE K i lv with
    | inl k => rw [e] at h; cases h
    | inr p =>
      obtain ⟨k, lv'⟩ := p
      rw [e] at h
      have h : (if K k = 54 then (if n + 1 = 8 then .inl k else rdSev K fu (n + 1) (k + 1) lv') else .inr (k, lv') : Sum Nat (Nat × Nat)) = .inr (j, l) := h
      by_cases c : K k = 54
      · rw [if_pos c] at h
        by_cases d : n + 1 = 8
        · rw [if_pos d] at h; cases h
        · rw [if_neg d] at h
          exact (rdE_13 e).trans ((E13.one (by omega) (by omega) (by omega) (by omega) (by omega)).trans (rdSev_13 h))
      · rw [if_neg c] at h
        cases h
        exact rdE_13 e
theorem aw_commaB {md l sg lp : Int32} {f : Fm} {r : List Fm} {d : List Nd} {w fn : List Wt} {p v : Int32} (h : f.k = 18 ∨ f.k = 19 ∨ f.k = 52) (h2 : f.lim = 0) : Rs.afterW (md, l, sg, lp, f, r, d, w, fn) (44, p, v) 0 = if f.pa + 1 < 8 then some (30, l, sg, lp, f.s_pa (f.pa + 1), r, d, w, fn) else none := by
  show (if f.k = 36 then _ else if Rs.isCallK f.k = false ∧ f.k ≠ 18 ∧ f.k ≠ 19 then none else if f.pa + 1 < (if f.lim ≠ 0 then 2 else 8) then some (30, l, sg, lp, f.s_pa (f.pa + 1), r, d, w, fn) else none) = _
  rw [if_neg (by rcases h with h | h | h <;> (rw [h]; decide)), if_neg (by rcases h with h | h | h <;> (rw [h]; decide)), show (if f.lim ≠ 0 then (2 : Int32) else 8) = 8 from if_neg (fun x => x h2)]
section Stm
variable {T : Tks} {sm : Int32 → Int32 → Int32 → Bool} {m : Nat}
theorem sev_run (hT : TkOK T m) {lp : Int32} {bs : List Fm} {fn : List Wt} {D0 : List Nd} {a0 lv : Nat} (hlv : lv ≤ 60) : ∀ (fu n i : Nat) (A : Tr Lb) (b0 : Fm), m - i < fu → i < m → b0.tg = 0 → b0.wb = 0 → b0.lim = 0 → (b0.k = 18 ∨ b0.k = 19 ∨ b0.k = 52) → b0.pa = nI n → n ≤ 7 → ((n = 0 ∧ A = .leaf ∧ i = a0) ∨ ∃ c, i = c + 1 ∧ VV T 2 0 a0 c A ∧ T.tkd c = 54) → Tr.rt A = n → D0.length + Tr.sz A ≤ i → (b0.k = 52 → n = 0 → T.tkd i ≠ 51) →
    match rdSev T.tkd fu n i lv with
    | .inl j => j < m ∧ FltN T sm i j (Bs.st (lp, b0, bs, D0 ++ Tr.pn A, fn) T (if T.tkd i = 51 ∨ T.tkd i = 53 ∨ T.tkd i = 38 then 30 else 31) lv 0 [] .leaf [])
    | .inr (j, lv') => lv' = lv ∧ j < m ∧ T.tkd j ≠ 48 ∧ rkM (T.tkd j) = 0 ∧ T.tkd j ≠ 54 ∧ ∃ n' A' s', n' ≤ 7 ∧ Tr.rt A' = n' + 1 ∧ VV T 2 0 a0 j A' ∧ D0.length + Tr.sz A' ≤ j ∧ GoN T sm i j (Bs.st (lp, b0, bs, D0 ++ Tr.pn A, fn) T (if T.tkd i = 51 ∨ T.tkd i = 53 ∨ T.tkd i = 38 then 30 else 31) lv 0 [] .leaf []) s' ∧ s'.stands (tokC T j) sm = Rs.afterW (34, nI lv, nI 0, lp, b0.s_pa (nI n'), bs, D0 ++ Tr.pn A', [], fn) (tokC T j) 0 ∧ s'.mode = 34
  | 0, n, i, A, b0, h, _, _, _, _, _, _, _, _, _, _, _ => by omega
  | fu + 1, n, i, A, b0, hf, hi, htg, hwb, hlim, hk, hpa, hn, hA, hrt, hsz, h51 => by
    have hle := hT.le
    have hB : BsOK T ((lp, b0, bs, D0 ++ Tr.pn A, fn) : Bs) i := ⟨htg, hwb, by rcases hk with h | h | h <;> (first | exact Or.inl h | exact Or.inr (Or.inl h) | exact Or.inr (Or.inr (Or.inr (Or.inr (Or.inr h))))), fun h => by
      have h : b0.k = 20 := h
      rcases hk with h2 | h2 | h2 <;> (rw [h] at h2; exact absurd h2 (by decide)), fun h => by
      have h : b0.k = 20 := h
      rcases hk with h2 | h2 | h2 <;> (rw [h] at h2; exact absurd h2 (by decide))⟩
    have h1 := expr_run (sm := sm) hT (B := (lp, b0, bs, D0 ++ Tr.pn A, fn)) (lv := lv) hB hi hlv (fun h => by
      have h : b0.k = 20 := h
      rcases hk with h2 | h2 | h2 <;> (rw [h] at h2; exact absurd h2 (by decide))) (fun h h2 => h51 h (by
      have h2 : b0.pa = 0 := h2
      rw [hpa, show (0 : Int32) = nI 0 from rfl, nI_eq' (by omega) (by omega)] at h2
      exact h2)) (by
      show (D0 ++ Tr.pn A).length ≤ i
      rw [List.length_append, Tr.pn_len]; exact hsz)
    rw [rdSev]
    cases e : rdE T.tkd i lv with
    | inl j => rw [e] at h1; exact h1
    | inr p =>
      obtain ⟨j, lv'⟩ := p
      rw [e] at h1
      obtain ⟨rfl, hj, hj48, hjr, t, ρ, s', hv, hsz2, hgo, hst, hmd⟩ := h1
      have hij := hv.lt
      have hsz2 : (D0 ++ Tr.pn A).length + Tr.sz t ≤ j := hsz2
      rw [List.length_append, Tr.pn_len] at hsz2
      have hA' : VV T 2 0 a0 j (Tr.app A t) := by
        rcases hA with ⟨_, h2, h3⟩ | ⟨c, h2, h3, h4⟩
        · subst h2 h3
          exact VV.mk (Or.inl (Or.inl ⟨ρ, hv⟩))
        · subst h2
          exact VV.mk (Or.inr ⟨c, A, t, h4, h3, Or.inl ⟨ρ, hv⟩, rfl⟩)
      have hst : s'.stands (tokC T j) sm = Rs.afterW (34, nI lv', nI 0, lp, b0, bs, D0 ++ Tr.pn (Tr.app A t), [], fn) (tokC T j) 0 := by
        rw [hst, Tr.pn_app, ← List.append_assoc]
        rfl
      show (match (if T.tkd j = 54 then (if n + 1 = 8 then .inl j else rdSev T.tkd fu (n + 1) (j + 1) lv') else .inr (j, lv') : Sum Nat (Nat × Nat)) with
        | .inl j => _
        | .inr (j, lv2) => _)
      by_cases c : T.tkd j = 54
      · rw [if_pos c]
        have hj1 : j + 1 < m := hT.go hj (by omega)
        have hp1 : b0.pa + 1 = nI (n + 1) := by rw [hpa]; exact nI_add' n 1
        rw [tokC_of c] at hst
        have hst2 := hst.trans (aw_commaB hk hlim)
        rw [hp1] at hst2
        by_cases d : n + 1 = 8
        · rw [if_pos d]
          rw [if_neg (show ¬ nI (n + 1) < 8 by rw [d]; decide), ← tokC_of c] at hst2
          exact ⟨hj, hgo.flt (FltN.now hst2)⟩
        · rw [if_neg d]
          rw [if_pos (show nI (n + 1) < 8 by rw [show (8 : Int32) = nI 8 from rfl, nI_lt' (by omega) (by omega)]; omega), ← tokC_of c] at hst2
          have g2 := GoN.one hst2
          rw [se_30 (f := b0.s_pa (nI (n + 1))) (Or.inl htg), show (tokC T (j + 1)).k = nI (ck (T.tkd (j + 1))) from rfl, tk_mode hT, seF_base (f := b0.s_pa (nI (n + 1))) (show b0.k ≠ 36 by rcases hk with h | h | h <;> (rw [h]; decide)) htg] at g2
          have g3 : GoN T sm i (j + 1) (Bs.st (lp, b0, bs, D0 ++ Tr.pn A, fn) T (if T.tkd i = 51 ∨ T.tkd i = 53 ∨ T.tkd i = 38 then 30 else 31) lv' 0 [] .leaf []) (Bs.st (lp, b0.s_pa (nI (n + 1)), bs, D0 ++ Tr.pn (Tr.app A t), fn) T (if T.tkd (j + 1) = 51 ∨ T.tkd (j + 1) = 53 ∨ T.tkd (j + 1) = 38 then 30 else 31) lv' 0 [] .leaf []) := by
            refine hgo.trans ?_
            have e0 : Bs.st (lp, b0.s_pa (nI (n + 1)), bs, D0 ++ Tr.pn (Tr.app A t), fn) T (if T.tkd (j + 1) = 51 ∨ T.tkd (j + 1) = 53 ∨ T.tkd (j + 1) = 38 then 30 else 31) lv' 0 [] .leaf [] = ((if T.tkd (j + 1) = 51 ∨ T.tkd (j + 1) = 53 ∨ T.tkd (j + 1) = 38 then 30 else 31), nI lv', nI 0, lp, b0.s_pa (nI (n + 1)), bs, D0 ++ Tr.pn (Tr.app A t), [], fn) := by
              show (_, nI lv', nI 0, lp, b0.s_pa (nI (n + 1)), bs, (D0 ++ Tr.pn (Tr.app A t)) ++ [], [], fn) = _
              rw [List.append_nil]
            rw [e0]
            exact g2
          have ih := sev_run hT (lp := lp) (bs := bs) (fn := fn) (D0 := D0) (a0 := a0) hlv fu (n + 1) (j + 1) (Tr.app A t) (b0.s_pa (nI (n + 1))) (by omega) hj1 htg hwb hlim hk rfl (by omega) (Or.inr ⟨j, rfl, hA', c⟩) (by rw [Tr.rt_app, hrt, hv.rt1]) (by rw [Tr.sz_app]; omega) (fun _ h => by omega)
          cases er : rdSev T.tkd fu (n + 1) (j + 1) lv' with
          | inl j2 =>
            rw [er] at ih
            exact ⟨ih.1, g3.flt ih.2⟩
          | inr q =>
            obtain ⟨j2, lv2⟩ := q
            rw [er] at ih
            obtain ⟨i1, i2, i3, i4, i5, n', A', s2, i6, i7, i8, i9, i10, i11⟩ := ih
            exact ⟨i1, i2, i3, i4, i5, n', A', s2, i6, i7, i8, i9, g3.trans i10, i11⟩
      · rw [if_neg c]
        refine ⟨rfl, hj, hj48, hjr, c, n, Tr.app A t, s', hn, by rw [Tr.rt_app, hrt, hv.rt1], hA', by rw [Tr.sz_app]; omega, hgo, ?_⟩
        rw [hst]
        have : b0.s_pa (nI n) = b0 := by
          rcases b0 with ⟨k, pl, wd, sec, pa, ip, ipl, iw, sg, wb, lim, tg, lb⟩
          have hpa : pa = nI n := hpa
          subst hpa
          rfl
        rw [this]
        exact ⟨rfl, hmd⟩
end Stm
end

section
theorem aw_noB {md l sg lp : Int32} {f : Fm} {r : List Fm} {d : List Nd} {w fn : List Wt} {k p v : Int32} (h33 : f.k ≠ 33) (h50 : f.k ≠ 50) (h36 : f.k ≠ 36) (h58 : k ≠ 58) (h41 : k ≠ 41 ∨ (f.k ≠ 51 ∧ f.k ≠ 52)) (h44 : k ≠ 44 ∨ (f.k ≠ 18 ∧ f.k ≠ 19 ∧ f.k ≠ 52)) (h59 : k ≠ 59 ∨ (f.k ≠ 18 ∧ f.k ≠ 19 ∧ f.k ≠ 20 ∧ f.k ≠ 21)) (h61 : k ≠ 61 ∨ f.k ≠ 20) : Rs.afterW (md, l, sg, lp, f, r, d, w, fn) (k, p, v) 0 = none := by
  unfold Rs.afterW
  by_cases c41 : k = 41
  · obtain ⟨h51, h52⟩ := h41.resolve_left (fun x => x c41)
    rw [if_pos (show (k, p, v).1 = 41 from c41)]
    show (if f.k = 33 then _ else if f.k = 50 then _ else if f.k = 51 then _ else if f.k = 52 then _ else none) = none
    rw [if_neg h33, if_neg h50, if_neg h51, if_neg h52]
  · rw [if_neg (show ¬ (k, p, v).1 = 41 from c41)]
    by_cases c44 : k = 44
    · obtain ⟨k18, k19, k52⟩ := h44.resolve_left (fun x => x c44)
      rw [if_pos (show (k, p, v).1 = 44 from c44)]
      show (if f.k = 36 then _ else if Rs.isCallK f.k = false ∧ f.k ≠ 18 ∧ f.k ≠ 19 then none else _) = none
      rw [if_neg h36, if_pos]
      refine ⟨?_, k18, k19⟩
      unfold Rs.isCallK
      simp only [Bool.or_eq_false_iff, beq_eq_false_iff_ne]
      exact ⟨h33, k52⟩
    · rw [if_neg (show ¬ (k, p, v).1 = 44 from c44), if_neg (show ¬ (k, p, v).1 = 58 from h58)]
      by_cases c59 : k = 59
      · obtain ⟨k18, k19, k20, k21⟩ := h59.resolve_left (fun x => x c59)
        rw [if_pos (show (k, p, v).1 = 59 from c59)]
        show (if f.k = 18 then _ else if f.k = 19 then _ else if f.k = 20 then _ else if f.k = 21 then _ else if f.k = 36 then _ else none) = none
        rw [if_neg k18, if_neg k19, if_neg k20, if_neg k21, if_neg h36]
      · rw [if_neg (show ¬ (k, p, v).1 = 59 from c59)]
        by_cases c61 : k = 61
        · have k20 := h61.resolve_left (fun x => x c61)
          rw [if_pos (show (k, p, v).1 = 61 from c61)]
          show (if f.k = 20 then _ else none) = none
          rw [if_neg k20]
        · rw [if_neg (show ¬ (k, p, v).1 = 61 from c61)]
          by_cases c93 : k = 93
          · rw [if_pos (show (k, p, v).1 = 93 from c93)]
            show (if f.k = 36 then _ else none) = none
            rw [if_neg h36]
          · rw [if_neg (show ¬ (k, p, v).1 = 93 from c93), if_pos rfl]
theorem aw_semiV {md l sg lp : Int32} {f g : Fm} {r : List Fm} {d : List Nd} {w fn : List Wt} {p v : Int32} (h : f.k = 18 ∨ f.k = 19) : Rs.afterW (md, l, sg, lp, f, g :: r, d, w, fn) (59, p, v) 0 = some (0, l, f.sg, lp, g.s_ip (g.ip + 1), r, Rs.nadd d f.k f.pl f.sec (f.pa + 1) f.wd, w, fn) := by
  show (if f.k = 18 then some (Rs.endPlain (md, l, sg, lp, f, g :: r, d, w, fn) (f.pa + 1)) else if f.k = 19 then some (Rs.endPlain (md, l, sg, lp, f, g :: r, d, w, fn) (f.pa + 1)) else _) = _
  by_cases c : f.k = 18
  · rw [if_pos c]; rfl
  · rw [if_neg c, if_pos (h.resolve_left c)]; rfl
theorem aw_semiA {md l sg lp : Int32} {f g : Fm} {r : List Fm} {d : List Nd} {w fn : List Wt} {p v m : Int32} (h : (f.k = 20 ∧ m = 1) ∨ (f.k = 21 ∧ m = 2)) : Rs.afterW (md, l, sg, lp, f, g :: r, d, w, fn) (59, p, v) 0 = some (0, l, f.sg, lp, g.s_ip (g.ip + 1), r, Rs.nadd d f.k f.pl f.sec m f.wd, w, fn) := by
  show (if f.k = 18 then _ else if f.k = 19 then _ else if f.k = 20 then some (Rs.endPlain (md, l, sg, lp, f, g :: r, d, w, fn) 1) else if f.k = 21 then some (Rs.endPlain (md, l, sg, lp, f, g :: r, d, w, fn) 2) else _) = _
  rcases h with ⟨h, rfl⟩ | ⟨h, rfl⟩
  · rw [if_neg (by rw [h]; decide), if_neg (by rw [h]; decide), if_pos h]; rfl
  · rw [if_neg (by rw [h]; decide), if_neg (by rw [h]; decide), if_neg (by rw [h]; decide), if_pos h]; rfl
theorem Vx.szle {T : Tks} : ∀ {f md r a b : Nat} {t : Tr Lb}, Vx T f md r a b t → Tr.sz t + a ≤ b + (if md = 3 then 1 else 0)
  | 0, _, _, _, _, _, x => x.elim
  | f + 1, 0, r, a, b, t, x => by
    rw [if_neg (by decide)]
    rcases x with ⟨_, x, y⟩ | ⟨x1, x2, b', x3, x4, r', x⟩ | ⟨x1, x2, x3, b', x4, x5, l, x6, x⟩ | ⟨x1, x2, b', x3, x4, l, x5, x⟩ | ⟨x1, b', x2, x3, r', l, x4, x, x5⟩ | ⟨x1, x2, r', l, x3, x, x4⟩ | ⟨x1, x2, m, x3, r1, t1, t2, x4, x, y, x5⟩ | ⟨x1, m, x2, r1, r2, t1, t2, x3, x4, x, y, x5⟩ | ⟨x1, m, m2, x2, x3, r1, r2, r3, t1, t2, t3, x4, x5, x6, x, y, w, x7⟩
    · rcases y with ⟨_, y⟩ | ⟨_, y⟩ | ⟨_, y⟩ | ⟨_, y⟩ <;> (rw [y]; simp only [Tr.sz]; omega)
    · have := Vx.szle x; rw [if_neg (by decide)] at this; omega
    · rw [x6]; simp only [Tr.sz]
      rcases x with ⟨x, y⟩ | x
      · rw [y]; simp only [Tr.sz]; omega
      · have := Vx.szle x; rw [if_neg (by decide)] at this; omega
    · rw [x5]; simp only [Tr.sz]
      rcases x with ⟨x, y⟩ | x
      · rw [y]; simp only [Tr.sz]; omega
      · have := Vx.szle x; rw [if_pos rfl] at this; omega
    · have := Vx.szle x; rw [if_neg (by decide)] at this; rw [x5]; simp only [Tr.sz]; omega
    · have := Vx.szle x; rw [if_neg (by decide)] at this; rw [x4]; simp only [Tr.sz]; omega
    · have h1 := Vx.szle x; rw [if_neg (by decide)] at h1
      rw [x5]; simp only [Tr.sz]; rw [Tr.sz_app]
      rcases y with ⟨r2, _, y⟩ | ⟨_, _, r3, l, _, y, z⟩
      · have := Vx.szle y; rw [if_neg (by decide)] at this; omega
      · have := Vx.szle y; rw [if_neg (by decide)] at this; rw [z]; simp only [Tr.sz]; omega
    · have h1 := Vx.szle x; rw [if_neg (by decide)] at h1
      have h2 := Vx.szle y; rw [if_neg (by decide)] at h2
      rw [x5]; simp only [Tr.sz]; rw [Tr.sz_app]; omega
    · have h1 := Vx.szle x; rw [if_neg (by decide)] at h1
      have h2 := Vx.szle y; rw [if_neg (by decide)] at h2
      have h3 := Vx.szle w; rw [if_neg (by decide)] at h3
      rw [x7]; simp only [Tr.sz]; rw [Tr.sz_app, Tr.sz_app]; omega
  | f + 1, 1, r, a, b, t, x => by
    rw [if_neg (by decide)]
    have el : ∀ {a b : Nat} {t : Tr Lb}, VEl T (Vx T f) true a b t → Tr.sz t + a ≤ b := by
      intro a b t y
      rcases y with ⟨r', y⟩ | ⟨_, y, _, z⟩
      · have := Vx.szle y; rw [if_neg (by decide)] at this; omega
      · rw [z]; simp only [Tr.sz]; omega
    rcases x with x | ⟨m, t1, t2, x1, x, y, x2⟩
    · exact el x
    · have h1 := Vx.szle x; rw [if_neg (by decide)] at h1
      have := el y
      rw [x2, Tr.sz_app]; omega
  | f + 1, 2, r, a, b, t, x => by
    rw [if_neg (by decide)]
    have el : ∀ {a b : Nat} {t : Tr Lb}, VEl T (Vx T f) false a b t → Tr.sz t + a ≤ b := by
      intro a b t y
      rcases y with ⟨r', y⟩ | ⟨_, y, _, z⟩
      · have := Vx.szle y; rw [if_neg (by decide)] at this; omega
      · rw [z]; simp only [Tr.sz]; omega
    rcases x with x | ⟨m, t1, t2, x1, x, y, x2⟩
    · exact el x
    · have h1 := Vx.szle x; rw [if_neg (by decide)] at h1
      have := el y
      rw [x2, Tr.sz_app]; omega
  | f + 1, 3, r, a, b, t, x => by
    rw [if_pos rfl]
    rcases x with ⟨l, x, x1⟩ | ⟨m, t1, l, x1, x, y, x2⟩
    · have := Vx.szle x; rw [if_neg (by decide)] at this; rw [x1]; simp only [Tr.sz]; omega
    · have h1 := Vx.szle x; rw [if_pos rfl] at h1
      have h2 := Vx.szle y; rw [if_neg (by decide)] at h2
      rw [x2, Tr.sz_app]; simp only [Tr.sz]; omega
  | f + 1, _ + 4, r, a, b, t, x => x.elim
theorem VV.szle {T : Tks} {md r a b : Nat} {t : Tr Lb} (x : VV T md r a b t) (h : md ≠ 3) : Tr.sz t + a ≤ b := by
  obtain ⟨f, x⟩ := x
  have := x.szle
  rw [if_neg h] at this
  omega
section Stm
variable {T : Tks} {sm : Int32 → Int32 → Int32 → Bool} {m : Nat}
/-- what the reference says of a list of values -/
def stVals (K : Nat → Nat) (i : Nat) (bl fs : List Nat) : Sum Nat (Nat × List Nat × List Nat) := match rdSev K FU 0 (i + 1) bl.length with
  | .inl j => .inl j
  | .inr (j, _) => if K j = 55 then .inr (j + 1, bl, fs) else .inl j
theorem stm_vals (hT : TkOK T m) {i : Nat} {bl fs : List Nat} {s : Rs} (hR : SR T m i bl fs s) (hk : T.tkd i = 20 ∨ T.tkd i = 21) : StR T sm m i s (stVals T.tkd i bl fs) := by
  obtain ⟨X, f, r, hs, hb, hsz, hbl, hok, hi, hf, hf2⟩ := hR
  subst hs
  have hle := hT.le
  have hi1 : i + 1 < m := hT.go hi (by omega)
  have hse : (SRs T bl fs X f r).settle (tokC T i) = SRs T bl fs X f r := se_word (by unfold wordK; omega)
  obtain ⟨kd, hkd, s1, hsv⟩ : ∃ kd : Int32, (kd = 18 ∨ kd = 19) ∧ (SRs T bl fs X f r).stands (tokC T i) sm = some (30, nI bl.length, 0, nI (lpN bl), fm_0 kd (T.tpl i) (T.twd i), f :: r, Tr.pn X, [], fs.map (fnW T)) ∧ ∀ b' l, T.tkd b' = 55 → VV T 2 0 (i + 1) b' l → E13 T.tkd (i + 1) b' → SV T 0 i (b' + 1) (Tr.nd (T.lb kd i) l) := by
    rcases hk with h | h
    · exact ⟨18, Or.inl rfl, by rw [tokC_of h]; rfl, fun b' l h1 h2 h3 => SV.mk (Or.inr (Or.inl ⟨b', l, rfl, h1, h2, h3, Or.inl ⟨h, rfl⟩⟩))⟩
    · exact ⟨19, Or.inr rfl, by rw [tokC_of h]; rfl, fun b' l h1 h2 h3 => SV.mk (Or.inr (Or.inl ⟨b', l, rfl, h1, h2, h3, Or.inr ⟨h, rfl⟩⟩))⟩
  have hkne : ∀ x : Int32, x ≠ 18 → x ≠ 19 → (fm_0 kd (T.tpl i) (T.twd i)).k ≠ x := by
    intro x h1 h2 h3
    have h3 : kd = x := h3
    rcases hkd with h | h
    · exact h1 (h3.symm.trans h)
    · exact h2 (h3.symm.trans h)
  have g1 := GoN.one s1
  rw [se_30 (f := fm_0 kd (T.tpl i) (T.twd i)) (Or.inl rfl), show (tokC T (i + 1)).k = nI (ck (T.tkd (i + 1))) from rfl, tk_mode hT, seF_base (hkne 36 (by decide) (by decide)) rfl] at g1
  have e0 : Bs.st (nI (lpN bl), fm_0 kd (T.tpl i) (T.twd i), f :: r, Tr.pn X ++ Tr.pn .leaf, fs.map (fnW T)) T (if T.tkd (i + 1) = 51 ∨ T.tkd (i + 1) = 53 ∨ T.tkd (i + 1) = 38 then 30 else 31) bl.length 0 [] .leaf [] = ((if T.tkd (i + 1) = 51 ∨ T.tkd (i + 1) = 53 ∨ T.tkd (i + 1) = 38 then 30 else 31), nI bl.length, 0, nI (lpN bl), fm_0 kd (T.tpl i) (T.twd i), f :: r, Tr.pn X, [], fs.map (fnW T)) := by
    show ((if T.tkd (i + 1) = 51 ∨ T.tkd (i + 1) = 53 ∨ T.tkd (i + 1) = 38 then (30 : Int32) else 31), nI bl.length, nI 0, nI (lpN bl), fm_0 kd (T.tpl i) (T.twd i), f :: r, (Tr.pn X ++ []) ++ [], ([] : List Wt), fs.map (fnW T)) = _
    rw [List.append_nil, List.append_nil]
    rfl
  rw [← e0] at g1
  have h1 := sev_run (sm := sm) (lp := nI (lpN bl)) (bs := f :: r) (fn := fs.map (fnW T)) (D0 := Tr.pn X) (a0 := i + 1) (lv := bl.length) hT hbl FU 0 (i + 1) .leaf (fm_0 kd (T.tpl i) (T.twd i)) (by unfold FU; omega) hi1 rfl rfl rfl (hkd.elim Or.inl (fun h => Or.inr (Or.inl h))) rfl (by omega) (Or.inl ⟨rfl, rfl, rfl⟩) rfl (by rw [Tr.pn_len]; simp only [Tr.sz]; omega) (fun h => absurd h (hkne 52 (by decide) (by decide)))
  unfold stVals
  cases e : rdSev T.tkd FU 0 (i + 1) bl.length with
  | inl j =>
    rw [e] at h1
    exact ⟨h1.1, by rw [hse]; exact g1.flt h1.2⟩
  | inr q =>
    obtain ⟨j, lv'⟩ := q
    rw [e] at h1
    obtain ⟨_, hj, hj48, hjr, hj54, n', A', s', hn', hrt, hv, hsz2, hgo, hst, hmd⟩ := h1
    have hij := hv.lt
    rw [Tr.pn_len] at hsz2
    show StR T sm m i _ (if T.tkd j = 55 then .inr (j + 1, bl, fs) else .inl j)
    by_cases c : T.tkd j = 55
    · rw [if_pos c]
      have hj1 : j + 1 < m := hT.go hj (by omega)
      have hst2 : s'.stands (tokC T j) sm = some (SRs T bl fs (Tr.app X (Tr.nd (T.lb kd i) A')) (f.s_ip (f.ip + 1)) r) := by
        rw [hst, tokC_of c]
        refine (aw_semiV (f := (fm_0 kd (T.tpl i) (T.twd i)).s_pa (nI n')) hkd).trans ?_
        have hn : Rs.nadd (Tr.pn X ++ Tr.pn A') kd (T.tpl i) (-1) (nI n' + 1) (T.twd i) = Tr.pn (Tr.app X (Tr.nd (T.lb kd i) A')) := by
          rw [← Tr.pn_app, show nI n' + 1 = nI (Tr.rt A') by rw [hrt]; exact nI_add' n' 1]
          exact nadd_pn (nI i) (by omega)
        show some ((0 : Int32), nI bl.length, (0 : Int32), nI (lpN bl), f.s_ip (f.ip + 1), r, Rs.nadd (Tr.pn X ++ Tr.pn A') kd (T.tpl i) (-1) (nI n' + 1) (T.twd i), [], fs.map (fnW T)) = _
        rw [hn]
        rfl
      refine ⟨_, by rw [hse]; exact (g1.trans hgo).transS (GoS.one hst2), ?_⟩
      exact SR.next hb hsz hbl hok hf hf2 hj1 (hsv j A' c hv (rdSev_13 e)) rfl (by have := hv.szle (by decide); simp only [Tr.sz]; omega)
    · rw [if_neg c]
      refine ⟨hj, ?_⟩
      rw [hse]
      refine (g1.trans hgo).flt (FltN.now ?_ (NB.md hmd (by decide)))
      rw [hst]
      exact aw_noB (hkne 33 (by decide) (by decide)) (hkne 50 (by decide) (by decide)) (hkne 36 (by decide) (by decide)) (tk_ne hT (j := 38) rfl (rank_colon hjr)) (Or.inr ⟨hkne 51 (by decide) (by decide), hkne 52 (by decide) (by decide)⟩) (Or.inl (tk_ne hT (j := 54) rfl hj54)) (Or.inl (tk_ne hT (j := 55) rfl c)) (Or.inr (hkne 20 (by decide) (by decide)))
end Stm
end

section
section Stm
variable {T : Tks} {sm : Int32 → Int32 → Int32 → Bool} {m : Nat}
/-- the reference's reading of a condition -/
def rdCond (K : Nat → Nat) (i lv : Nat) : Sum Nat Nat := if K i = 50 ∧ lv ≠ 60 then (match rdE K (i + 1) (lv + 1) with
  | .inl j => .inl j
  | .inr (j, _) => if K j = 51 then .inr (j + 1) else .inl j) else .inl i
theorem st_hd {l : Nat} {lp : Int32} {f : Fm} {r : List Fm} {d : List Nd} {fn : List Wt} {p v : Int32} (h : l < 60) : Rs.stands (2, nI l, 0, lp, f, r, d, [], fn) (40, p, v) sm = some ((if f.k = 13 then 3 else 30), nI (l + 1), 0, lp, fm_0 51 p v, f :: r, d, [], fn) := by
  rw [← nI_add' l 1]
  show (if nI l < 60 then some ((if f.k = 13 then (3 : Int32) else 30), nI l + 1, (0 : Int32), lp, fm_0 51 p v, f :: r, d, ([] : List Wt), fn) else none) = _
  rw [if_pos (nI_lt60 h)]
  rfl
theorem st_hd60 {lp : Int32} {f : Fm} {r : List Fm} {d : List Nd} {fn : List Wt} {p v : Int32} : Rs.stands (2, nI 60, 0, lp, f, r, d, [], fn) (40, p, v) sm = none := rfl
theorem st_hdno {l lp k : Int32} {f : Fm} {r : List Fm} {d : List Nd} {fn : List Wt} {p v : Int32} (h : k ≠ 40) : Rs.stands (2, l, 0, lp, f, r, d, [], fn) (k, p, v) sm = none := by
  show (if k = 40 then _ else none) = none
  exact if_neg h
theorem aw_head {md l lp : Int32} {h f : Fm} {r : List Fm} {d : List Nd} {fn : List Wt} {p v : Int32} (hk : h.k = 51) (hs : h.sg = 0) : Rs.afterW (md, l, 0, lp, h, f :: r, d, [], fn) (41, p, v) 0 = some (0, l - 1, 0, lp, ((f.s_pa (f.pa + (if f.k = 13 then 2 else 1))).s_ip 0).s_ipl p, r, d, [], fn) := by
  show (if h.k = 33 then _ else if h.k = 50 then _ else if h.k = 51 then some ((0 : Int32), l - 1, h.sg, lp, ((f.s_pa (f.pa + (if f.k = 13 then 2 else 1))).s_ip 0).s_ipl p, r, d, ([] : List Wt), fn) else _) = _
  rw [if_neg (by rw [hk]; decide), if_neg (by rw [hk]; decide), if_pos hk, hs]
/-- an expression in a head, up to its bracket -/
theorem head_run (hT : TkOK T m) {i lv : Nat} {lp p v : Int32} {f : Fm} {r : List Fm} {X : Tr Lb} {fn : List Wt} (hi : i < m) (hlv : lv ≤ 59) (hd : Tr.sz X ≤ i) :
    match rdE T.tkd i (lv + 1) with
    | .inl j => j < m ∧ FltN T sm i j (Rs.settle (30, nI (lv + 1), 0, lp, fm_0 51 p v, f :: r, Tr.pn X, [], fn) (tokC T i))
    | .inr (j, _) => j < m ∧ (T.tkd j = 51 → j + 1 < m ∧ ∃ t ρ, VV T 0 ρ i j t ∧ Tr.sz X + Tr.sz t ≤ j ∧ GoS T sm i (j + 1) (Rs.settle (30, nI (lv + 1), 0, lp, fm_0 51 p v, f :: r, Tr.pn X, [], fn) (tokC T i)) (0, nI lv, 0, lp, ((f.s_pa (f.pa + (if f.k = 13 then 2 else 1))).s_ip 0).s_ipl (T.tpl j), r, Tr.pn (Tr.app X t), [], fn)) ∧ (T.tkd j ≠ 51 → FltN T sm i j (Rs.settle (30, nI (lv + 1), 0, lp, fm_0 51 p v, f :: r, Tr.pn X, [], fn) (tokC T i))) := by
  have hle := hT.le
  rw [se_30 (f := fm_0 51 p v) (Or.inl rfl), show (tokC T i).k = nI (ck (T.tkd i)) from rfl, tk_mode hT, seF_base (show (51 : Int32) ≠ 36 by decide) rfl]
  have e0 : Bs.st (lp, fm_0 51 p v, f :: r, Tr.pn X, fn) T (if T.tkd i = 51 ∨ T.tkd i = 53 ∨ T.tkd i = 38 then 30 else 31) (lv + 1) 0 [] .leaf [] = ((if T.tkd i = 51 ∨ T.tkd i = 53 ∨ T.tkd i = 38 then 30 else 31), nI (lv + 1), 0, lp, fm_0 51 p v, f :: r, Tr.pn X, [], fn) := by
    show ((if T.tkd i = 51 ∨ T.tkd i = 53 ∨ T.tkd i = 38 then (30 : Int32) else 31), nI (lv + 1), nI 0, lp, fm_0 51 p v, f :: r, Tr.pn X ++ [], ([] : List Wt), fn) = _
    rw [List.append_nil]
    rfl
  rw [← e0]
  have h1 := expr_run (sm := sm) hT (B := (lp, fm_0 51 p v, f :: r, Tr.pn X, fn)) (i := i) (lv := lv + 1) ⟨rfl, rfl, Or.inr (Or.inr (Or.inr (Or.inr (Or.inl rfl)))), fun h => absurd (show (51 : Int32) = 20 from h) (by decide), fun h => absurd (show (51 : Int32) = 20 from h) (by decide)⟩ hi (by omega) (fun h => absurd (show (51 : Int32) = 20 from h) (by decide)) (fun h => absurd (show (51 : Int32) = 52 from h) (by decide)) (by show (Tr.pn X).length ≤ i; rw [Tr.pn_len]; exact hd)
  cases e : rdE T.tkd i (lv + 1) with
  | inl j => rw [e] at h1; exact h1
  | inr q =>
    obtain ⟨j, lv'⟩ := q
    rw [e] at h1
    obtain ⟨_, hj, hj48, hjr, t, ρ, s', hv, hsz2, hgo, hst, hmd⟩ := h1
    have hsz2 : (Tr.pn X).length + Tr.sz t ≤ j := hsz2
    rw [Tr.pn_len] at hsz2
    have hst : s'.stands (tokC T j) sm = Rs.afterW (34, nI (lv + 1), 0, lp, fm_0 51 p v, f :: r, Tr.pn (Tr.app X t), [], fn) (tokC T j) 0 := by
      rw [hst, Tr.pn_app]
      rfl
    refine ⟨hj, fun c => ?_, fun c => hgo.flt (FltN.now ?_ (NB.md hmd (by decide)))⟩
    · refine ⟨hT.go hj (by omega), t, ρ, hv, hsz2, hgo.transS (GoS.one ?_)⟩
      rw [hst, tokC_of c]
      refine (aw_head rfl rfl).trans ?_
      rw [show nI (lv + 1) - 1 = nI lv from nI_p1 lv]
    · rw [hst]
      exact aw_noB (show (51 : Int32) ≠ 33 by decide) (show (51 : Int32) ≠ 50 by decide) (show (51 : Int32) ≠ 36 by decide) (tk_ne hT (j := 38) rfl (rank_colon hjr)) (Or.inl (tk_ne hT (j := 51) rfl c)) (Or.inr ⟨show (51 : Int32) ≠ 18 by decide, show (51 : Int32) ≠ 19 by decide, show (51 : Int32) ≠ 52 by decide⟩) (Or.inr ⟨show (51 : Int32) ≠ 18 by decide, show (51 : Int32) ≠ 19 by decide, show (51 : Int32) ≠ 20 by decide, show (51 : Int32) ≠ 21 by decide⟩) (Or.inr (show (51 : Int32) ≠ 20 by decide))
theorem cond_run (hT : TkOK T m) {i lv : Nat} {lp : Int32} {f : Fm} {r : List Fm} {X : Tr Lb} {fn : List Wt} (hi : i < m) (hlv : lv ≤ 60) (hf : f.k ≠ 13) (hd : Tr.sz X ≤ i) :
    match rdCond T.tkd i lv with
    | .inl j => j < m ∧ FltN T sm i j (2, nI lv, 0, lp, f, r, Tr.pn X, [], fn)
    | .inr j' => T.tkd i = 50 ∧ ∃ c t ρ, j' = c + 1 ∧ c + 1 < m ∧ T.tkd c = 51 ∧ VV T 0 ρ (i + 1) c t ∧ Tr.sz X + Tr.sz t ≤ c ∧ GoS T sm i (c + 1) (2, nI lv, 0, lp, f, r, Tr.pn X, [], fn) (0, nI lv, 0, lp, ((f.s_pa (f.pa + 1)).s_ip 0).s_ipl (T.tpl c), r, Tr.pn (Tr.app X t), [], fn) := by
  unfold rdCond
  by_cases c0 : T.tkd i = 50
  · by_cases c60 : lv = 60
    · rw [if_neg (fun x => x.2 c60)]
      subst c60
      exact ⟨hi, FltN.now (by rw [tokC_of c0]; exact st_hd60)⟩
    · rw [if_pos ⟨c0, c60⟩]
      have hi1 : i + 1 < m := hT.go hi (by omega)
      have s1 : Rs.stands (2, nI lv, 0, lp, f, r, Tr.pn X, [], fn) (tokC T i) sm = some (30, nI (lv + 1), 0, lp, fm_0 51 (T.tpl i) (T.twd i), f :: r, Tr.pn X, [], fn) := by
        rw [tokC_of c0]
        refine (st_hd (by omega)).trans ?_
        rw [if_neg hf]
      have h1 := head_run (sm := sm) (lp := lp) (p := T.tpl i) (v := T.twd i) (f := f) (r := r) (X := X) (fn := fn) hT hi1 (lv := lv) (by omega) (by omega)
      rw [if_neg hf] at h1
      cases e : rdE T.tkd (i + 1) (lv + 1) with
      | inl j =>
        rw [e] at h1
        exact ⟨h1.1, (GoN.one s1).flt h1.2⟩
      | inr q =>
        obtain ⟨j, lv'⟩ := q
        rw [e] at h1
        obtain ⟨hj, h2, h3⟩ := h1
        show (match (if T.tkd j = 51 then .inr (j + 1) else .inl j : Sum Nat Nat) with
          | .inl j => _
          | .inr j' => _)
        by_cases c : T.tkd j = 51
        · rw [if_pos c]
          obtain ⟨h4, t, ρ, h5, h6, h7⟩ := h2 c
          exact ⟨c0, j, t, ρ, rfl, h4, c, h5, h6, (GoN.one s1).transS h7⟩
        · rw [if_neg c]
          exact ⟨hj, (GoN.one s1).flt (h3 c)⟩
  · rw [if_neg (fun x => c0 x.1)]
    exact ⟨hi, FltN.now (st_hdno (tk_ne hT (j := 50) rfl c0))⟩
/-- a block opens: the state behind its head -/
theorem SR.opened {i' a kd c : Nat} {bl fs : List Nat} {X L : Tr Lb} {f g : Fm} {r : List Fm} (hb : BI T (f :: r) bl a X) (hs : Tr.sz X + bl.length ≤ a) (hbl : bl.length ≤ 59) (hok : BlOK bl) (hf : fs.length ≤ i') (hf2 : ∀ q ∈ fs, q < i') (hi : i' < m) (hg : BlkO T g kd a c L) (hip : g.ip = 0) (hc : i' = c + 1) (hz : Tr.sz L + a + 1 ≤ i') (h19 : kd = 19 → bl = []) : SR T m i' (kd :: bl) fs (0, nI (bl.length + 1), 0, nI (lpN (kd :: bl)), g, f :: r, Tr.pn (Tr.app X L), [], fs.map (fnW T)) := by
  refine ⟨Tr.app X L, g, f :: r, rfl, ⟨a, c, L, .leaf, X, hb, hg, ?_, hip, ?_⟩, ?_, ?_, ⟨h19, hok⟩, hi, hf, hf2⟩
  · rw [hc]; exact SV.nil
  · rw [Tr.app_nil]
  · rw [Tr.sz_app, List.length_cons]; omega
  · rw [List.length_cons]; omega
def stIf (K : Nat → Nat) (i : Nat) (bl fs : List Nat) : Sum Nat (Nat × List Nat × List Nat) := if bl.length = 60 then .inl i else match rdCond K (i + 1) (bl.length + 1) with
  | .inl j => .inl j
  | .inr j => .inr (j, K i :: bl, fs)
theorem stm_if (hT : TkOK T m) {i : Nat} {bl fs : List Nat} {s : Rs} (hR : SR T m i bl fs s) (hk : T.tkd i = 10 ∨ T.tkd i = 14) : StR T sm m i s (stIf T.tkd i bl fs) := by
  obtain ⟨X, f, r, hs, hb, hsz, hbl, hok, hi, hf, hf2⟩ := hR
  subst hs
  have hle := hT.le
  have hi1 : i + 1 < m := hT.go hi (by omega)
  have hse : (SRs T bl fs X f r).settle (tokC T i) = SRs T bl fs X f r := se_word (by unfold wordK; omega)
  unfold stIf
  by_cases c60 : bl.length = 60
  · rw [if_pos c60]
    refine ⟨hi, ?_⟩
    rw [hse]
    refine FltN.now ?_
    unfold SRs
    rw [c60]
    rcases hk with h | h
    · rw [tokC_of h]; rfl
    · rw [tokC_of h]; rfl
  · rw [if_neg c60]
    obtain ⟨kd, hkd, s1⟩ : ∃ kd : Int32, ((T.tkd i = 10 ∧ kd = 11) ∨ (T.tkd i = 14 ∧ kd = 12)) ∧ (SRs T bl fs X f r).stands (tokC T i) sm = some (2, nI (bl.length + 1), 0, nI (lpN (T.tkd i :: bl)), fm_0 kd (T.tpl i) (T.twd i), f :: r, Tr.pn X, [], fs.map (fnW T)) := by
      rcases hk with h | h
      · refine ⟨11, Or.inl ⟨h, rfl⟩, ?_⟩
        rw [tokC_of h, h, ← nI_add' bl.length 1]
        show Option.map _ (if nI bl.length < 60 then some _ else none) = _
        rw [if_pos (nI_lt60 (by omega))]
        show some ((2 : Int32), nI bl.length + 1, (0 : Int32), nI (lpN bl) + 0, fm_0 11 (T.tpl i) (T.twd i), f :: r, Tr.pn X, ([] : List Wt), fs.map (fnW T)) = _
        rw [show nI (lpN bl) + 0 = nI (lpN bl + 0) from nI_add' _ 0]
        rfl
      · refine ⟨12, Or.inr ⟨h, rfl⟩, ?_⟩
        rw [tokC_of h, h, ← nI_add' bl.length 1]
        show Option.map _ (if nI bl.length < 60 then some _ else none) = _
        rw [if_pos (nI_lt60 (by omega))]
        show some ((2 : Int32), nI bl.length + 1, (0 : Int32), nI (lpN bl) + 1, fm_0 12 (T.tpl i) (T.twd i), f :: r, Tr.pn X, ([] : List Wt), fs.map (fnW T)) = _
        rw [show nI (lpN bl) + 1 = nI (lpN bl + 1) from nI_add' _ 1]
        rfl
    have g1 := GoN.one s1
    rw [se_no (Or.inr (Or.inl rfl))] at g1
    have h1 := cond_run (sm := sm) (lp := nI (lpN (T.tkd i :: bl))) (f := fm_0 kd (T.tpl i) (T.twd i)) (r := f :: r) (X := X) (fn := fs.map (fnW T)) hT hi1 (lv := bl.length + 1) (by omega) (by
      show kd ≠ 13
      rcases hkd with ⟨_, h⟩ | ⟨_, h⟩ <;> (rw [h]; decide)) (by omega)
    cases e : rdCond T.tkd (i + 1) (bl.length + 1) with
    | inl j =>
      rw [e] at h1
      exact ⟨h1.1, by rw [hse]; exact g1.flt h1.2⟩
    | inr j' =>
      rw [e] at h1
      obtain ⟨h50, c, t, ρ, rfl, hc1, hc51, hv, hz, hgo⟩ := h1
      have hvl := hv.lt
      have hvz := hv.szle (by decide)
      refine ⟨_, by rw [hse]; exact g1.transS hgo, ?_⟩
      refine SR.opened (c := c) hb hsz (by omega) hok (by omega) (fun q hq => by have := hf2 q hq; omega) hc1 ⟨rfl, rfl, ?_, rfl, rfl, rfl, ?_⟩ rfl rfl (by omega) (fun h => by omega)
      · show (0 : Int32) + 1 = _
        rw [hv.rt1]; rfl
      · rcases hkd with ⟨h, rfl⟩ | ⟨h, rfl⟩
        · exact Or.inl ⟨h, rfl, rfl, rfl, h, Or.inl ⟨h50, hc51, ρ, hv⟩⟩
        · exact Or.inr (Or.inr (Or.inl ⟨h, rfl, rfl, rfl, h, h50, hc51, ρ, hv⟩))
end Stm
end

section
section Stm
variable {T : Tks} {sm : Int32 → Int32 → Int32 → Bool} {m : Nat}
def stTry (i : Nat) (bl fs : List Nat) : Sum Nat (Nat × List Nat × List Nat) := if bl.length = 60 then .inl i else .inr (i + 1, 22 :: bl, fs)
theorem stm_try (hT : TkOK T m) {i : Nat} {bl fs : List Nat} {s : Rs} (hR : SR T m i bl fs s) (hk : T.tkd i = 22) : StR T sm m i s (stTry i bl fs) := by
  obtain ⟨X, f, r, hs, hb, hsz, hbl, hok, hi, hf, hf2⟩ := hR
  subst hs
  have hi1 : i + 1 < m := hT.go hi (by omega)
  have hse : (SRs T bl fs X f r).settle (tokC T i) = SRs T bl fs X f r := se_word (by unfold wordK; omega)
  unfold stTry
  by_cases c60 : bl.length = 60
  · rw [if_pos c60]
    refine ⟨hi, ?_⟩
    rw [hse]
    refine FltN.now ?_
    unfold SRs
    rw [c60, tokC_of hk]; rfl
  · rw [if_neg c60]
    have s1 : (SRs T bl fs X f r).stands (tokC T i) sm = some (0, nI (bl.length + 1), 0, nI (lpN (22 :: bl)), fm_0 14 (T.tpl i) (T.twd i), f :: r, Tr.pn X, [], fs.map (fnW T)) := by
      rw [tokC_of hk, ← nI_add' bl.length 1]
      show Option.map _ (if nI bl.length < 60 then some _ else none) = _
      rw [if_pos (nI_lt60 (by omega))]
      show some ((0 : Int32), nI bl.length + 1, (0 : Int32), nI (lpN bl) + 0, fm_0 14 (T.tpl i) (T.twd i), f :: r, Tr.pn X, ([] : List Wt), fs.map (fnW T)) = _
      rw [show nI (lpN bl) + 0 = nI (lpN bl + 0) from nI_add' _ 0]
      rfl
    have hsr := SR.opened (g := fm_0 14 (T.tpl i) (T.twd i)) (fs := fs) (c := i) (kd := 22) (L := .leaf) hb hsz (by omega) hok (by omega) (fun q hq => by have := hf2 q hq; omega) hi1 ⟨rfl, rfl, rfl, rfl, rfl, rfl, Or.inr (Or.inr (Or.inr (Or.inr (Or.inl ⟨rfl, rfl, rfl, rfl, hk, rfl, rfl⟩))))⟩ rfl rfl (by simp only [Tr.sz]; omega) (fun h => by omega)
    rw [Tr.app_nil] at hsr
    exact ⟨_, by rw [hse]; exact GoS.one s1, hsr⟩
def stFor (K : Nat → Nat) (i : Nat) (bl fs : List Nat) : Sum Nat (Nat × List Nat × List Nat) :=
  if bl.length = 60 then .inl i else if ¬ (K (i + 1) = 50 ∧ bl.length + 1 ≠ 60) then .inl (i + 1) else if K (i + 2) ≠ 2 then .inl (i + 2) else if K (i + 3) ≠ 56 then .inl (i + 3) else match rdE K (i + 4) (bl.length + 2) with
  | .inl j => .inl j
  | .inr (j, _) => if K j = 51 then .inr (j + 1, 15 :: bl, fs) else .inl j
theorem stm_for (hT : TkOK T m) {i : Nat} {bl fs : List Nat} {s : Rs} (hR : SR T m i bl fs s) (hk : T.tkd i = 15) : StR T sm m i s (stFor T.tkd i bl fs) := by
  obtain ⟨X, f, r, hs, hb, hsz, hbl, hok, hi, hf, hf2⟩ := hR
  subst hs
  have hle := hT.le
  have hi1 : i + 1 < m := hT.go hi (by omega)
  have hse : (SRs T bl fs X f r).settle (tokC T i) = SRs T bl fs X f r := se_word (by unfold wordK; omega)
  unfold stFor
  by_cases c60 : bl.length = 60
  · rw [if_pos c60]
    refine ⟨hi, ?_⟩
    rw [hse]
    refine FltN.now ?_
    unfold SRs
    rw [c60, tokC_of hk]; rfl
  · rw [if_neg c60]
    have h59 : bl.length ≤ 59 := by omega
    have s1 : (SRs T bl fs X f r).stands (tokC T i) sm = some (2, nI (bl.length + 1), 0, nI (lpN (15 :: bl)), fm_0 13 (T.tpl i) (T.twd i), f :: r, Tr.pn X, [], fs.map (fnW T)) := by
      rw [tokC_of hk, ← nI_add' bl.length 1]
      show Option.map _ (if nI bl.length < 60 then some _ else none) = _
      rw [if_pos (nI_lt60 (by omega))]
      show some ((2 : Int32), nI bl.length + 1, (0 : Int32), nI (lpN bl) + 1, fm_0 13 (T.tpl i) (T.twd i), f :: r, Tr.pn X, ([] : List Wt), fs.map (fnW T)) = _
      rw [show nI (lpN bl) + 1 = nI (lpN bl + 1) from nI_add' _ 1]
      rfl
    have g1 := GoN.one s1
    rw [se_no (Or.inr (Or.inl rfl))] at g1
    by_cases c1 : T.tkd (i + 1) = 50
    · by_cases c59 : bl.length + 1 = 60
      · rw [if_pos (fun x => x.2 c59)]
        refine ⟨hi1, ?_⟩
        rw [hse]
        refine g1.flt (FltN.now ?_)
        rw [tokC_of c1, c59]; exact st_hd60
      · rw [if_neg (fun x => x ⟨c1, c59⟩)]
        have hi2 : i + 2 < m := hT.go hi1 (by omega)
        have s2 : Rs.stands (2, nI (bl.length + 1), 0, nI (lpN (15 :: bl)), fm_0 13 (T.tpl i) (T.twd i), f :: r, Tr.pn X, [], fs.map (fnW T)) (tokC T (i + 1)) sm = some (3, nI (bl.length + 1 + 1), 0, nI (lpN (15 :: bl)), fm_0 51 (T.tpl (i + 1)) (T.twd (i + 1)), fm_0 13 (T.tpl i) (T.twd i) :: f :: r, Tr.pn X, [], fs.map (fnW T)) := by
          rw [tokC_of c1]
          exact st_hd (f := fm_0 13 (T.tpl i) (T.twd i)) (by omega)
        have g2 := g1.trans (GoN.one s2)
        rw [se_no (Or.inr (Or.inr (Or.inl rfl)))] at g2
        by_cases c2 : T.tkd (i + 2) = 2
        · rw [if_neg (fun x => x c2)]
          have hi3 : i + 3 < m := hT.go hi2 (by omega)
          have s3 : Rs.stands (3, nI (bl.length + 1 + 1), 0, nI (lpN (15 :: bl)), fm_0 51 (T.tpl (i + 1)) (T.twd (i + 1)), fm_0 13 (T.tpl i) (T.twd i) :: f :: r, Tr.pn X, [], fs.map (fnW T)) (tokC T (i + 2)) sm = some (4, nI (bl.length + 1 + 1), 0, nI (lpN (15 :: bl)), fm_0 51 (T.tpl (i + 1)) (T.twd (i + 1)), fm_0 13 (T.tpl i) (T.twd i) :: f :: r, Tr.pn (Tr.app X (Tr.nd (T.lb 32 (i + 2)) .leaf)), [], fs.map (fnW T)) := by
            rw [tokC_of c2]
            show some ((4 : Int32), nI (bl.length + 1 + 1), (0 : Int32), nI (lpN (15 :: bl)), fm_0 51 (T.tpl (i + 1)) (T.twd (i + 1)), fm_0 13 (T.tpl i) (T.twd i) :: f :: r, Rs.nadd (Tr.pn X) 32 (T.tpl (i + 2)) (-1) 0 (T.twd (i + 2)), ([] : List Wt), fs.map (fnW T)) = _
            rw [nadd_leaf (nI (i + 2)) (by omega)]
            rfl
          have g3 := g2.trans (GoN.one s3)
          rw [se_no (Or.inr (Or.inr (Or.inr (Or.inl rfl))))] at g3
          by_cases c3 : T.tkd (i + 3) = 56
          · rw [if_neg (fun x => x c3)]
            have hi4 : i + 4 < m := hT.go hi3 (by omega)
            have s4 : Rs.stands (4, nI (bl.length + 1 + 1), 0, nI (lpN (15 :: bl)), fm_0 51 (T.tpl (i + 1)) (T.twd (i + 1)), fm_0 13 (T.tpl i) (T.twd i) :: f :: r, Tr.pn (Tr.app X (Tr.nd (T.lb 32 (i + 2)) .leaf)), [], fs.map (fnW T)) (tokC T (i + 3)) sm = some (30, nI (bl.length + 1 + 1), 0, nI (lpN (15 :: bl)), fm_0 51 (T.tpl (i + 1)) (T.twd (i + 1)), fm_0 13 (T.tpl i) (T.twd i) :: f :: r, Tr.pn (Tr.app X (Tr.nd (T.lb 32 (i + 2)) .leaf)), [], fs.map (fnW T)) := by
              rw [tokC_of c3]; rfl
            have g4 := g3.trans (GoN.one s4)
            have h1 := head_run (sm := sm) (lp := nI (lpN (15 :: bl))) (p := T.tpl (i + 1)) (v := T.twd (i + 1)) (f := fm_0 13 (T.tpl i) (T.twd i)) (r := f :: r) (X := Tr.app X (Tr.nd (T.lb 32 (i + 2)) .leaf)) (fn := fs.map (fnW T)) hT hi4 (lv := bl.length + 1) (by omega) (by rw [Tr.sz_app]; simp only [Tr.sz]; omega)
            cases e : rdE T.tkd (i + 4) (bl.length + 2) with
            | inl j =>
              rw [e] at h1
              exact ⟨h1.1, by rw [hse]; exact g4.flt h1.2⟩
            | inr q =>
              obtain ⟨j, lv'⟩ := q
              rw [e] at h1
              obtain ⟨hj, h2, h3⟩ := h1
              show StR T sm m i _ (if T.tkd j = 51 then .inr (j + 1, 15 :: bl, fs) else .inl j)
              by_cases c : T.tkd j = 51
              · rw [if_pos c]
                obtain ⟨hj1, t, ρ, hv, hz, hgo⟩ := h2 c
                have hvl := hv.lt
                have hvz := hv.szle (by decide)
                have k1 : fs.length ≤ j + 1 := by clear h2 h3 hgo hz hv; omega
                have k2 : ∀ q ∈ fs, q < j + 1 := fun q hq => by have := hf2 q hq; clear h2 h3 hgo hz hv; omega
                have k3 : Tr.sz (Tr.app (Tr.nd (T.lb 32 (i + 2)) .leaf) t) + i + 1 ≤ j + 1 := by rw [Tr.sz_app]; simp only [Tr.sz]; clear h2 h3 hgo hz hv; omega
                have hsr := SR.opened (g := (((fm_0 13 (T.tpl i) (T.twd i)).s_pa ((0 : Int32) + 2)).s_ip 0).s_ipl (T.tpl j)) (fs := fs) (c := j) (kd := 15) (L := Tr.app (Tr.nd (T.lb 32 (i + 2)) .leaf) t) hb hsz h59 hok k1 k2 hj1 ⟨rfl, rfl, by rw [Tr.rt_app, hv.rt1]; rfl, rfl, rfl, rfl, Or.inr (Or.inr (Or.inr (Or.inl ⟨rfl, rfl, rfl, rfl, hk, c1, c2, c3, c, ρ, t, hv, rfl⟩)))⟩ rfl rfl k3 (fun h => absurd h (by decide))
                rw [← Tr.app_assoc] at hsr
                exact ⟨_, by rw [hse]; exact g4.transS hgo, hsr⟩
              · rw [if_neg c]
                exact ⟨hj, by rw [hse]; exact g4.flt (h3 c)⟩
          · rw [if_pos c3]
            refine ⟨hi3, ?_⟩
            rw [hse]
            refine g3.flt (FltN.now ?_)
            show (if nI (ck (T.tkd (i + 3))) = (61 : Int32) then _ else none) = none
            exact if_neg (tk_ne hT (j := 56) rfl c3)
        · rw [if_pos c2]
          refine ⟨hi2, ?_⟩
          rw [hse]
          refine g2.flt (FltN.now ?_)
          show (if nI (ck (T.tkd (i + 2))) = (2 : Int32) then _ else none) = none
          exact if_neg (tk_ne hT (j := 2) rfl c2)
    · rw [if_pos (fun x => c1 x.1)]
      refine ⟨hi1, ?_⟩
      rw [hse]
      exact g1.flt (FltN.now (st_hdno (tk_ne hT (j := 50) rfl c1)))
/-- a block ends -/
theorem blk_nadd {X0 L S : Tr Lb} {f : Fm} {c : Nat} (h1 : f.ipl = T.tpl c) (h2 : f.ip = nI (Tr.rt S)) (h : Tr.sz X0 + Tr.sz L + Tr.sz S < 16385) : Rs.nadd (Tr.pn (Tr.app X0 (Tr.app L S))) 3 f.ipl (-1) f.ip 0 = Tr.pn (Tr.app X0 (Tr.app L (Tr.nd (T.blk c) S))) := by
  rw [h1, h2, ← Tr.app_assoc, nadd_pn (-1) (by rw [Tr.sz_app]; exact h), Tr.app_assoc]
  rfl
def stElif (K : Nat → Nat) (i : Nat) (bl fs : List Nat) : Sum Nat (Nat × List Nat × List Nat) := if bl.head? = some 10 then (match rdCond K (i + 1) bl.length with
  | .inl j => .inl j
  | .inr j => .inr (j, bl, fs)) else .inl i
theorem BI.kd {i : Nat} {f : Fm} {r : List Fm} {bl : List Nat} {X : Tr Lb} (hb : BI T (f :: r) bl i X) : (f.k = 11 ∧ f.lb = 0 ↔ bl.head? = some 10) ∧ (f.k = 14 ∧ f.lb = 0 ↔ bl.head? = some 22) ∧ (f.k = 0 ↔ bl = []) := by
  match r, bl, hb with
  | [], [], hb =>
    have h := hb.1
    refine ⟨⟨fun x => ?_, fun x => by cases x⟩, ⟨fun x => ?_, fun x => by cases x⟩, ⟨fun _ => rfl, fun _ => h⟩⟩
    · rw [h] at x; exact absurd x.1 (by decide)
    · rw [h] at x; exact absurd x.1 (by decide)
  | [], kd :: bl, hb =>
    obtain ⟨a, c, L, S, X0, h2, _⟩ := hb
    exact h2.elim
  | g :: r, [], hb => exact hb.elim
  | g :: r, kd :: bl, hb =>
    obtain ⟨a, c, L, S, X0, h2, ⟨_, _, _, _, _, _, h⟩, _⟩ := hb
    have e : (kd :: bl).head? = some kd := rfl
    rw [e]
    have key : ∀ k lb : Int32, ∀ k0 : Nat, kd = k0 → f.k = k → f.lb = lb → (k = 11 ∧ lb = 0 ↔ k0 = 10) → (k = 14 ∧ lb = 0 ↔ k0 = 22) → k ≠ 0 → (f.k = 11 ∧ f.lb = 0 ↔ some kd = some 10) ∧ (f.k = 14 ∧ f.lb = 0 ↔ some kd = some 22) ∧ (f.k = 0 ↔ kd :: bl = []) := by
      intro k lb k0 e1 e2 e3 i1 i2 i3
      rw [e2, e3, e1]
      exact ⟨⟨fun x => by rw [i1.mp x], fun x => i1.mpr (Option.some.inj x)⟩, ⟨fun x => by rw [i2.mp x], fun x => i2.mpr (Option.some.inj x)⟩, ⟨fun x => absurd x i3, fun x => by cases x⟩⟩
    rcases h with h | h | h | h | h | h | h
    · exact key 11 0 10 h.1 h.2.1 h.2.2.1 (by decide) (by decide) (by decide)
    · exact key 11 1 12 h.1 h.2.1 h.2.2.1 (by decide) (by decide) (by decide)
    · exact key 12 0 14 h.1 h.2.1 h.2.2.1 (by decide) (by decide) (by decide)
    · exact key 13 0 15 h.1 h.2.1 h.2.2.1 (by decide) (by decide) (by decide)
    · exact key 14 0 22 h.1 h.2.1 h.2.2.1 (by decide) (by decide) (by decide)
    · exact key 14 1 23 h.1 h.2.1 h.2.2.1 (by decide) (by decide) (by decide)
    · exact key 1 0 19 h.1 h.2.1 h.2.2.1 (by decide) (by decide) (by decide)
theorem st_next {l lp k kd lb md p v : Int32} {f : Fm} {r : List Fm} {d : List Nd} {fn : List Wt} (h : f.k = kd ∧ f.lb = 0) : Rs.nextBlock (0, l, 0, lp, f, r, d, [], fn) (k, p, v) kd lb md = some (md, l, 0, lp, (((f.s_pa (f.pa + 1)).s_lb lb).s_ip 0).s_ipl p, r, Rs.nadd d 3 f.ipl (-1) f.ip 0, [], fn) := by
  unfold Rs.nextBlock
  rw [if_neg (show ¬ (f.k ≠ kd ∨ f.lb ≠ 0) from fun x => x.elim (fun y => y h.1) (fun y => y h.2))]
  rfl
theorem st_nextno {l lp kd lb md : Int32} {t : Tok} {f : Fm} {r : List Fm} {d : List Nd} {fn : List Wt} (h : ¬ (f.k = kd ∧ f.lb = 0)) : Rs.nextBlock (0, l, 0, lp, f, r, d, [], fn) t kd lb md = none := by
  unfold Rs.nextBlock
  rw [if_pos (show f.k ≠ kd ∨ f.lb ≠ 0 from by
    by_cases c : f.k = kd
    · exact Or.inr (fun e => h ⟨c, e⟩)
    · exact Or.inl c)]
end Stm
end

section
section Stm
variable {T : Tks} {sm : Int32 → Int32 → Int32 → Bool} {m : Nat}
/-- an if's branches with one more -/
theorem SV.br {a c i : Nat} {L S : Tr Lb} (h : (T.tkd (a + 1) = 50 ∧ T.tkd c = 51 ∧ ∃ r, VV T 0 r (a + 2) c L) ∨ ∃ m l1 r e, SV T 2 a m l1 ∧ T.tkd m = 11 ∧ T.tkd (m + 1) = 50 ∧ VV T 0 r (m + 2) c e ∧ T.tkd c = 51 ∧ L = Tr.app l1 e) (hS : SV T 1 (c + 1) i S) : SV T 2 a i (Tr.app L (Tr.nd (T.blk c) S)) := by
  rcases h with ⟨h1, h2, r, h3⟩ | ⟨k, l1, r, e, h1, h2, h3, h4, h5, h6⟩
  · exact SV.mk (Or.inl ⟨c, r, L, S, h1, h3, h2, hS, rfl⟩)
  · exact SV.mk (Or.inr ⟨k, c, r, e, S, l1, h1, h2, h3, h4, h5, hS, by rw [h6, Tr.app_assoc]⟩)
theorem stm_elif (hT : TkOK T m) {i : Nat} {bl fs : List Nat} {s : Rs} (hR : SR T m i bl fs s) (hk : T.tkd i = 11) : StR T sm m i s (stElif T.tkd i bl fs) := by
  obtain ⟨X, f, r, hs, hb, hsz, hbl, hok, hi, hf, hf2⟩ := hR
  subst hs
  have hle := hT.le
  have hi1 : i + 1 < m := hT.go hi (by omega)
  have hse : (SRs T bl fs X f r).settle (tokC T i) = SRs T bl fs X f r := se_word (by unfold wordK; omega)
  have hkd := BI.kd hb
  unfold stElif
  by_cases c : bl.head? = some 10
  · rw [if_pos c]
    match bl, r, hb, c, hsz, hbl, hok, hkd, hse with
    | kd :: bl', [], hb, c, hsz, hbl, hok, hkd, hse =>
      obtain ⟨a, c0, L, S, X0, h2, _⟩ := hb
      exact h2.elim
    | kd :: bl', g :: r', hb, c, hsz, hbl, hok, hkd, hse =>
      have hkd10 : kd = 10 := Option.some.inj c
      subst hkd10
      obtain ⟨a, c0, L, S, X0, b1, b2, b3, b4, b5⟩ := hb
      obtain ⟨o1, o2, o3, o4, o5, o6, o7⟩ := b2
      have hf11 := hkd.1.mpr c
      have oi : f.wd = T.twd a ∧ T.tkd a = 10 ∧ ((T.tkd (a + 1) = 50 ∧ T.tkd c0 = 51 ∧ ∃ r, VV T 0 r (a + 2) c0 L) ∨ ∃ m l1 r e, SV T 2 a m l1 ∧ T.tkd m = 11 ∧ T.tkd (m + 1) = 50 ∧ VV T 0 r (m + 2) c0 e ∧ T.tkd c0 = 51 ∧ L = Tr.app l1 e) := by
        rcases o7 with h | h | h | h | h | h | h
        · exact h.2.2.2
        all_goals exact absurd h.1 (by decide)
      subst b5
      have hsz0 := hsz
      rw [Tr.sz_app, Tr.sz_app, List.length_cons] at hsz0
      have hbr := SV.br oi.2.2 b3
      have s1 : (SRs T (10 :: bl') fs (Tr.app X0 (Tr.app L S)) f (g :: r')).stands (tokC T i) sm = some (2, nI (bl'.length + 1), 0, nI (lpN (10 :: bl')), (((f.s_pa (f.pa + 1)).s_lb 0).s_ip 0).s_ipl (T.tpl i), g :: r', Tr.pn (Tr.app X0 (Tr.app L (Tr.nd (T.blk c0) S))), [], fs.map (fnW T)) := by
        rw [tokC_of hk]
        refine (st_next (k := nI (ck 11)) (p := T.tpl i) (v := T.twd i) (kd := 11) (lb := 0) (md := 2) (l := nI (10 :: bl').length) (lp := nI (lpN (10 :: bl'))) (f := f) (r := g :: r') (d := Tr.pn (Tr.app X0 (Tr.app L S))) (fn := fs.map (fnW T)) hf11).trans ?_
        rw [blk_nadd o2 b4 (by omega)]
        rfl
      have g1 := GoN.one s1
      rw [se_no (Or.inr (Or.inl rfl))] at g1
      have h1 := cond_run (sm := sm) (lp := nI (lpN (10 :: bl'))) (f := (((f.s_pa (f.pa + 1)).s_lb 0).s_ip 0).s_ipl (T.tpl i)) (r := g :: r') (X := Tr.app X0 (Tr.app L (Tr.nd (T.blk c0) S))) (fn := fs.map (fnW T)) hT hi1 (lv := bl'.length + 1) (by rw [List.length_cons] at hbl; exact hbl) (by
        show f.k ≠ 13
        rw [hf11.1]; decide) (by rw [Tr.sz_app, Tr.sz_app]; simp only [Tr.sz]; omega)
      rw [List.length_cons]
      cases e : rdCond T.tkd (i + 1) (bl'.length + 1) with
      | inl j =>
        rw [e] at h1
        exact ⟨h1.1, by rw [hse]; exact g1.flt h1.2⟩
      | inr j' =>
        rw [e] at h1
        obtain ⟨h50, c2, t, ρ, rfl, hc1, hc51, hv, hz, hgo⟩ := h1
        have hvl := hv.lt
        have hvz := hv.szle (by decide)
        have hrtL := Tr.rt_le L
        refine ⟨_, by rw [hse]; exact g1.transS hgo, ?_⟩
        refine ⟨_, _, _, rfl, ⟨a, c2, Tr.app (Tr.app L (Tr.nd (T.blk c0) S)) t, .leaf, X0, b1, ⟨o1, rfl, ?_, o4, o5, o6, Or.inl ⟨rfl, hf11.1, rfl, oi.1, oi.2.1, Or.inr ⟨i, _, ρ, t, hbr, hk, h50, hv, hc51, rfl⟩⟩⟩, SV.nil, rfl, ?_⟩, ?_, hbl, hok, hc1, by omega, fun q hq => by have := hf2 q hq; omega⟩
        · show f.pa + 1 + 1 = _
          rw [o3, Tr.rt_app, Tr.rt_app, hv.rt1, show nI (Tr.rt L) + 1 = nI (Tr.rt L + 1) from nI_add' _ 1, show nI (Tr.rt L + 1) + 1 = nI (Tr.rt L + 1 + 1) from nI_add' _ 1]
          rfl
        · rw [Tr.app_nil, Tr.app_assoc]
        · rw [Tr.sz_app, Tr.sz_app, Tr.sz_app, List.length_cons]; simp only [Tr.sz]; omega
  · rw [if_neg c]
    refine ⟨hi, ?_⟩
    rw [hse]
    refine FltN.now ?_
    rw [tokC_of hk]
    exact st_nextno (fun x => c (hkd.1.mp x))
def stElse (i k0 k1 : Nat) (bl fs : List Nat) : Sum Nat (Nat × List Nat × List Nat) := if bl.head? = some k0 then .inr (i + 1, k1 :: bl.tail, fs) else .inl i
theorem stm_else (hT : TkOK T m) {i : Nat} {bl fs : List Nat} {s : Rs} (hR : SR T m i bl fs s) (hk : T.tkd i = 12) : StR T sm m i s (stElse i 10 12 bl fs) := by
  obtain ⟨X, f, r, hs, hb, hsz, hbl, hok, hi, hf, hf2⟩ := hR
  subst hs
  have hle := hT.le
  have hi1 : i + 1 < m := hT.go hi (by omega)
  have hse : (SRs T bl fs X f r).settle (tokC T i) = SRs T bl fs X f r := se_word (by unfold wordK; omega)
  have hkd := BI.kd hb
  unfold stElse
  by_cases c : bl.head? = some 10
  · rw [if_pos c]
    match bl, r, hb, c, hsz, hbl, hok, hkd, hse with
    | kd :: bl', [], hb, c, hsz, hbl, hok, hkd, hse =>
      obtain ⟨a, c0, L, S, X0, h2, _⟩ := hb
      exact h2.elim
    | kd :: bl', g :: r', hb, c, hsz, hbl, hok, hkd, hse =>
      have hkd10 : kd = 10 := Option.some.inj c
      subst hkd10
      obtain ⟨a, c0, L, S, X0, b1, b2, b3, b4, b5⟩ := hb
      obtain ⟨o1, o2, o3, o4, o5, o6, o7⟩ := b2
      have hf11 := hkd.1.mpr c
      have oi : f.wd = T.twd a ∧ T.tkd a = 10 ∧ ((T.tkd (a + 1) = 50 ∧ T.tkd c0 = 51 ∧ ∃ r, VV T 0 r (a + 2) c0 L) ∨ ∃ m l1 r e, SV T 2 a m l1 ∧ T.tkd m = 11 ∧ T.tkd (m + 1) = 50 ∧ VV T 0 r (m + 2) c0 e ∧ T.tkd c0 = 51 ∧ L = Tr.app l1 e) := by
        rcases o7 with h | h | h | h | h | h | h
        · exact h.2.2.2
        all_goals exact absurd h.1 (by decide)
      subst b5
      have hsz0 := hsz
      rw [Tr.sz_app, Tr.sz_app, List.length_cons] at hsz0
      have hbr := SV.br oi.2.2 b3
      have s1 : (SRs T (10 :: bl') fs (Tr.app X0 (Tr.app L S)) f (g :: r')).stands (tokC T i) sm = some (SRs T (12 :: bl') fs (Tr.app X0 (Tr.app L (Tr.nd (T.blk c0) S))) ((((f.s_pa (f.pa + 1)).s_lb 1).s_ip 0).s_ipl (T.tpl i)) (g :: r')) := by
        rw [tokC_of hk]
        refine (st_next (k := nI (ck 12)) (p := T.tpl i) (v := T.twd i) (kd := 11) (lb := 1) (md := 0) (l := nI (10 :: bl').length) (lp := nI (lpN (10 :: bl'))) (f := f) (r := g :: r') (d := Tr.pn (Tr.app X0 (Tr.app L S))) (fn := fs.map (fnW T)) hf11).trans ?_
        rw [blk_nadd o2 b4 (by omega)]
        rfl
      refine ⟨_, by rw [hse]; exact GoS.one s1, ?_⟩
      refine ⟨_, _, _, rfl, ⟨a, i, Tr.app L (Tr.nd (T.blk c0) S), .leaf, X0, b1, ⟨o1, rfl, ?_, o4, o5, o6, Or.inr (Or.inl ⟨rfl, hf11.1, rfl, oi.1, oi.2.1, hbr, hk⟩)⟩, SV.nil, rfl, ?_⟩, ?_, hbl, ⟨fun h => absurd h (by decide), hok.2⟩, hi1, by omega, fun q hq => by have := hf2 q hq; omega⟩
      · show f.pa + 1 = _
        rw [o3, Tr.rt_app]
        exact nI_add' _ 1
      · rw [Tr.app_nil]
      · rw [Tr.sz_app, Tr.sz_app]; simp only [Tr.sz]
        show _ + (bl'.length + 1) ≤ i + 1
        omega
  · rw [if_neg c]
    refine ⟨hi, ?_⟩
    rw [hse]
    refine FltN.now ?_
    rw [tokC_of hk]
    exact st_nextno (fun x => c (hkd.1.mp x))
theorem stm_catch (hT : TkOK T m) {i : Nat} {bl fs : List Nat} {s : Rs} (hR : SR T m i bl fs s) (hk : T.tkd i = 23) : StR T sm m i s (stElse i 22 23 bl fs) := by
  obtain ⟨X, f, r, hs, hb, hsz, hbl, hok, hi, hf, hf2⟩ := hR
  subst hs
  have hle := hT.le
  have hi1 : i + 1 < m := hT.go hi (by omega)
  have hse : (SRs T bl fs X f r).settle (tokC T i) = SRs T bl fs X f r := se_word (by unfold wordK; omega)
  have hkd := BI.kd hb
  unfold stElse
  by_cases c : bl.head? = some 22
  · rw [if_pos c]
    match bl, r, hb, c, hsz, hbl, hok, hkd, hse with
    | kd :: bl', [], hb, c, hsz, hbl, hok, hkd, hse =>
      obtain ⟨a, c0, L, S, X0, h2, _⟩ := hb
      exact h2.elim
    | kd :: bl', g :: r', hb, c, hsz, hbl, hok, hkd, hse =>
      have hkd22 : kd = 22 := Option.some.inj c
      subst hkd22
      obtain ⟨a, c0, L, S, X0, b1, b2, b3, b4, b5⟩ := hb
      obtain ⟨o1, o2, o3, o4, o5, o6, o7⟩ := b2
      have hf14 := hkd.2.1.mpr c
      have oi : f.wd = T.twd a ∧ T.tkd a = 22 ∧ c0 = a ∧ L = .leaf := by
        rcases o7 with h | h | h | h | h | h | h
        · exact absurd h.1 (by decide)
        · exact absurd h.1 (by decide)
        · exact absurd h.1 (by decide)
        · exact absurd h.1 (by decide)
        · exact h.2.2.2
        · exact absurd h.1 (by decide)
        · exact absurd h.1 (by decide)
      obtain ⟨oi1, oi2, rfl, rfl⟩ := oi
      subst b5
      have hsz0 := hsz
      rw [Tr.sz_app, Tr.sz_app, List.length_cons] at hsz0
      have s1 : (SRs T (22 :: bl') fs (Tr.app X0 (Tr.app .leaf S)) f (g :: r')).stands (tokC T i) sm = some (SRs T (23 :: bl') fs (Tr.app X0 (Tr.app .leaf (Tr.nd (T.blk c0) S))) ((((f.s_pa (f.pa + 1)).s_lb 1).s_ip 0).s_ipl (T.tpl i)) (g :: r')) := by
        rw [tokC_of hk]
        refine (st_next (k := nI (ck 23)) (p := T.tpl i) (v := T.twd i) (kd := 14) (lb := 1) (md := 0) (l := nI (22 :: bl').length) (lp := nI (lpN (22 :: bl'))) (f := f) (r := g :: r') (d := Tr.pn (Tr.app X0 (Tr.app .leaf S))) (fn := fs.map (fnW T)) hf14).trans ?_
        rw [blk_nadd o2 b4 (by omega)]
        rfl
      refine ⟨_, by rw [hse]; exact GoS.one s1, ?_⟩
      refine ⟨_, _, _, rfl, ⟨c0, i, Tr.nd (T.blk c0) S, .leaf, X0, b1, ⟨o1, rfl, ?_, o4, o5, o6, Or.inr (Or.inr (Or.inr (Or.inr (Or.inr (Or.inl ⟨rfl, hf14.1, rfl, oi1, oi2, hk, S, b3, rfl⟩)))))⟩, SV.nil, rfl, ?_⟩, ?_, hbl, ⟨fun h => absurd h (by decide), hok.2⟩, hi1, by omega, fun q hq => by have := hf2 q hq; omega⟩
      · show f.pa + 1 = _
        rw [o3]
        exact nI_add' _ 1
      · rw [Tr.app_nil]; rfl
      · rw [Tr.sz_app, Tr.sz_app]; simp only [Tr.sz] at hsz0 ⊢
        show _ + (bl'.length + 1) ≤ i + 1
        omega
  · rw [if_neg c]
    refine ⟨hi, ?_⟩
    rw [hse]
    refine FltN.now ?_
    rw [tokC_of hk]
    exact st_nextno (fun x => c (hkd.2.1.mp x))
def stEnd (i : Nat) (bl fs : List Nat) : Sum Nat (Nat × List Nat × List Nat) := if bl = [] ∨ bl.head? = some 22 then .inl i else .inr (i + 1, bl.tail, fs)
theorem st_endno {l lp p v : Int32} {f : Fm} {r : List Fm} {d : List Nd} {fn : List Wt} (h : f.k = 0 ∨ (f.k = 14 ∧ f.lb = 0)) : Rs.stands (0, l, 0, lp, f, r, d, [], fn) (8, p, v) sm = none := by
  show (if f.k = 0 ∨ (f.k = 14 ∧ f.lb = 0) then none else _) = none
  rw [if_pos h]
theorem st_endok {l lp p v : Int32} {f g : Fm} {r : List Fm} {d : List Nd} {fn : List Wt} (h : ¬ (f.k = 0 ∨ (f.k = 14 ∧ f.lb = 0))) : Rs.stands (0, l, 0, lp, f, g :: r, d, [], fn) (8, p, v) sm = some (0, l - 1, f.sg, lp - (if Rs.isLoopK f.k = true then 1 else 0), g.s_ip (g.ip + 1), r, Rs.nadd (Rs.nadd d 3 f.ipl (-1) f.ip 0) f.k f.pl (-1) (f.pa + 1) f.wd, [], fn) := by
  show (if f.k = 0 ∨ (f.k = 14 ∧ f.lb = 0) then none else some (Rs.endBlocksS (0, l, 0, lp, f, g :: r, d, [], fn))) = _
  rw [if_neg h]
  rfl
theorem stm_end (hT : TkOK T m) {i : Nat} {bl fs : List Nat} {s : Rs} (hR : SR T m i bl fs s) (hk : T.tkd i = 13) : StR T sm m i s (stEnd i bl fs) := by
  obtain ⟨X, f, r, hs, hb, hsz, hbl, hok, hi, hf, hf2⟩ := hR
  subst hs
  have hle := hT.le
  have hi1 : i + 1 < m := hT.go hi (by omega)
  have hse : (SRs T bl fs X f r).settle (tokC T i) = SRs T bl fs X f r := se_word (by unfold wordK; omega)
  have hkd := BI.kd hb
  unfold stEnd
  by_cases c : bl = [] ∨ bl.head? = some 22
  · rw [if_pos c]
    refine ⟨hi, ?_⟩
    rw [hse]
    refine FltN.now ?_
    rw [tokC_of hk]
    exact st_endno (c.imp hkd.2.2.mpr hkd.2.1.mpr)
  · rw [if_neg c]
    have hno : ¬ (f.k = 0 ∨ (f.k = 14 ∧ f.lb = 0)) := fun x => c (x.imp hkd.2.2.mp hkd.2.1.mp)
    match bl, r, hb, c, hsz, hbl, hok, hkd, hse with
    | [], r, hb, c, hsz, hbl, hok, hkd, hse => exact absurd (Or.inl rfl) c
    | kd :: bl', [], hb, c, hsz, hbl, hok, hkd, hse =>
      obtain ⟨a, c0, L, S, X0, h2, _⟩ := hb
      exact h2.elim
    | kd :: bl', g :: r', hb, c, hsz, hbl, hok, hkd, hse =>
      obtain ⟨a, c0, L, S, X0, b1, b2, b3, b4, b5⟩ := hb
      obtain ⟨o1, o2, o3, o4, o5, o6, o7⟩ := b2
      subst b5
      have hsz0 := hsz
      rw [Tr.sz_app, Tr.sz_app, List.length_cons] at hsz0
      have hrtL := Tr.rt_le L
      -- the whole statement
      obtain ⟨lab, e1, e2, e3, e4, e5, hsv⟩ : ∃ lab : Lb, lab.k = f.k ∧ lab.pl = f.pl ∧ lab.sec = -1 ∧ lab.wd = f.wd ∧ (if Rs.isLoopK f.k = true then (1 : Nat) else 0) = (if kd = 14 ∨ kd = 15 then 1 else 0) ∧ SV T 0 a (i + 1) (Tr.nd lab (Tr.app L (Tr.nd (T.blk c0) S))) := by
        rcases o7 with h | h | h | h | h | h | h
        · obtain ⟨k1, k2, k3, k4, k5, k6⟩ := h
          exact ⟨T.lb 11 a, k2.symm, o1.symm, rfl, k4.symm, by rw [k1, k2]; rfl, SV.mk (Or.inr (Or.inr (Or.inr (Or.inr (Or.inr (Or.inl ⟨i, _, k5, SV.br k6 b3, Or.inl ⟨hk, rfl, rfl⟩⟩))))))⟩
        · obtain ⟨k1, k2, k3, k4, k5, k6, k7⟩ := h
          exact ⟨T.lb 11 a, k2.symm, o1.symm, rfl, k4.symm, by rw [k1, k2]; rfl, SV.mk (Or.inr (Or.inr (Or.inr (Or.inr (Or.inr (Or.inl ⟨c0, L, k5, k6, Or.inr ⟨k7, i, S, b3, hk, rfl, rfl⟩⟩))))))⟩
        · obtain ⟨k1, k2, k3, k4, k5, k6, k7, ρ, k8⟩ := h
          exact ⟨T.lb 12 a, k2.symm, o1.symm, rfl, k4.symm, by rw [k1, k2]; rfl, SV.mk (Or.inr (Or.inr (Or.inr (Or.inr (Or.inr (Or.inr (Or.inl ⟨c0, ρ, L, i, S, k5, k6, k8, k7, b3, hk, rfl, rfl⟩)))))))⟩
        · obtain ⟨k1, k2, k3, k4, k5, k6, k7, k8, k9, ρ, e, k10, k11⟩ := h
          refine ⟨T.lb 13 a, k2.symm, o1.symm, rfl, k4.symm, by rw [k1, k2]; rfl, SV.mk (Or.inr (Or.inr (Or.inr (Or.inr (Or.inr (Or.inr (Or.inr (Or.inl ⟨c0, ρ, e, i, S, k5, k6, k7, k8, k10, k9, b3, hk, rfl, ?_⟩))))))))⟩
          rw [k11, Tr.app_assoc]
        · obtain ⟨k1, _⟩ := h
          exact absurd (Or.inr (by rw [k1]; rfl)) c
        · obtain ⟨k1, k2, k3, k4, k5, k6, S1, k7, k8⟩ := h
          refine ⟨T.lb 14 a, k2.symm, o1.symm, rfl, k4.symm, by rw [k1, k2]; rfl, SV.mk (Or.inr (Or.inr (Or.inr (Or.inr (Or.inr (Or.inr (Or.inr (Or.inr (Or.inl ⟨c0, i, S1, S, k5, k7, k6, b3, hk, rfl, ?_⟩)))))))))⟩
          rw [k8]
        · obtain ⟨k1, k2, k3, nm, R, Q, k4, k5, k6⟩ := h
          refine ⟨(1, T.tpl a, -1, T.twd nm, nI nm), k2.symm, o1.symm, rfl, k5.symm, by rw [k1, k2]; rfl, SV.mk (Or.inr (Or.inr (Or.inr (Or.inr (Or.inr (Or.inr (Or.inr (Or.inr (Or.inr ⟨nm, c0, i, R, Q, S, k4, b3, hk, rfl, ?_⟩)))))))))⟩
          rw [k6, Tr.app_assoc]
      have hnd : Rs.nadd (Tr.pn (Tr.app X0 (Tr.app L (Tr.nd (T.blk c0) S)))) f.k f.pl (-1) (f.pa + 1) f.wd = Tr.pn (Tr.app X0 (Tr.nd lab (Tr.app L (Tr.nd (T.blk c0) S)))) := by
        obtain ⟨lk, lp, ls, lw, lt⟩ := lab
        have e1 : lk = f.k := e1
        have e2 : lp = f.pl := e2
        have e3 : ls = -1 := e3
        have e4 : lw = f.wd := e4
        subst e1 e2 e3 e4
        rw [o3, show nI (Tr.rt L) + 1 = nI (Tr.rt (Tr.app L (Tr.nd (T.blk c0) S))) by rw [Tr.rt_app]; exact nI_add' _ 1]
        exact nadd_pn lt (by rw [Tr.sz_app]; simp only [Tr.sz]; omega)
      have hlp : nI (lpN (kd :: bl')) - (if Rs.isLoopK f.k = true then (1 : Int32) else 0) = nI (lpN bl') := by
        have e6 : (if Rs.isLoopK f.k = true then (1 : Int32) else 0) = nI (if kd = 14 ∨ kd = 15 then 1 else 0) := by
          rw [← e5]
          by_cases q : Rs.isLoopK f.k = true
          · rw [if_pos q, if_pos q]; rfl
          · rw [if_neg q, if_neg q]; rfl
        rw [e6]
        show nI (lpN bl' + (if kd = 14 ∨ kd = 15 then 1 else 0)) - _ = _
        rw [nI_sub' (by omega), Nat.add_sub_cancel]
      have s1 : (SRs T (kd :: bl') fs (Tr.app X0 (Tr.app L S)) f (g :: r')).stands (tokC T i) sm = some (SRs T bl' fs (Tr.app X0 (Tr.nd lab (Tr.app L (Tr.nd (T.blk c0) S)))) (g.s_ip (g.ip + 1)) r') := by
        rw [tokC_of hk]
        refine (st_endok (l := nI (bl'.length + 1)) (lp := nI (lpN (kd :: bl'))) (f := f) (g := g) (r := r') (d := Tr.pn (Tr.app X0 (Tr.app L S))) (fn := fs.map (fnW T)) hno).trans ?_
        rw [blk_nadd o2 b4 (by omega), hnd, hlp, o5, nI_p1]
        rfl
      refine ⟨_, by rw [hse]; exact GoS.one s1, ?_⟩
      refine ⟨_, _, _, rfl, BI.add hsv rfl b1, ?_, ?_, hok.2, hi1, by omega, fun q hq => by have := hf2 q hq; omega⟩
      · rw [Tr.sz_app]; simp only [Tr.sz]; rw [Tr.sz_app]; simp only [Tr.sz]
        show _ + bl'.length ≤ i + 1
        omega
      · rw [List.length_cons] at hbl
        show bl'.length ≤ 60
        omega
end Stm
end
