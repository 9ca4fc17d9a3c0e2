section
/-- a forest: a node's data, its parts, what stands beside it -/
abbrev Tr (α : Type) : Type := Std.DTreeMap.Internal.Impl α (fun _ => Unit)
abbrev Tr.nil {α : Type} : Tr α := Std.DTreeMap.Internal.Impl.leaf
abbrev Tr.cons {α : Type} (a : α) (l r : Tr α) : Tr α := Std.DTreeMap.Internal.Impl.inner 0 a () l r
def Tr.post {α : Type} : Tr α → List α
  | .leaf => []
  | .inner _ a _ l r => Tr.post l ++ a :: Tr.post r
def Tr.pre {α : Type} : Tr α → List α
  | .leaf => []
  | .inner _ a _ l r => a :: (Tr.pre l ++ Tr.pre r)
theorem Tr.len {α : Type} (t : Tr α) : (Tr.post t).length = (Tr.pre t).length := by
  induction t with
  | leaf => rfl
  | inner _ a _ l r il ir => simp only [Tr.post, Tr.pre, List.length_append, List.length_cons, il, ir]; omega
end

section
/-- a node's own data: kind, place, second place, width, its token's number (or -1) -/
abbrev Lb : Type := Int32 × Int32 × Int32 × Int32 × Int32
abbrev Lb.k (z : Lb) : Int32 := z.1
abbrev Lb.pl (z : Lb) : Int32 := z.2.1
abbrev Lb.sec (z : Lb) : Int32 := z.2.2.1
abbrev Lb.wd (z : Lb) : Int32 := z.2.2.2.1
abbrev Lb.tk (z : Lb) : Int32 := z.2.2.2.2
abbrev Lb.s_k (z : Lb) (v : Int32) : Lb := (v, z.2.1, z.2.2.1, z.2.2.2.1, z.2.2.2.2)
abbrev Lb.s_pl (z : Lb) (v : Int32) : Lb := (z.1, v, z.2.2.1, z.2.2.2.1, z.2.2.2.2)
abbrev Lb.s_sec (z : Lb) (v : Int32) : Lb := (z.1, z.2.1, v, z.2.2.2.1, z.2.2.2.2)
abbrev Lb.s_wd (z : Lb) (v : Int32) : Lb := (z.1, z.2.1, z.2.2.1, v, z.2.2.2.2)
abbrev Lb.s_tk (z : Lb) (v : Int32) : Lb := (z.1, z.2.1, z.2.2.1, z.2.2.2.1, v)
def Tr.sz {α : Type} : Tr α → Nat
  | .leaf => 0
  | .inner _ _ _ l r => Tr.sz l + Tr.sz r + 1
def Tr.rt {α : Type} : Tr α → Nat
  | .leaf => 0
  | .inner _ _ _ _ r => Tr.rt r + 1
theorem Tr.rt_le {α : Type} (t : Tr α) : Tr.rt t ≤ Tr.sz t := by
  induction t with
  | leaf => exact Nat.le_refl 0
  | inner _ a _ l r il ir => simp only [Tr.rt, Tr.sz]; omega
/-- what the class holds of a node whose parts are l -/
def Lb.nd (a : Lb) (l : Tr Lb) : Nd := (a.k, a.pl, a.sec, nI (Tr.rt l), a.wd, nI (Tr.sz l + 1))
/-- the draft at p holds the forest -/
def Tr.DH (b : Nat → Int32) : Nat → Tr Lb → Prop
  | _, .leaf => True
  | p, .inner _ a _ l r => Tr.DH b p l ∧ (∀ j, j < 6 → b ((p + Tr.sz l) * 7 + j) = (a.nd l).row j) ∧ Tr.DH b (p + Tr.sz l + 1) r
/-- the tree at q holds the forest, whose roots are parts of w -/
def Tr.TH (b : Nat → Int32) : Nat → Int32 → Tr Lb → Prop
  | _, _, .leaf => True
  | q, w, .inner _ a _ l r => (∀ j, j < 6 → b (q * 7 + j) = (a.nd l).row j) ∧ b (q * 7 + 6) = w ∧ Tr.TH b (q + 1) (nI q) l ∧ Tr.TH b (q + 1 + Tr.sz l) w r
/-- the roots' numbers stand in the draft -/
def Tr.LK (b : Nat → Int32) : Nat → Nat → Tr Lb → Prop
  | _, _, .leaf => True
  | p, q, .inner _ _ _ l r => b ((p + Tr.sz l) * 7 + 6) = nI q ∧ Tr.LK b (p + Tr.sz l + 1) (q + 1 + Tr.sz l) r
/-- the roots' whole stands in the tree -/
def Tr.RP (b : Nat → Int32) : Nat → Int32 → Tr Lb → Prop
  | _, _, .leaf => True
  | q, w, .inner _ _ _ l r => b (q * 7 + 6) = w ∧ Tr.RP b (q + 1 + Tr.sz l) w r
theorem Nd_getA {n N i j : Nat} {b : Nat → Int32} (hn : n * 7 ≤ N) (hN : N ≤ 2 ^ 20) (hi : i < n) (hj : j < 7) : F_Nd_get (nI i) (nI j) (nI n) N b = some (b (i * 7 + j)) := by
  unfold F_Nd_get
  have h2 : i * 7 + j < N := by omega
  simp (disch := omega) only [lit_nI, nI_eq', nI_add', nI_le', nI_lt', nI_nn, nI_ge0, nI_clamp', nI_ne1, nI_ne2, nI_ne3, m1_lt, m1_le, m1_ge, m1_gt, if_false, if_true, Option.bind_some, nm_app]
  rw [if_neg (by omega), if_neg (by omega), if_neg (by omega), if_neg (by omega), nI_mul', nI_add', inb_ok h2 (by omega), nI_clamp' (by omega)]
theorem Nd_setA {n N i j : Nat} {v : Int32} {b : Nat → Int32} (hn : n * 7 ≤ N) (hN : N ≤ 2 ^ 20) (hi : i < n) (hj : j < 7) : F_Nd_set (nI i) (nI j) v (nI n) N b = some (upd b (i * 7 + j) v) := by
  unfold F_Nd_set
  have h2 : i * 7 + j < N := by omega
  simp (disch := omega) only [lit_nI, nI_eq', nI_add', nI_le', nI_lt', nI_nn, nI_ge0, nI_clamp', nI_ne1, nI_ne2, nI_ne3, m1_lt, m1_le, m1_ge, m1_gt, if_false, if_true, Option.bind_some, nm_app]
  rw [if_neg (by omega), if_neg (by omega), if_neg (by omega), if_neg (by omega), nI_mul', nI_add', inb_ok h2 (by omega), nI_clamp' (by omega)]
theorem Tr.DH_cg {b b' : Nat → Int32} {t : Tr Lb} : ∀ {p : Nat}, (∀ i j, p ≤ i → i < p + Tr.sz t → j < 6 → b' (i * 7 + j) = b (i * 7 + j)) → Tr.DH b p t → Tr.DH b' p t := by
  induction t with
  | leaf => intro p _ _; trivial
  | inner _ a _ l r il ir =>
    intro p h hd
    simp only [Tr.sz] at h
    obtain ⟨h1, h2, h3⟩ := hd
    exact ⟨il (fun i j a1 a2 a3 => h i j a1 (by omega) a3) h1, fun j hj => (h _ j (by omega) (by omega) hj).trans (h2 j hj), ir (fun i j a1 a2 a3 => h i j (by omega) (by omega) a3) h3⟩
theorem Tr.TH_cg {b b' : Nat → Int32} {t : Tr Lb} : ∀ {q : Nat} {w : Int32}, (∀ i j, q ≤ i → i < q + Tr.sz t → j < 7 → b' (i * 7 + j) = b (i * 7 + j)) → Tr.TH b q w t → Tr.TH b' q w t := by
  induction t with
  | leaf => intro p _ _ _; trivial
  | inner _ a _ l r il ir =>
    intro q w h hd
    simp only [Tr.sz] at h
    obtain ⟨h1, h2, h3, h4⟩ := hd
    exact ⟨fun j hj => (h _ j (by omega) (by omega) (by omega)).trans (h1 j hj), (h _ 6 (by omega) (by omega) (by omega)).trans h2, il (fun i j a1 a2 a3 => h i j (by omega) (by omega) a3) h3, ir (fun i j a1 a2 a3 => h i j (by omega) (by omega) a3) h4⟩
theorem Tr.LK_cg {b b' : Nat → Int32} {t : Tr Lb} : ∀ {p q : Nat}, (∀ i, p ≤ i → i < p + Tr.sz t → b' (i * 7 + 6) = b (i * 7 + 6)) → Tr.LK b p q t → Tr.LK b' p q t := by
  induction t with
  | leaf => intro p _ _ _; trivial
  | inner _ a _ l r il ir =>
    intro p q h hd
    simp only [Tr.sz] at h
    exact ⟨(h _ (by omega) (by omega)).trans hd.1, ir (fun i a1 a2 => h i (by omega) (by omega)) hd.2⟩
theorem Tr.RP_cg {b b' : Nat → Int32} {t : Tr Lb} : ∀ {q : Nat} {w : Int32}, (∀ i, q ≤ i → i < q + Tr.sz t → b' (i * 7 + 6) = b (i * 7 + 6)) → Tr.RP b q w t → Tr.RP b' q w t := by
  induction t with
  | leaf => intro p _ _ _; trivial
  | inner _ a _ l r il ir =>
    intro q w h hd
    simp only [Tr.sz] at h
    exact ⟨(h _ (by omega) (by omega)).trans hd.1, ir (fun i a1 a2 => h i (by omega) (by omega)) hd.2⟩
/-- only links of p .. p + z - 1 differ -/
def Lks (b b' : Nat → Int32) (p z : Nat) : Prop := ∀ i j, j < 7 → (i < p ∨ p + z ≤ i ∨ j ≠ 6) → b' (i * 7 + j) = b (i * 7 + j)
theorem Lks.rfl {b : Nat → Int32} {p z : Nat} : Lks b b p z := fun _ _ _ _ => Eq.refl _
theorem Lks.trans {b b' b'' : Nat → Int32} {p z p1 z1 p2 z2 : Nat} (h1 : Lks b b' p1 z1) (h2 : Lks b' b'' p2 z2) (a1 : p ≤ p1) (a2 : p1 + z1 ≤ p + z) (a3 : p ≤ p2) (a4 : p2 + z2 ≤ p + z) : Lks b b'' p z := fun i j hj h => by
  rw [h2 i j hj (by omega), h1 i j hj (by omega)]
theorem Lks.upd {b : Nat → Int32} {p z i : Nat} {v : Int32} (h : p ≤ i) (h2 : i < p + z) : Lks b (upd b (i * 7 + 6) v) p z := fun i' j hj h3 => upd_ne (by omega)
theorem nI_sb (a b : Nat) : nI (a + b) - nI (b + 1) = nI a - 1 := by
  have h : nI a - 1 + nI (b + 1) = nI (a + b) := by
    rw [← nI_add' b 1, ← nI_add' a b, Int32.add_comm (nI b) (nI 1), ← Int32.add_assoc]
    rw [show nI a - 1 + nI 1 = nI a from Int32.sub_add_cancel _ _]
  rw [← h, Int32.add_sub_cancel]
theorem nI_p1 (a : Nat) : nI (a + 1) - 1 = nI a := nI_sub' (Nat.le_add_left 1 a)
theorem link15 {n Nh Ng : Nat} (hh : n * 7 ≤ Nh) (hNh : Nh ≤ 2 ^ 20) (hg : n * 7 ≤ Ng) (hNg : Ng ≤ 2 ^ 20) {k P : Nat} (hk : k < n) (hP : P < 2 ^ 20) (t : Tr Lb) : ∀ (fu i p q : Nat) (bg bh : Nat → Int32), Tr.DH bg p t → p + Tr.sz t ≤ n → q + Tr.sz t ≤ n → k < q → bh (k * 7 + 3) = nI P → i + Tr.rt t ≤ P → Tr.rt t < fu →
    ∃ bg' bh', F_Nd_linkParts_15 (nI k) (nI n) Nh (nI n) Ng fu (nI i) (nI (p + Tr.sz t) - 1) (nI (q + Tr.sz t)) bg bh = F_Nd_linkParts_15 (nI k) (nI n) Nh (nI n) Ng (fu - Tr.rt t) (nI (i + Tr.rt t)) (nI p - 1) (nI q) bg' bh' ∧ Tr.LK bg' p q t ∧ Tr.RP bh' q (nI k) t ∧ Lks bg bg' p (Tr.sz t) ∧ Lks bh bh' q (Tr.sz t) := by
  induction t with
  | leaf =>
    intro fu i p q bg bh _ _ _ _ _ _ _
    exact ⟨bg, bh, rfl, trivial, trivial, Lks.rfl, Lks.rfl⟩
  | inner z a u l r il ir =>
    intro fu i p q bg bh hd hp hq hkq h3 hi hf
    simp only [Tr.sz] at hp hq
    simp only [Tr.rt] at hi hf
    obtain ⟨d1, d2, d3⟩ := hd
    obtain ⟨bg1, bh1, e1, k1, r1, g1, f1⟩ := ir fu i (p + Tr.sz l + 1) (q + 1 + Tr.sz l) bg bh d3 (by omega) (by omega) (by omega) h3 (by omega) (by omega)
    have h3' : bh1 (k * 7 + 3) = nI P := (f1 k 3 (by omega) (Or.inr (Or.inr (by omega)))).trans h3
    have d5 : bg1 ((p + Tr.sz l) * 7 + 5) = nI (Tr.sz l + 1) := (g1 _ 5 (by omega) (Or.inr (Or.inr (by omega)))).trans (d2 5 (by omega))
    have d5' : upd bg1 ((p + Tr.sz l) * 7 + 6) (nI q) ((p + Tr.sz l) * 7 + 5) = nI (Tr.sz l + 1) := (upd_ne (by omega)).trans d5
    refine ⟨upd bg1 ((p + Tr.sz l) * 7 + 6) (nI q), upd bh1 (q * 7 + 6) (nI k), ?_, ⟨upd_self, ?_⟩, ⟨upd_self, ?_⟩, ?_, ?_⟩
    · have ep : p + Tr.sz (.inner z a u l r) = p + Tr.sz l + 1 + Tr.sz r := by simp only [Tr.sz]; omega
      have eq : q + Tr.sz (.inner z a u l r) = q + 1 + Tr.sz l + Tr.sz r := by simp only [Tr.sz]; omega
      rw [ep, eq, e1, nI_p1]
      have ef : fu - Tr.rt r = (fu - Tr.rt (.inner z a u l r)) + 1 := by simp only [Tr.rt]; omega
      rw [ef, F_Nd_linkParts_15]
      rw [show (3 : Int32) = nI 3 from rfl, Nd_getA hh hNh hk (by omega), Option.bind_some, h3', if_neg (show ¬ nI P ≤ nI (i + Tr.rt r) by simp (disch := omega) only [lit_nI, nI_eq', nI_add', nI_le', nI_lt', nI_nn, nI_ge0, nI_clamp', nI_ne1, nI_ne2, nI_ne3, m1_lt, m1_le, m1_ge, m1_gt, if_false, if_true, Option.bind_some, nm_app]; omega)]
      rw [show (5 : Int32) = nI 5 from rfl, show (6 : Int32) = nI 6 from rfl, Nd_getA hg hNg (by omega) (by omega), Option.bind_some, d5]
      rw [show nI (q + 1 + Tr.sz l) - nI (Tr.sz l + 1) = nI q by rw [nI_sub' (by omega)]; congr 1; omega]
      rw [Nd_setA hg hNg (by omega) (by omega), Option.bind_some, Nd_setA hh hNh (by omega) (by omega), Option.bind_some, Nd_getA hg hNg (by omega) (by omega), Option.bind_some, d5', nI_sb, show nI (i + Tr.rt r) + 1 = nI (i + Tr.rt (.inner z a u l r)) from nI_add' (i + Tr.rt r) 1]
    · exact Tr.LK_cg (fun i' a1 a2 => upd_ne (by omega)) k1
    · exact Tr.RP_cg (fun i' a1 a2 => upd_ne (by omega)) r1
    · have e : Tr.sz (.inner z a u l r) = Tr.sz l + Tr.sz r + 1 := rfl
      exact g1.trans (Lks.upd (p := p) (z := Tr.sz l + Tr.sz r + 1) (by omega) (by omega)) (by omega) (by omega) (by omega) (by omega)
    · have e : Tr.sz (.inner z a u l r) = Tr.sz l + Tr.sz r + 1 := rfl
      exact f1.trans (Lks.upd (p := q) (z := Tr.sz l + Tr.sz r + 1) (by omega) (by omega)) (by omega) (by omega) (by omega) (by omega)
theorem linkParts {n Nh Ng : Nat} (hh : n * 7 ≤ Nh) (hNh : Nh ≤ 2 ^ 20) (hg : n * 7 ≤ Ng) (hNg : Ng ≤ 2 ^ 20) (l : Tr Lb) {p q : Nat} {bg bh : Nat → Int32} (hd : Tr.DH bg p l) (hp : p + Tr.sz l < n) (hq : q + Tr.sz l < n) (h3 : bh (q * 7 + 3) = nI (Tr.rt l)) (h5 : bh (q * 7 + 5) = nI (Tr.sz l + 1)) :
    ∃ bg' bh', F_Nd_linkParts (nI (p + Tr.sz l)) (nI q) (nI n) Nh bh (nI n) Ng bg = some (bh', bg') ∧ Tr.LK bg' p (q + 1) l ∧ Tr.RP bh' (q + 1) (nI q) l ∧ Lks bg bg' p (Tr.sz l) ∧ Lks bh bh' (q + 1) (Tr.sz l) := by
  have hrt := Tr.rt_le l
  obtain ⟨bg', bh', e, k1, k2, k3, k4⟩ := link15 hh hNh hg hNg (k := q) (P := Tr.rt l) (by omega) (by omega) l FU 0 p (q + 1) bg bh hd (by omega) (by omega) (by omega) h3 (by omega) (by unfold FU; omega)
  refine ⟨bg', bh', ?_, k1, k2, k3, k4⟩
  unfold F_Nd_linkParts F_Nd_after
  rw [show (5 : Int32) = nI 5 from rfl, Nd_getA hh hNh (by omega) (by omega), Option.bind_some, Option.bind_some, h5, nI_add', show q + (Tr.sz l + 1) = q + 1 + Tr.sz l by omega, show (0 : Int32) = nI 0 from rfl, e]
  rw [show FU - Tr.rt l = (FU - Tr.rt l - 1) + 1 by unfold FU; omega, F_Nd_linkParts_15]
  rw [show (3 : Int32) = nI 3 from rfl, Nd_getA hh hNh (by omega) (by omega), Option.bind_some, k4 q 3 (by omega) (Or.inr (Or.inr (by omega))), h3, if_pos (show nI (Tr.rt l) ≤ nI (0 + Tr.rt l) by simp (disch := omega) only [lit_nI, nI_eq', nI_add', nI_le', nI_lt', nI_nn, nI_ge0, nI_clamp', nI_ne1, nI_ne2, nI_ne3, m1_lt, m1_le, m1_ge, m1_gt, if_false, if_true, Option.bind_some, nm_app]; omega)]
theorem arr62 {n Nh Ng : Nat} (hh : n * 7 ≤ Nh) (hNh : Nh ≤ 2 ^ 20) (hg : n * 7 ≤ Ng) (hNg : Ng ≤ 2 ^ 20) {f q : Nat} (hf : f < n) (hq : q < n) {bg : Nat → Int32} {K : Int32 → Nat → (Nat → Int32) → Int32 → (Nat → Int32) → Option ((Int32 × (Nat → Int32) × Nat × (Nat → Int32)) × Nat × Nat)} : ∀ (fu j : Nat) (b : Nat → Int32), j ≤ 6 → 6 - j < fu →
    ∃ b', F_Nd_arrange_62 (nI n) Ng (nI f) Nh (nI n) bg K fu (nI j) (nI q) b = (Option.bind (F_Nd_linkParts (nI f) (nI q) (nI n) Nh b' (nI n) Ng bg) fun ⟨r2, r3⟩ => K (nI f + (-1)) Nh r2 (nI n) r3) ∧ (∀ i c, c < 7 → (i ≠ q ∨ c < j ∨ c = 6) → b' (i * 7 + c) = b (i * 7 + c)) ∧ (∀ c, j ≤ c → c < 6 → b' (q * 7 + c) = bg (f * 7 + c))
  | 0, j, b, _, h => by omega
  | fu + 1, j, b, hj, h => by
    unfold F_Nd_arrange_62
    by_cases c : j = 6
    · subst c
      rw [if_pos (show (5 : Int32) < nI 6 by decide)]
      exact ⟨b, rfl, fun _ _ _ _ => rfl, fun c h1 h2 => by omega⟩
    · rw [if_neg (show ¬ (5 : Int32) < nI j by simp (disch := omega) only [lit_nI, nI_eq', nI_add', nI_le', nI_lt', nI_nn, nI_ge0, nI_clamp', nI_ne1, nI_ne2, nI_ne3, m1_lt, m1_le, m1_ge, m1_gt, if_false, if_true, Option.bind_some, nm_app]; omega), Nd_getA hg hNg hf (by omega), Option.bind_some, Nd_setA hh hNh hq (by omega), Option.bind_some, show nI j + 1 = nI (j + 1) from nI_add' j 1]
      obtain ⟨b', e, h1, h2⟩ := arr62 hh hNh hg hNg hf hq (bg := bg) (K := K) fu (j + 1) (upd b (q * 7 + j) (bg (f * 7 + j))) (by omega) (by omega)
      refine ⟨b', e, fun i c' hc ho => (h1 i c' hc (by omega)).trans (upd_ne (by omega)), fun c' a1 a2 => ?_⟩
      by_cases c3 : c' = j
      · subst c3
        exact (h1 q c' (by omega) (by omega)).trans upd_self
      · exact h2 c' (by omega) a2
theorem arr47 {n Nh Ng : Nat} (hh : n * 7 ≤ Nh) (hNh : Nh ≤ 2 ^ 20) (hg : n * 7 ≤ Ng) (hNg : Ng ≤ 2 ^ 20) (t : Tr Lb) : ∀ (fu p q : Nat) (w : Int32) (bg bh : Nat → Int32), Tr.DH bg p t → Tr.LK bg p q t → Tr.RP bh q w t → p + Tr.sz t ≤ n → q + Tr.sz t ≤ n → Tr.sz t < fu →
    ∃ bg' bh', F_Nd_arrange_47 (nI n) Ng fu (nI (p + Tr.sz t) - 1) Nh bh (nI n) bg = F_Nd_arrange_47 (nI n) Ng (fu - Tr.sz t) (nI p - 1) Nh bh' (nI n) bg' ∧ Tr.TH bh' q w t ∧ Lks bg bg' p (Tr.sz t) ∧ (∀ i j, j < 7 → (i < q ∨ q + Tr.sz t ≤ i) → bh' (i * 7 + j) = bh (i * 7 + j)) := by
  induction t with
  | leaf =>
    intro fu p q w bg bh _ _ _ _ _ _
    exact ⟨bg, bh, rfl, trivial, Lks.rfl, fun _ _ _ _ => rfl⟩
  | inner z a u l r il ir =>
    intro fu p q w bg bh hd hl hr hp hq hf
    simp only [Tr.sz] at hp hq hf
    obtain ⟨d1, d2, d3⟩ := hd
    obtain ⟨l1, l2⟩ := hl
    obtain ⟨r1, r2⟩ := hr
    obtain ⟨bg1, bh1, e1, t1, g1, f1⟩ := ir fu (p + Tr.sz l + 1) (q + 1 + Tr.sz l) w bg bh d3 l2 r2 (by omega) (by omega) (by omega)
    have g1r : ∀ j, j < 6 → bg1 ((p + Tr.sz l) * 7 + j) = (a.nd l).row j := fun j hj => (g1 _ j (by omega) (Or.inl (by omega))).trans (d2 j hj)
    have g1l : bg1 ((p + Tr.sz l) * 7 + 6) = nI q := (g1 _ 6 (by omega) (Or.inl (by omega))).trans l1
    have dh1 : Tr.DH bg1 p l := Tr.DH_cg (fun i j a1 a2 a3 => g1 i j (by omega) (Or.inl (by omega))) d1
    obtain ⟨bh2, e2, f2, w2⟩ := arr62 hh hNh hg hNg (f := p + Tr.sz l) (q := q) (by omega) (by omega) (bg := bg1) (K := F_Nd_arrange_47 (nI n) Ng (fu - Tr.sz r - 1)) FU 0 bh1 (by omega) (by unfold FU; omega)
    have w2' : ∀ j, j < 6 → bh2 (q * 7 + j) = (a.nd l).row j := fun j hj => (w2 j (by omega) hj).trans (g1r j hj)
    obtain ⟨bg3, bh3, e3, k3, p3, g3, f3⟩ := linkParts hh hNh hg hNg l (p := p) (q := q) dh1 (by omega) (by omega) (w2' 3 (by omega)) (w2' 5 (by omega))
    obtain ⟨bg4, bh4, e4, t4, g4, f4⟩ := il (fu - Tr.sz r - 1) p (q + 1) (nI q) bg3 bh3 (Tr.DH_cg (fun i j a1 a2 a3 => g3 i j (by omega) (Or.inr (Or.inr (by omega)))) dh1) k3 p3 (by omega) (by omega) (by omega)
    refine ⟨bg4, bh4, ?_, ⟨?_, ?_, t4, ?_⟩, ?_, ?_⟩
    · have ep : p + Tr.sz (.inner z a u l r) = p + Tr.sz l + 1 + Tr.sz r := by simp only [Tr.sz]; omega
      have ef : fu - Tr.sz r = (fu - Tr.sz r - 1) + 1 := by omega
      have ef2 : fu - Tr.sz (.inner z a u l r) = fu - Tr.sz r - 1 - Tr.sz l := by simp only [Tr.sz]; omega
      rw [ep, e1, nI_p1, ef, ef2, F_Nd_arrange_47, if_neg (show ¬ nI (p + Tr.sz l) < 0 by rw [nI_nn (by omega)]; exact id), show (6 : Int32) = nI 6 from rfl, Nd_getA hg hNg (by omega) (by omega), Option.bind_some, g1l, show (0 : Int32) = nI 0 from rfl, e2, e3, Option.bind_some]
      rw [← show nI (p + Tr.sz l) + (-1) = nI (p + Tr.sz l) - 1 from (Int32.sub_eq_add_neg _ _).symm] at e4
      exact e4
    · intro j hj
      exact (f4 q j (by omega) (Or.inl (by omega))).trans ((f3 q j (by omega) (Or.inl (by omega))).trans (w2' j hj))
    · exact (f4 q 6 (by omega) (Or.inl (by omega))).trans ((f3 q 6 (by omega) (Or.inl (by omega))).trans ((f2 q 6 (by omega) (Or.inr (Or.inr (by omega)))).trans ((f1 q 6 (by omega) (Or.inl (by omega))).trans r1)))
    · refine Tr.TH_cg (fun i j a1 a2 a3 => ?_) t1
      exact (f4 i j a3 (Or.inr (by omega))).trans ((f3 i j a3 (Or.inr (Or.inl (by omega)))).trans (f2 i j a3 (Or.inl (by omega))))
    · have e : Tr.sz (.inner z a u l r) = Tr.sz l + Tr.sz r + 1 := rfl
      rw [e]
      exact (g1.trans g3 (p := p) (z := Tr.sz l + Tr.sz r + 1) (by omega) (by omega) (by omega) (by omega)).trans g4 (by omega) (by omega) (by omega) (by omega)
    · intro i j hj ho
      simp only [Tr.sz] at ho
      exact (f4 i j hj (by omega)).trans ((f3 i j hj (by omega)).trans ((f2 i j hj (Or.inl (by omega))).trans (f1 i j hj (by omega))))
def row0 : Nat → Int32 := ndR (-1) (-1) (-1) 0 0 1 (-1)
theorem Nd_leaf0 {N i : Nat} {b : Nat → Int32} (h : NdV N b (List.replicate i row0)) (hi : i < 16385) : ∃ N' b' c s, F_Nd_addLeaf (-1) (-1) 0 (nI i) N b = some ((nI (i + 1), N', b'), c, s) ∧ NdV N' b' (List.replicate (i + 1) row0) ∧ GrowN N N' c s := by
  obtain ⟨N', b', c, s, e, h1, h2⟩ := Nd_add h (by rw [List.length_replicate]; exact hi) (z := fun _ => 1) (fun j hj => by rw [List.getElem_replicate]; rfl) (k := -1) (p := -1) (s := -1) (w := 0) (m := 0) (by omega) trivial
  rw [List.length_replicate] at e h1
  refine ⟨N', b', c, s, ?_, ?_, h2⟩
  · unfold F_Nd_addLeaf
    exact bw_ok (c' := 0) (s' := 0) e rfl
  · rw [List.replicate_succ']
    rw [bk, show i - i + 1 = 1 by omega] at h1
    exact h1
theorem arr6 {n Ng : Nat} {bg : Nat → Int32} (hn : n ≤ 16385) : ∀ (fu i N : Nat) (b : Nat → Int32), n - i < fu → i ≤ n → NdV N b (List.replicate i row0) →
    ∃ N' b' c s, NdV N' b' (List.replicate n row0) ∧ GrowN N N' c s ∧ ∀ r c2 s2, (Option.bind (F_Nd_set (nI n - 1) 6 0 (nI n) Ng bg) fun r13 => F_Nd_arrange_47 (nI n) Ng FU (nI n - 1) N' b' (nI n) r13) = some (r, c2, s2) → F_Nd_arrange_6 (nI n) Ng bg fu (nI i) N b (nI i) = some (r, c + c2, s + s2)
  | 0, i, N, b, h, _, _ => by omega
  | fu + 1, i, N, b, h, hi, hv => by
    by_cases c : i = n
    · subst c
      refine ⟨N, b, 0, 0, hv, GrowN.rfl, fun r c2 s2 e => ?_⟩
      unfold F_Nd_arrange_6
      rw [if_pos (show nI i ≤ nI i by simp (disch := omega) only [lit_nI, nI_eq', nI_add', nI_le', nI_lt', nI_nn, nI_ge0, nI_clamp', nI_ne1, nI_ne2, nI_ne3, m1_lt, m1_le, m1_ge, m1_gt, if_false, if_true, Option.bind_some, nm_app]; omega), e, Nat.zero_add, Nat.zero_add]
    · obtain ⟨N1, b1, c1, s1, e1, v1, g1⟩ := Nd_leaf0 hv (by omega)
      obtain ⟨N2, b2, c2, s2, v2, g2, k2⟩ := arr6 (Ng := Ng) (bg := bg) hn fu (i + 1) N1 b1 (by omega) (by omega) v1
      refine ⟨N2, b2, c1 + c2, s1 + s2, v2, g1.trans g2, fun r c3 s3 e => ?_⟩
      unfold F_Nd_arrange_6
      rw [if_neg (show ¬ nI n ≤ nI i by simp (disch := omega) only [lit_nI, nI_eq', nI_add', nI_le', nI_lt', nI_nn, nI_ge0, nI_clamp', nI_ne1, nI_ne2, nI_ne3, m1_lt, m1_le, m1_ge, m1_gt, if_false, if_true, Option.bind_some, nm_app]; omega)]
      have e5 := k2 r c3 s3 e
      rw [Nat.add_assoc, Nat.add_assoc, show nI i + 1 = nI (i + 1) from nI_add' i 1]
      exact bw_ok e1 e5
/-- the tree of a whole draft -/
theorem Nd_arrange {z : Nat} {a : Lb} {u : Unit} {l : Tr Lb} {Ng : Nat} {bg : Nat → Int32} (hn : Tr.sz l < 16385) (hg : (Tr.sz l + 1) * 7 ≤ Ng) (hNg : Ng ≤ 2 ^ 20) (hd : Tr.DH bg 0 (.inner z a u l .leaf)) {N : Nat} {b : Nat → Int32} {l0 : List (Nat → Int32)} (h : NdV N b l0) (c0 : Int32) :
    ∃ N' bg' b' c s, F_Nd_arrange c0 (nI (Tr.sz l + 1)) Ng bg N b = some ((nI (Tr.sz l + 1), bg', N', b'), c, s) ∧ ndCap N' ∧ (Tr.sz l + 1) * 7 ≤ N' ∧ Tr.TH b' 0 (-1) (.inner z a u l .leaf) ∧ Lks bg bg' 0 (Tr.sz l + 1) ∧ GrowN N N' c s := by
  have h0 : NdV N b (List.replicate 0 row0) := ⟨⟨by simp, fun i hi => by simp at hi⟩, h.cap⟩
  obtain ⟨N', b', c, s, v, g, k⟩ := arr6 (n := Tr.sz l + 1) (Ng := Ng) (bg := bg) (by omega) FU 0 N b (by unfold FU; omega) (by omega) h0
  have hc := v.cap.le
  have hle := v.tab.le
  rw [List.length_replicate] at hle
  have hd' : Tr.DH (upd bg (Tr.sz l * 7 + 6) 0) 0 (.inner z a u l .leaf) := Tr.DH_cg (fun i j _ _ hj => upd_ne (by omega)) hd
  have hlk : Tr.LK (upd bg (Tr.sz l * 7 + 6) 0) 0 0 (.inner z a u l .leaf) := by
    refine ⟨?_, trivial⟩
    rw [Nat.zero_add]; exact upd_self
  have hrp : Tr.RP b' 0 (-1) (.inner z a u l .leaf) := by
    refine ⟨?_, trivial⟩
    have := v.tab.at' 0 (by rw [List.length_replicate]; omega) 6 (by omega)
    rw [this, List.getElem_replicate]; rfl
  have es : Tr.sz (.inner z a u l .leaf) = Tr.sz l + 1 := rfl
  obtain ⟨bg', bh', e1, t1, g1, f1⟩ := arr47 (n := Tr.sz l + 1) hle (by omega) hg hNg (.inner z a u l .leaf) FU 0 0 (-1) (upd bg (Tr.sz l * 7 + 6) 0) b' hd' hlk hrp (by omega) (by omega) (by rw [es]; unfold FU; omega)
  refine ⟨N', bg', bh', c + 0, s + 0, ?_, v.cap, by omega, t1, ?_, ?_⟩
  · refine k _ 0 0 ?_
    rw [nI_p1, show (6 : Int32) = nI 6 from rfl, Nd_setA hg hNg (by omega) (by omega), Option.bind_some]
    rw [es, Nat.zero_add, nI_p1] at e1
    rw [e1, show FU - (Tr.sz l + 1) = (FU - (Tr.sz l + 1) - 1) + 1 by unfold FU; omega, F_Nd_arrange_47, if_pos (show nI 0 - 1 < 0 by decide)]
  · rw [es] at g1
    exact (Lks.upd (p := 0) (z := Tr.sz l + 1) (by omega) (by omega)).trans g1 (by omega) (by omega) (by omega) (by omega)
  · rw [Nat.add_zero, Nat.add_zero]; exact g
end
