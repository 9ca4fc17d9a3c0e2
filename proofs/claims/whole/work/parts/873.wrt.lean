section
/-! the class's Writer -/
def Byt (w : List Int32) : Prop := ∃ L : List Nat, w = L.map nI ∧ ∀ n ∈ L, n < 256
theorem Byt.nil : Byt [] := ⟨[], rfl, fun n h => by cases h⟩
theorem Byt.app {u w : List Int32} (h : Byt u) (g : Byt w) : Byt (u ++ w) := by
  obtain ⟨L, h1, h2⟩ := h
  obtain ⟨M, g1, g2⟩ := g
  refine ⟨L ++ M, by rw [h1, g1, List.map_append], fun n hn => ?_⟩
  rcases List.mem_append.mp hn with x | x
  · exact h2 n x
  · exact g2 n x
/-- the form holds W, or W is too long for it -/
def FS (W : List Int32) (f z : Int32) (N : Nat) (b : Nat → Int32) : Prop :=
  (W.length ≤ 65536 ∧ f = 1 ∧ z = nI W.length ∧ ∃ L : List Nat, W = L.map nI ∧ RowV N b L) ∨ (65536 < W.length ∧ f = 0 ∧ ∃ L : List Nat, L.length = 65536 ∧ z = nI L.length ∧ RowV N b L)
theorem FS.add {W : List Int32} {f z : Int32} {N : Nat} {b : Nat → Int32} (h : FS W f z N b) {n : Nat} (hn : n < 256) : ∃ r z' N' b' c s, F_Rw_add (nI n) z N b = some ((r, z', N', b'), c, s) ∧ FS (W ++ [nI n]) (if r = 0 then 0 else if f = 0 then 0 else 1) z' N' b' ∧ Grow N N' c s := by
  have hl : (W ++ [nI n]).length = W.length + 1 := by rw [List.length_append]; rfl
  rcases h with ⟨h1, h2, h3, L, h4, h5⟩ | ⟨h1, h2, L, h3, h4, h5⟩
  · have hW : W.length = L.length := by rw [h4, List.length_map]
    by_cases c : L.length < 65536
    · obtain ⟨N', b', c1, s1, e, v, g⟩ := Rw_add h5 hn c
      refine ⟨1, _, N', b', c1, s1, by rw [h3, hW]; exact e, Or.inl ⟨by omega, ?_, by rw [hl, hW], L ++ [n], by rw [h4, List.map_append]; rfl, v⟩, g⟩
      rw [h2]; rfl
    · have hL : L.length = 65536 := by omega
      exact ⟨0, _, N, b, 0, 0, by rw [h3, hW]; exact Rw_full h5 hL, Or.inr ⟨by omega, rfl, L, hL, rfl, h5⟩, Grow.rfl⟩
  · exact ⟨0, _, N, b, 0, 0, by rw [h4]; exact Rw_full h5 h3, Or.inr ⟨by omega, rfl, L, h3, rfl, h5⟩, Grow.rfl⟩
theorem FS.f01 {W : List Int32} {f z : Int32} {N : Nat} {b : Nat → Int32} (h : FS W f z N b) : f = 1 ∨ f = 0 := by
  rcases h with ⟨_, h, _⟩ | ⟨_, h, _⟩
  · exact Or.inl h
  · exact Or.inr h
abbrev R4 : Type := Int32 × Int32 × Nat × (Nat → Int32)
/-- F puts w behind W -/
def PutR (F : Option (R4 × Nat × Nat)) (N : Nat) (W w : List Int32) : Prop := ∃ f z N' b' c s, F = some ((f, z, N', b'), c, s) ∧ FS (W ++ w) f z N' b' ∧ Grow N N' c s
theorem PutR.ret {W : List Int32} {f z : Int32} {N : Nat} {b : Nat → Int32} (h : FS W f z N b) : PutR (some ((f, z, N, b), 0, 0)) N W [] := ⟨f, z, N, b, 0, 0, rfl, by rw [List.append_nil]; exact h, Grow.rfl⟩
theorem PutR.thn {F : Option (R4 × Nat × Nat)} {k : R4 → Option (R4 × Nat × Nat)} {N : Nat} {W w1 w2 : List Int32} (h : PutR F N W w1) (g : ∀ f z N1 b1, FS (W ++ w1) f z N1 b1 → PutR (k (f, z, N1, b1)) N1 (W ++ w1) w2) : PutR (bw F k) N W (w1 ++ w2) := by
  obtain ⟨f, z, N1, b1, c1, s1, h1, h2, h3⟩ := h
  obtain ⟨f2, z2, N2, b2, c2, s2, g1, g2, g3⟩ := g f z N1 b1 h2
  exact ⟨f2, z2, N2, b2, c1 + c2, s1 + s2, bw_ok h1 g1, by rw [← List.append_assoc]; exact g2, h3.trans g3⟩
theorem PutR.cast {F : Option (R4 × Nat × Nat)} {N : Nat} {W w w' : List Int32} (h : PutR F N W w) (e : w = w') : PutR F N W w' := by rw [← e]; exact h
/-- and that alone -/
theorem PutR.one {F : Option (R4 × Nat × Nat)} {N : Nat} {W w : List Int32} (h : PutR F N W w) : PutR (bw F fun (r : R4) => some ((r.1, r.2.1, r.2.2.1, r.2.2.2), 0, 0)) N W w :=
  (PutR.thn h (fun f z N1 b1 hh => PutR.ret hh)).cast (List.append_nil _)
theorem Wr_put2 {i : Nat} (hi : i < 85) (hg : (gB i).length ≤ 100) : ∀ (n fu k : Nat) (W : List Int32) (f z : Int32) (N : Nat) (b : Nat → Int32), k + n = (gB i).length → n < fu → Byt ((List.range' k n).map (fun j => sch i (nI j))) → FS W f z N b → PutR (F_Wr_put_2 i fu (nI k) f z N b) N W ((List.range' k n).map (fun j => sch i (nI j)))
  | 0, fu + 1, k, W, f, z, N, b, hk, hf, hB, h => by
    rw [F_Wr_put_2, sin_k hi, if_pos (show nI (gB i).length ≤ nI k by rw [nI_le' (by omega) (by omega)]; omega)]
    exact PutR.ret h
  | n + 1, fu + 1, k, W, f, z, N, b, hk, hf, hB, h => by
    rw [List.range'_succ, List.map_cons] at hB
    obtain ⟨L, h1, h2⟩ := hB
    match L, h1, h2 with
    | [], h1, _ => cases h1
    | v :: L, h1, h2 =>
      rw [List.map_cons, List.cons.injEq] at h1
      obtain ⟨h3, h4⟩ := h1
      have hv := h2 v List.mem_cons_self
      obtain ⟨r, z', N', b', c, s, e1, e2, e3⟩ := h.add hv
      rw [← h3] at e1 e2
      obtain ⟨f2, z2, N2, b2, c2, s2, g1, g2, g3⟩ := Wr_put2 hi hg n fu (k + 1) (W ++ [sch i (nI k)]) _ z' N' b' (by omega) (by omega) ⟨L, h4, fun n hn => h2 n (List.mem_cons_of_mem _ hn)⟩ e2
      refine ⟨f2, z2, N2, b2, c + c2, s + s2, ?_, by rw [List.range'_succ, List.map_cons]; rw [List.append_assoc] at g2; exact g2, e3.trans g3⟩
      rw [F_Wr_put_2, sin_k hi, if_neg (show ¬ nI (gB i).length ≤ nI k by rw [nI_le' (by omega) (by omega)]; omega), sin_k hi, inb_ok (by omega) (by omega)]
      refine bw_ok e1 ?_
      dsimp only
      rw [show nI k + 1 = nI (k + 1) from nI_add' k 1]
      by_cases c1 : r = 0
      · rw [if_pos c1] at g1 ⊢; exact g1
      · rw [if_neg c1] at g1 ⊢
        by_cases c2 : f = 0
        · rw [if_pos c2] at g1 ⊢; exact g1
        · rw [if_neg c2] at g1 ⊢; exact g1
theorem Wr_put {i : Nat} {W w : List Int32} {f z d : Int32} {N : Nat} {b : Nat → Int32} (hi : i < 85) (hg : (gB i).length ≤ 100) (hw : sW i = w) (hB : Byt w) (h : FS W f z N b) : PutR (F_Wr_put i d f z N b) N W w := by
  subst hw
  have e : sW i = (List.range' 0 (gB i).length).map (fun j => sch i (nI j)) := by
    unfold sW
    rw [List.range_eq_range']
  rw [e] at hB ⊢
  exact Wr_put2 hi hg (gB i).length FU 0 W f z N b (Nat.zero_add _) (by unfold FU; omega) hB h
theorem Byt.of {L : List Nat} {w : List Int32} (e : w = L.map nI) (h : ∀ n ∈ L, n < 256) : Byt w := ⟨L, e, h⟩
theorem Wr_bl2 {i d : Nat} {w : List Int32} (hi : i < 85) (hg : (gB i).length ≤ 100) (hw : sW i = w) (hB : Byt w) (hd : d ≤ 20000) : ∀ (n fu k : Nat) (W : List Int32) (f z : Int32) (N : Nat) (b : Nat → Int32), k + n = d → n < fu → FS W f z N b → PutR (F_Wr_beginLine_2 i (nI d) fu (nI k) f z N b) N W (indW n ++ w)
  | 0, fu + 1, k, W, f, z, N, b, hk, hf, h => by
    rw [F_Wr_beginLine_2, if_pos (show nI d ≤ nI k by rw [nI_le' (by omega) (by omega)]; omega)]
    exact (Wr_put hi hg hw hB h).one
  | n + 1, fu + 1, k, W, f, z, N, b, hk, hf, h => by
    rw [F_Wr_beginLine_2, if_neg (show ¬ nI d ≤ nI k by rw [nI_le' (by omega) (by omega)]; omega), indW, List.append_assoc]
    refine PutR.thn (Wr_put (i := 18) (w := sW 81) (by decide) (by decide) (by decide) (Byt.of (L := [32, 32]) (by decide) (by decide)) h) (fun f1 z1 N1 b1 h1 => ?_)
    dsimp only
    rw [show nI k + 1 = nI (k + 1) from nI_add' k 1]
    exact Wr_bl2 hi hg hw hB hd n fu (k + 1) _ f1 z1 N1 b1 (by omega) (by omega) h1
theorem Wr_bl {i d : Nat} {W w : List Int32} {f z : Int32} {N : Nat} {b : Nat → Int32} (hi : i < 85) (hg : (gB i).length ≤ 100) (hw : sW i = w) (hB : Byt w) (hd : d ≤ 20000) (h : FS W f z N b) : PutR (F_Wr_beginLine i (nI d) f z N b) N W (indW d ++ w) :=
  Wr_bl2 hi hg hw hB hd d FU 0 W f z N b (Nat.zero_add _) (by unfold FU; omega) h
/-- a token's characters -/
theorem Wr_tk22 {n : Nat} {x : Nat → Nat} (ht : TextIs n x) {Ns : Nat} {bs : Nat → Int32} (hr : RowIs Ns bs n x) {p wd : Nat} (hpw : p + wd ≤ n) : ∀ (r fu k : Nat) (W : List Int32) (f z : Int32) (N : Nat) (b : Nat → Int32), k + r = wd → r < fu → FS W f z N b → PutR (F_Wr_putToken_22 (nI n) Ns bs fu (nI k) (nI wd) (nI p) f z N b) N W ((List.range' (p + k) r).map (fun j => nI (x j)))
  | 0, fu + 1, k, W, f, z, N, b, hk, hf, h => by
    have hn := ht.le
    rw [F_Wr_putToken_22, if_pos (show nI wd ≤ nI k by rw [nI_le' (by omega) (by omega)]; omega)]
    exact PutR.ret h
  | r + 1, fu + 1, k, W, f, z, N, b, hk, hf, h => by
    have hn := ht.le
    obtain ⟨r', z', N', b', c, s, e1, e2, e3⟩ := h.add (ht.byte (p + k) (by omega))
    obtain ⟨f2, z2, N2, b2, c2, s2, g1, g2, g3⟩ := Wr_tk22 ht hr hpw r fu (k + 1) (W ++ [nI (x (p + k))]) _ z' N' b' (by omega) (by omega) e2
    refine ⟨f2, z2, N2, b2, c + c2, s + s2, ?_, by rw [List.range'_succ, List.map_cons]; rw [List.append_assoc] at g2; exact g2, e3.trans g3⟩
    rw [F_Wr_putToken_22, if_neg (show ¬ nI wd ≤ nI k by rw [nI_le' (by omega) (by omega)]; omega), show nI p + nI k = nI (p + k) from nI_add' p k, Rw_at hr (by omega), Option.bind_some, show chr n x (p + k) = nI (x (p + k)) from if_pos (by omega)]
    refine bw_ok e1 ?_
    dsimp only
    rw [show nI k + 1 = nI (k + 1) from nI_add' k 1]
    by_cases c1 : r' = 0
    · rw [if_pos c1] at g1 ⊢; exact g1
    · rw [if_neg c1] at g1 ⊢
      by_cases c2 : f = 0
      · rw [if_pos c2] at g1 ⊢; exact g1
      · rw [if_neg c2] at g1 ⊢; exact g1
end

section
/-! the class's tree, as the Writer asks for it -/
/-- node q of the cells: its label, its parts, what it is a part of -/
def NdC (bt : Nat → Int32) (q : Nat) (a : Lb) (l : Tr Lb) (w : Int32) : Prop := (∀ j, j < 6 → bt (q * 7 + j) = (a.nd l).row j) ∧ bt (q * 7 + 6) = w
section C
variable {n0 Nt : Nat} {bt : Nat → Int32}
variable {q : Nat} {a : Lb} {l : Tr Lb} {w : Int32}
theorem get0 (h7 : n0 * 7 ≤ Nt) (hNt : Nt ≤ 2 ^ 20) (h : NdC bt q a l w) (hq : q < n0) : F_Nd_get (nI q) 0 (nI n0) Nt bt = some a.k := by rw [show (0 : Int32) = nI 0 from Eq.refl _, Nd_getA h7 hNt hq (by omega), h.1 0 (by omega)]; rfl
theorem get1 (h7 : n0 * 7 ≤ Nt) (hNt : Nt ≤ 2 ^ 20) (h : NdC bt q a l w) (hq : q < n0) : F_Nd_get (nI q) 1 (nI n0) Nt bt = some a.pl := by rw [show (1 : Int32) = nI 1 from Eq.refl _, Nd_getA h7 hNt hq (by omega), h.1 1 (by omega)]; rfl
theorem get3 (h7 : n0 * 7 ≤ Nt) (hNt : Nt ≤ 2 ^ 20) (h : NdC bt q a l w) (hq : q < n0) : F_Nd_get (nI q) 3 (nI n0) Nt bt = some (nI (Tr.rt l)) := by rw [show (3 : Int32) = nI 3 from Eq.refl _, Nd_getA h7 hNt hq (by omega), h.1 3 (by omega)]; rfl
theorem get4 (h7 : n0 * 7 ≤ Nt) (hNt : Nt ≤ 2 ^ 20) (h : NdC bt q a l w) (hq : q < n0) : F_Nd_get (nI q) 4 (nI n0) Nt bt = some a.wd := by rw [show (4 : Int32) = nI 4 from Eq.refl _, Nd_getA h7 hNt hq (by omega), h.1 4 (by omega)]; rfl
theorem get5 (h7 : n0 * 7 ≤ Nt) (hNt : Nt ≤ 2 ^ 20) (h : NdC bt q a l w) (hq : q < n0) : F_Nd_get (nI q) 5 (nI n0) Nt bt = some (nI (Tr.sz l + 1)) := by rw [show (5 : Int32) = nI 5 from Eq.refl _, Nd_getA h7 hNt hq (by omega), h.1 5 (by omega)]; rfl
theorem get6 (h7 : n0 * 7 ≤ Nt) (hNt : Nt ≤ 2 ^ 20) (h : NdC bt q a l w) (hq : q < n0) : F_Nd_get (nI q) 6 (nI n0) Nt bt = some w := by rw [show (6 : Int32) = nI 6 from Eq.refl _, Nd_getA h7 hNt hq (by omega), h.2]
theorem getA (h7 : n0 * 7 ≤ Nt) (hNt : Nt ≤ 2 ^ 20) (h : NdC bt q a l w) (hq : q < n0) : F_Nd_after (nI q) (nI n0) Nt bt = some (nI (q + 1 + Tr.sz l)) := by
  unfold F_Nd_after
  rw [get5 h7 hNt h hq, Option.bind_some, show nI q + nI (Tr.sz l + 1) = nI (q + (Tr.sz l + 1)) from nI_add' _ _, show q + (Tr.sz l + 1) = q + 1 + Tr.sz l by omega]
theorem getK (h7 : n0 * 7 ≤ Nt) (hNt : Nt ≤ 2 ^ 20) (h : NdC bt q a l w) (hq : q < n0) {d f : Int32} : F_Wr_kind (nI q) d f (nI n0) Nt bt = some a.k := by
  unfold F_Wr_kind
  rw [get0 h7 hNt h hq, Option.bind_some]
theorem getT (h7 : n0 * 7 ≤ Nt) (hNt : Nt ≤ 2 ^ 20) (h : NdC bt q a l w) (hq : q < n0) (h1 : a.k ≠ 1) : F_Nd_tokenPlace (nI q) (nI n0) Nt bt = some a.pl := by
  unfold F_Nd_tokenPlace
  rw [get0 h7 hNt h hq, Option.bind_some, if_neg h1, get1 h7 hNt h hq, Option.bind_some]
theorem getTF (h7 : n0 * 7 ≤ Nt) (hNt : Nt ≤ 2 ^ 20) (h : NdC bt q a l w) (hq : q < n0) {a1 : Lb} {l1 : Tr Lb} {w1 : Int32} (h1 : a.k = 1) (g : NdC bt (q + 1) a1 l1 w1) (hq1 : q + 1 < n0) : F_Nd_tokenPlace (nI q) (nI n0) Nt bt = some a1.pl := by
  unfold F_Nd_tokenPlace
  rw [get0 h7 hNt h hq, Option.bind_some, if_pos h1, show nI q + 1 = nI (q + 1) from nI_add' q 1, get1 h7 hNt g hq1, Option.bind_some]
end C
/-- the text of a token, where a label has its place and width -/
def PTk (n : Nat) (x : Nat → Nat) (pl wd tk : Int32) : Prop := Int32.toNatClampNeg tk + 1 < (cutE n x).length ∧ pl = (tkT n x).tpl (Int32.toNatClampNeg tk) ∧ wd = (tkT n x).twd (Int32.toNatClampNeg tk)
section P
variable {n : Nat} {x : Nat → Nat} {Ns : Nat} {bs : Nat → Int32}
variable {n0 Nt : Nat} {bt : Nat → Int32}
variable {q : Nat} {a : Lb} {l : Tr Lb} {w : Int32}
theorem Wr_tok (ht : TextIs n x) (hr : RowIs Ns bs n x) (h7 : n0 * 7 ≤ Nt) (hNt : Nt ≤ 2 ^ 20) (h : NdC bt q a l w) (hq : q < n0) {pl : Int32} {W : List Int32} {d f z : Int32} {N : Nat} {b : Nat → Int32} (hpl : F_Nd_tokenPlace (nI q) (nI n0) Nt bt = some pl) (hP : PTk n x pl a.wd a.tk) (hF : FS W f z N b) : PutR (F_Wr_putToken (nI q) d f (nI n0) Nt bt (nI n) Ns bs z N b) N W (txX n x (Int32.toNatClampNeg a.tk)) := by
  obtain ⟨p1, p2, p3⟩ := hP
  obtain ⟨g1, g2⟩ := cut_in ht p1
  have hn := ht.le
  unfold F_Wr_putToken
  rw [hpl, Option.bind_some, get4 h7 hNt h hq, Option.bind_some, p2, p3]
  exact Wr_tk22 ht hr (p := ((cutE n x).getD (Int32.toNatClampNeg a.tk) (0, 0, 0)).2.1) (wd := ((cutE n x).getD (Int32.toNatClampNeg a.tk) (0, 0, 0)).2.2 - ((cutE n x).getD (Int32.toNatClampNeg a.tk) (0, 0, 0)).2.1) (by omega) _ FU 0 W f z N b (Nat.zero_add _) (by unfold FU; omega) hF
theorem Wr_rank (ht : TextIs n x) (hr : RowIs Ns bs n x) (h7 : n0 * 7 ≤ Nt) (hNt : Nt ≤ 2 ^ 20) (h : NdC bt q a l w) (hq : q < n0) {d f : Int32} (hop : a.k = 40 → PTk n x a.pl a.wd a.tk ∧ F_Rk_of (F_Sc_signs (chr n x (Int32.toNatClampNeg a.pl)) (chr n x (Int32.toNatClampNeg a.pl + 1))) = nI (rkM ((tkT n x).tkd (Int32.toNatClampNeg a.tk)))) : F_Wr_rank (nI q) d f (nI n0) Nt bt (nI n) Ns bs = some (nI (rkA (tkT n x) a)) := by
  unfold F_Wr_rank rkA
  rw [getK h7 hNt h hq, Option.bind_some]
  by_cases c1 : a.k = 38
  · rw [if_pos c1, if_pos c1]; rfl
  rw [if_neg c1, if_neg c1]
  by_cases c2 : a.k = 39
  · rw [if_pos c2, if_pos c2]; rfl
  rw [if_neg c2, if_neg c2]
  by_cases c3 : a.k = 40
  · obtain ⟨⟨p1, p2, p3⟩, p4⟩ := hop c3
    have hpl := cut_pl ht (Int32.toNatClampNeg a.tk)
    have e : a.pl = nI ((cutE n x).getD (Int32.toNatClampNeg a.tk) (0, 0, 0)).2.1 := p2
    rw [e, nI_clamp' (by omega)] at p4
    rw [if_pos c3, if_pos c3, getT h7 hNt h hq (by rw [c3]; decide), Option.bind_some, e, Rw_at hr (by omega), Option.bind_some, show nI ((cutE n x).getD (Int32.toNatClampNeg a.tk) (0, 0, 0)).2.1 + 1 = nI (((cutE n x).getD (Int32.toNatClampNeg a.tk) (0, 0, 0)).2.1 + 1) from nI_add' _ 1, Rw_at hr (by omega), Option.bind_some]
    unfold nm
    dsimp only
    rw [p4]
  rw [if_neg c3, if_neg c3]
  by_cases c4 : a.k = 41
  · rw [if_pos c4, if_pos c4]; rfl
  rw [if_neg c4, if_neg c4]; rfl
end P
end

section
/-! the Writer, kind by kind -/
section S
variable {W : List Int32} {f z d0 : Int32} {N d : Nat} {b : Nat → Int32}
theorem pt15 (h : FS W f z N b) : PutR (F_Wr_put 15 d0 f z N b) N W ([91] : List Int32) := Wr_put (by decide) (by decide) (by decide) (Byt.of (L := ([91] : List Nat)) (by decide) (by decide)) h
theorem pt16 (h : FS W f z N b) : PutR (F_Wr_put 16 d0 f z N b) N W ([] : List Int32) := Wr_put (by decide) (by decide) (by decide) (Byt.of (L := ([] : List Nat)) (by decide) (by decide)) h
theorem pt17 (h : FS W f z N b) : PutR (F_Wr_put 17 d0 f z N b) N W ([105, 102, 32, 40] : List Int32) := Wr_put (by decide) (by decide) (by decide) (Byt.of (L := ([105, 102, 32, 40] : List Nat)) (by decide) (by decide)) h
theorem pt18 (h : FS W f z N b) : PutR (F_Wr_put 18 d0 f z N b) N W ([32, 32] : List Int32) := Wr_put (by decide) (by decide) (by decide) (Byt.of (L := ([32, 32] : List Nat)) (by decide) (by decide)) h
theorem pt19 (h : FS W f z N b) : PutR (F_Wr_put 19 d0 f z N b) N W ([119, 104, 105, 108, 101, 32, 40] : List Int32) := Wr_put (by decide) (by decide) (by decide) (Byt.of (L := ([119, 104, 105, 108, 101, 32, 40] : List Nat)) (by decide) (by decide)) h
theorem pt20 (h : FS W f z N b) : PutR (F_Wr_put 20 d0 f z N b) N W ([102, 111, 114, 32, 40] : List Int32) := Wr_put (by decide) (by decide) (by decide) (Byt.of (L := ([102, 111, 114, 32, 40] : List Nat)) (by decide) (by decide)) h
theorem pt21 (h : FS W f z N b) : PutR (F_Wr_put 21 d0 f z N b) N W ([116, 114, 121, 10] : List Int32) := Wr_put (by decide) (by decide) (by decide) (Byt.of (L := ([116, 114, 121, 10] : List Nat)) (by decide) (by decide)) h
theorem pt22 (h : FS W f z N b) : PutR (F_Wr_put 22 d0 f z N b) N W ([44, 32] : List Int32) := Wr_put (by decide) (by decide) (by decide) (Byt.of (L := ([44, 32] : List Nat)) (by decide) (by decide)) h
theorem pt23 (h : FS W f z N b) : PutR (F_Wr_put 23 d0 f z N b) N W ([59, 32] : List Int32) := Wr_put (by decide) (by decide) (by decide) (Byt.of (L := ([59, 32] : List Nat)) (by decide) (by decide)) h
theorem pt24 (h : FS W f z N b) : PutR (F_Wr_put 24 d0 f z N b) N W ([32, 61, 32] : List Int32) := Wr_put (by decide) (by decide) (by decide) (Byt.of (L := ([32, 61, 32] : List Nat)) (by decide) (by decide)) h
theorem pt25 (h : FS W f z N b) : PutR (F_Wr_put 25 d0 f z N b) N W ([58] : List Int32) := Wr_put (by decide) (by decide) (by decide) (Byt.of (L := ([58] : List Nat)) (by decide) (by decide)) h
theorem pt26 (h : FS W f z N b) : PutR (F_Wr_put 26 d0 f z N b) N W ([32] : List Int32) := Wr_put (by decide) (by decide) (by decide) (Byt.of (L := ([32] : List Nat)) (by decide) (by decide)) h
theorem pt27 (h : FS W f z N b) : PutR (F_Wr_put 27 d0 f z N b) N W ([101, 108, 115, 101, 105, 102, 32, 40] : List Int32) := Wr_put (by decide) (by decide) (by decide) (Byt.of (L := ([101, 108, 115, 101, 105, 102, 32, 40] : List Nat)) (by decide) (by decide)) h
theorem pt28 (h : FS W f z N b) : PutR (F_Wr_put 28 d0 f z N b) N W ([101, 108, 115, 101, 10] : List Int32) := Wr_put (by decide) (by decide) (by decide) (Byt.of (L := ([101, 108, 115, 101, 10] : List Nat)) (by decide) (by decide)) h
theorem pt29 (h : FS W f z N b) : PutR (F_Wr_put 29 d0 f z N b) N W ([99, 97, 116, 99, 104, 10] : List Int32) := Wr_put (by decide) (by decide) (by decide) (Byt.of (L := ([99, 97, 116, 99, 104, 10] : List Nat)) (by decide) (by decide)) h
theorem pt30 (h : FS W f z N b) : PutR (F_Wr_put 30 d0 f z N b) N W ([40] : List Int32) := Wr_put (by decide) (by decide) (by decide) (Byt.of (L := ([40] : List Nat)) (by decide) (by decide)) h
theorem pt31 (h : FS W f z N b) : PutR (F_Wr_put 31 d0 f z N b) N W ([102, 117, 110, 99, 116, 105, 111, 110, 32] : List Int32) := Wr_put (by decide) (by decide) (by decide) (Byt.of (L := ([102, 117, 110, 99, 116, 105, 111, 110, 32] : List Nat)) (by decide) (by decide)) h
theorem pt32 (h : FS W f z N b) : PutR (F_Wr_put 32 d0 f z N b) N W ([101, 110, 100, 10] : List Int32) := Wr_put (by decide) (by decide) (by decide) (Byt.of (L := ([101, 110, 100, 10] : List Nat)) (by decide) (by decide)) h
theorem pt33 (h : FS W f z N b) : PutR (F_Wr_put 33 d0 f z N b) N W ([59, 10] : List Int32) := Wr_put (by decide) (by decide) (by decide) (Byt.of (L := ([59, 10] : List Nat)) (by decide) (by decide)) h
theorem pt34 (h : FS W f z N b) : PutR (F_Wr_put 34 d0 f z N b) N W ([41] : List Int32) := Wr_put (by decide) (by decide) (by decide) (Byt.of (L := ([41] : List Nat)) (by decide) (by decide)) h
theorem pt35 (h : FS W f z N b) : PutR (F_Wr_put 35 d0 f z N b) N W ([93] : List Int32) := Wr_put (by decide) (by decide) (by decide) (Byt.of (L := ([93] : List Nat)) (by decide) (by decide)) h
theorem pt36 (h : FS W f z N b) : PutR (F_Wr_put 36 d0 f z N b) N W ([39] : List Int32) := Wr_put (by decide) (by decide) (by decide) (Byt.of (L := ([39] : List Nat)) (by decide) (by decide)) h
theorem pt37 (h : FS W f z N b) : PutR (F_Wr_put 37 d0 f z N b) N W ([93, 32, 61, 32] : List Int32) := Wr_put (by decide) (by decide) (by decide) (Byt.of (L := ([93, 32, 61, 32] : List Nat)) (by decide) (by decide)) h
theorem pt38 (h : FS W f z N b) : PutR (F_Wr_put 38 d0 f z N b) N W ([41, 10] : List Int32) := Wr_put (by decide) (by decide) (by decide) (Byt.of (L := ([41, 10] : List Nat)) (by decide) (by decide)) h
theorem bl16 (hd : d ≤ 20000) (h : FS W f z N b) : PutR (F_Wr_beginLine 16 (nI d) f z N b) N W (indW d ++ ([] : List Int32)) := Wr_bl (by decide) (by decide) (by decide) (Byt.of (L := ([] : List Nat)) (by decide) (by decide)) hd h
theorem bl17 (hd : d ≤ 20000) (h : FS W f z N b) : PutR (F_Wr_beginLine 17 (nI d) f z N b) N W (indW d ++ ([105, 102, 32, 40] : List Int32)) := Wr_bl (by decide) (by decide) (by decide) (Byt.of (L := ([105, 102, 32, 40] : List Nat)) (by decide) (by decide)) hd h
theorem bl19 (hd : d ≤ 20000) (h : FS W f z N b) : PutR (F_Wr_beginLine 19 (nI d) f z N b) N W (indW d ++ ([119, 104, 105, 108, 101, 32, 40] : List Int32)) := Wr_bl (by decide) (by decide) (by decide) (Byt.of (L := ([119, 104, 105, 108, 101, 32, 40] : List Nat)) (by decide) (by decide)) hd h
theorem bl20 (hd : d ≤ 20000) (h : FS W f z N b) : PutR (F_Wr_beginLine 20 (nI d) f z N b) N W (indW d ++ ([102, 111, 114, 32, 40] : List Int32)) := Wr_bl (by decide) (by decide) (by decide) (Byt.of (L := ([102, 111, 114, 32, 40] : List Nat)) (by decide) (by decide)) hd h
theorem bl21 (hd : d ≤ 20000) (h : FS W f z N b) : PutR (F_Wr_beginLine 21 (nI d) f z N b) N W (indW d ++ ([116, 114, 121, 10] : List Int32)) := Wr_bl (by decide) (by decide) (by decide) (Byt.of (L := ([116, 114, 121, 10] : List Nat)) (by decide) (by decide)) hd h
theorem bl27 (hd : d ≤ 20000) (h : FS W f z N b) : PutR (F_Wr_beginLine 27 (nI d) f z N b) N W (indW d ++ ([101, 108, 115, 101, 105, 102, 32, 40] : List Int32)) := Wr_bl (by decide) (by decide) (by decide) (Byt.of (L := ([101, 108, 115, 101, 105, 102, 32, 40] : List Nat)) (by decide) (by decide)) hd h
theorem bl28 (hd : d ≤ 20000) (h : FS W f z N b) : PutR (F_Wr_beginLine 28 (nI d) f z N b) N W (indW d ++ ([101, 108, 115, 101, 10] : List Int32)) := Wr_bl (by decide) (by decide) (by decide) (Byt.of (L := ([101, 108, 115, 101, 10] : List Nat)) (by decide) (by decide)) hd h
theorem bl29 (hd : d ≤ 20000) (h : FS W f z N b) : PutR (F_Wr_beginLine 29 (nI d) f z N b) N W (indW d ++ ([99, 97, 116, 99, 104, 10] : List Int32)) := Wr_bl (by decide) (by decide) (by decide) (Byt.of (L := ([99, 97, 116, 99, 104, 10] : List Nat)) (by decide) (by decide)) hd h
theorem bl31 (hd : d ≤ 20000) (h : FS W f z N b) : PutR (F_Wr_beginLine 31 (nI d) f z N b) N W (indW d ++ ([102, 117, 110, 99, 116, 105, 111, 110, 32] : List Int32)) := Wr_bl (by decide) (by decide) (by decide) (Byt.of (L := ([102, 117, 110, 99, 116, 105, 111, 110, 32] : List Nat)) (by decide) (by decide)) hd h
theorem bl32 (hd : d ≤ 20000) (h : FS W f z N b) : PutR (F_Wr_beginLine 32 (nI d) f z N b) N W (indW d ++ ([101, 110, 100, 10] : List Int32)) := Wr_bl (by decide) (by decide) (by decide) (Byt.of (L := ([101, 110, 100, 10] : List Nat)) (by decide) (by decide)) hd h
end S
abbrev R5 : Type := Int32 × Int32 × Int32 × Nat × (Nat → Int32)
def PutR5 (F : Option (R5 × Nat × Nat)) (d N : Nat) (W w : List Int32) : Prop := ∃ f z N' b' c s, F = some ((nI d, f, z, N', b'), c, s) ∧ FS (W ++ w) f z N' b' ∧ Grow N N' c s
theorem PutR5.ret {W : List Int32} {f z : Int32} {N d : Nat} {b : Nat → Int32} (h : FS W f z N b) : PutR5 (some ((nI d, f, z, N, b), 0, 0)) d N W [] := ⟨f, z, N, b, 0, 0, rfl, by rw [List.append_nil]; exact h, Grow.rfl⟩
theorem PutR5.thn {F : Option (R4 × Nat × Nat)} {k : R4 → Option (R5 × Nat × Nat)} {N d : Nat} {W w1 w2 : List Int32} (h : PutR F N W w1) (g : ∀ f z N1 b1, FS (W ++ w1) f z N1 b1 → PutR5 (k (f, z, N1, b1)) d N1 (W ++ w1) w2) : PutR5 (bw F k) d N W (w1 ++ w2) := by
  obtain ⟨f, z, N1, b1, c1, s1, h1, h2, h3⟩ := h
  obtain ⟨f2, z2, N2, b2, c2, s2, g1, g2, g3⟩ := g f z N1 b1 h2
  exact ⟨f2, z2, N2, b2, c1 + c2, s1 + s2, bw_ok h1 g1, by rw [← List.append_assoc]; exact g2, h3.trans g3⟩
theorem PutR5.cast {F : Option (R5 × Nat × Nat)} {N d : Nat} {W w w' : List Int32} (h : PutR5 F d N W w) (e : w = w') : PutR5 F d N W w' := by rw [← e]; exact h
/-- the kinds of nodes -/
def KOK (k : Int32) : Prop := k = 0 ∨ k = 1 ∨ k = 2 ∨ k = 3 ∨ k = 5 ∨ k = 10 ∨ k = 11 ∨ k = 12 ∨ k = 13 ∨ k = 14 ∨ k = 15 ∨ k = 16 ∨ k = 17 ∨ k = 18 ∨ k = 19 ∨ k = 20 ∨ k = 21 ∨ k = 30 ∨ k = 31 ∨ k = 32 ∨ k = 33 ∨ k = 34 ∨ k = 35 ∨ k = 36 ∨ k = 37 ∨ k = 38 ∨ k = 39 ∨ k = 40 ∨ k = 41
def tkW (tx : Nat → List Int32) (a : Lb) : List Int32 := tx (Int32.toNatClampNeg a.tk)
/-- what a node begins with, and ends with -/
def bgW (tx : Nat → List Int32) (a : Lb) (d : Nat) : List Int32 := if a.k = 1 then indW d ++ ([102, 117, 110, 99, 116, 105, 111, 110, 32] : List Int32) else if a.k = 5 ∨ a.k = 30 ∨ a.k = 31 ∨ a.k = 32 ∨ a.k = 34 ∨ a.k = 35 ∨ a.k = 39 then tkW tx a else if a.k = 33 then tkW tx a ++ [40] else if a.k = 36 then [91] else if a.k = 10 ∨ a.k = 20 ∨ a.k = 21 then indW d else if a.k = 15 ∨ a.k = 16 ∨ a.k = 17 then indW d ++ tkW tx a else if a.k = 18 ∨ a.k = 19 then indW d ++ (tkW tx a ++ [32]) else []
def fiW (a : Lb) (d : Nat) : List Int32 := if a.k = 1 ∨ a.k = 11 ∨ a.k = 12 ∨ a.k = 13 ∨ a.k = 14 then indW d ++ ([101, 110, 100, 10] : List Int32) else if a.k = 10 ∨ a.k = 15 ∨ a.k = 16 ∨ a.k = 17 ∨ a.k = 18 ∨ a.k = 19 ∨ a.k = 20 ∨ a.k = 21 then ([59, 10] : List Int32) else if a.k = 33 then [41] else if a.k = 36 then [93] else if a.k = 38 then [39] else []
/-- what stands before a part of p: the first, another -/
def lfW (p : Lb) (l : Tr Lb) (d : Nat) : List Int32 := if p.k = 1 then (if Tr.rt l ≤ 1 then [] else [91]) else if p.k = 10 then [91] else if p.k = 11 then indW d ++ ([105, 102, 32, 40] : List Int32) else if p.k = 12 then indW d ++ ([119, 104, 105, 108, 101, 32, 40] : List Int32) else if p.k = 13 then indW d ++ ([102, 111, 114, 32, 40] : List Int32) else if p.k = 14 then indW d ++ ([116, 114, 121, 10] : List Int32) else []
def opW (T : Tks) (tx : Nat → List Int32) (p : Lb) : List Int32 := if rkM (T.tkd (Int32.toNatClampNeg p.tk)) < 8 then [32] ++ tkW tx p ++ [32] else tkW tx p
def ldW (T : Tks) (tx : Nat → List Int32) (p : Lb) (P : Tr Lb) (a : Lb) (r : Tr Lb) (d : Nat) : List Int32 := if p.k = 2 ∨ p.k = 18 ∨ p.k = 19 ∨ p.k = 33 ∨ p.k = 37 then [44, 32] else if p.k = 36 then [59, 32] else if p.k = 21 then [32, 61, 32] else if p.k = 41 then [58] else if p.k = 40 then opW T tx p else if p.k = 11 then (if a.k = 3 then (if Tr.rt r = 0 ∧ Tr.rt P % 2 = 1 then indW d ++ ([101, 108, 115, 101, 10] : List Int32) else []) else indW d ++ ([101, 108, 115, 101, 105, 102, 32, 40] : List Int32)) else if p.k = 14 then indW d ++ ([99, 97, 116, 99, 104, 10] : List Int32) else []
/-- what stands behind a part of p -/
def trW (tx : Nat → List Int32) (first : Bool) (p a : Lb) (l : Tr Lb) : List Int32 := if p.k = 1 then (if first = true then (if Tr.rt l = 0 then [] else if Tr.rt l = 1 then [32, 61, 32] else [93, 32, 61, 32]) ++ (tkW tx p ++ [40]) else if a.k = 2 then [41, 10] else []) else if p.k = 10 then (if first = true then [93, 32, 61, 32] else []) else if p.k = 13 then (if first = true then [32, 61, 32] else if a.k = 3 then [] else [41, 10]) else if p.k = 11 ∨ p.k = 12 then (if a.k = 3 then [] else [41, 10]) else []
section P
variable {n : Nat} {x : Nat → Nat} {Ns : Nat} {bs : Nat → Int32}
variable {n0 Nt : Nat} {bt : Nat → Int32}
variable {q : Nat} {a : Lb} {l : Tr Lb} {w : Int32}
theorem Wr_begin (ht : TextIs n x) (hr : RowIs Ns bs n x) (h7 : n0 * 7 ≤ Nt) (hNt : Nt ≤ 2 ^ 20) (h : NdC bt q a l w) (hq : q < n0) {W : List Int32} {f z : Int32} {N d : Nat} {b : Nat → Int32} (hk : KOK a.k) (hp : (a.k = 5 ∨ a.k = 15 ∨ a.k = 16 ∨ a.k = 17 ∨ a.k = 18 ∨ a.k = 19 ∨ a.k = 30 ∨ a.k = 31 ∨ a.k = 32 ∨ a.k = 33 ∨ a.k = 34 ∨ a.k = 35 ∨ a.k = 39) → PTk n x a.pl a.wd a.tk) (hd : d ≤ 20000) (hF : FS W f z N b) : PutR5 (F_Wr_begin (nI q) (nI d) f (nI n0) Nt bt z N b (nI n) Ns bs) (if a.k = 3 then d + 1 else d) N W (bgW (txX n x) a d) := by
  unfold F_Wr_begin bgW
  rw [getK h7 hNt h hq, Option.bind_some]
  have tok : (a.k = 5 ∨ a.k = 15 ∨ a.k = 16 ∨ a.k = 17 ∨ a.k = 18 ∨ a.k = 19 ∨ a.k = 30 ∨ a.k = 31 ∨ a.k = 32 ∨ a.k = 33 ∨ a.k = 34 ∨ a.k = 35 ∨ a.k = 39) → ∀ {W : List Int32} {f z : Int32} {N : Nat} {b : Nat → Int32}, FS W f z N b → PutR (F_Wr_putToken (nI q) (nI d) f (nI n0) Nt bt (nI n) Ns bs z N b) N W (tkW (txX n x) a) := fun e W f z N b hF => Wr_tok ht hr h7 hNt h hq (getT h7 hNt h hq (by rcases e with e | e | e | e | e | e | e | e | e | e | e | e | e <;> (rw [e]; decide))) (hp e) hF
  unfold KOK at hk
  rcases hk with e | e | e | e | e | e | e | e | e | e | e | e | e | e | e | e | e | e | e | e | e | e | e | e | e | e | e | e | e
  · have hF0 := hF
    simp (decide := true) only [e, ↓reduceIte, or_true, true_or, or_false, false_or]
    exact PutR5.cast (PutR5.ret hF0) (rfl)
  · have hF0 := hF
    simp (decide := true) only [e, ↓reduceIte, or_true, true_or, or_false, false_or]
    exact PutR5.cast (PutR5.thn (bl31 hd hF0) (fun f1 z1 N1 b1 hF1 => PutR5.ret hF1)) (by simp only [List.append_assoc, List.append_nil, List.nil_append])
  · have hF0 := hF
    simp (decide := true) only [e, ↓reduceIte, or_true, true_or, or_false, false_or]
    exact PutR5.cast (PutR5.ret hF0) (rfl)
  · have hF0 := hF
    simp (decide := true) only [e, ↓reduceIte, or_true, true_or, or_false, false_or]
    rw [show nI d + 1 = nI (d + 1) from nI_add' d 1]
    exact PutR5.cast (PutR5.ret hF0) (rfl)
  · have hF0 := hF
    simp (decide := true) only [e, ↓reduceIte, or_true, true_or, or_false, false_or]
    exact PutR5.cast (PutR5.thn (tok (Or.inl e) hF0) (fun f1 z1 N1 b1 hF1 => PutR5.ret hF1)) (by simp only [List.append_assoc, List.append_nil, List.nil_append])
  · have hF0 := hF
    simp (decide := true) only [e, ↓reduceIte, or_true, true_or, or_false, false_or]
    exact PutR5.cast (PutR5.thn (bl16 hd hF0) (fun f1 z1 N1 b1 hF1 => PutR5.ret hF1)) (by simp only [List.append_assoc, List.append_nil, List.nil_append])
  · have hF0 := hF
    simp (decide := true) only [e, ↓reduceIte, or_true, true_or, or_false, false_or]
    exact PutR5.cast (PutR5.ret hF0) (rfl)
  · have hF0 := hF
    simp (decide := true) only [e, ↓reduceIte, or_true, true_or, or_false, false_or]
    exact PutR5.cast (PutR5.ret hF0) (rfl)
  · have hF0 := hF
    simp (decide := true) only [e, ↓reduceIte, or_true, true_or, or_false, false_or]
    exact PutR5.cast (PutR5.ret hF0) (rfl)
  · have hF0 := hF
    simp (decide := true) only [e, ↓reduceIte, or_true, true_or, or_false, false_or]
    exact PutR5.cast (PutR5.ret hF0) (rfl)
  · have hF0 := hF
    simp (decide := true) only [e, ↓reduceIte, or_true, true_or, or_false, false_or]
    exact PutR5.cast (PutR5.thn (bl16 hd hF0) (fun f1 z1 N1 b1 hF1 => PutR5.thn (tok (Or.inr (Or.inl e)) hF1) (fun f2 z2 N2 b2 hF2 => PutR5.ret hF2))) (by simp only [List.append_assoc, List.append_nil, List.nil_append])
  · have hF0 := hF
    simp (decide := true) only [e, ↓reduceIte, or_true, true_or, or_false, false_or]
    exact PutR5.cast (PutR5.thn (bl16 hd hF0) (fun f1 z1 N1 b1 hF1 => PutR5.thn (tok (Or.inr (Or.inr (Or.inl e))) hF1) (fun f2 z2 N2 b2 hF2 => PutR5.ret hF2))) (by simp only [List.append_assoc, List.append_nil, List.nil_append])
  · have hF0 := hF
    simp (decide := true) only [e, ↓reduceIte, or_true, true_or, or_false, false_or]
    exact PutR5.cast (PutR5.thn (bl16 hd hF0) (fun f1 z1 N1 b1 hF1 => PutR5.thn (tok (Or.inr (Or.inr (Or.inr (Or.inl e)))) hF1) (fun f2 z2 N2 b2 hF2 => PutR5.ret hF2))) (by simp only [List.append_assoc, List.append_nil, List.nil_append])
  · have hF0 := hF
    simp (decide := true) only [e, ↓reduceIte, or_true, true_or, or_false, false_or]
    exact PutR5.cast (PutR5.thn (bl16 hd hF0) (fun f1 z1 N1 b1 hF1 => PutR5.thn (tok (Or.inr (Or.inr (Or.inr (Or.inr (Or.inl e))))) hF1) (fun f2 z2 N2 b2 hF2 => PutR5.thn (pt26 hF2) (fun f3 z3 N3 b3 hF3 => PutR5.ret hF3)))) (by simp only [List.append_assoc, List.append_nil, List.nil_append])
  · have hF0 := hF
    simp (decide := true) only [e, ↓reduceIte, or_true, true_or, or_false, false_or]
    exact PutR5.cast (PutR5.thn (bl16 hd hF0) (fun f1 z1 N1 b1 hF1 => PutR5.thn (tok (Or.inr (Or.inr (Or.inr (Or.inr (Or.inr (Or.inl e)))))) hF1) (fun f2 z2 N2 b2 hF2 => PutR5.thn (pt26 hF2) (fun f3 z3 N3 b3 hF3 => PutR5.ret hF3)))) (by simp only [List.append_assoc, List.append_nil, List.nil_append])
  · have hF0 := hF
    simp (decide := true) only [e, ↓reduceIte, or_true, true_or, or_false, false_or]
    exact PutR5.cast (PutR5.thn (bl16 hd hF0) (fun f1 z1 N1 b1 hF1 => PutR5.ret hF1)) (by simp only [List.append_assoc, List.append_nil, List.nil_append])
  · have hF0 := hF
    simp (decide := true) only [e, ↓reduceIte, or_true, true_or, or_false, false_or]
    exact PutR5.cast (PutR5.thn (bl16 hd hF0) (fun f1 z1 N1 b1 hF1 => PutR5.ret hF1)) (by simp only [List.append_assoc, List.append_nil, List.nil_append])
  · have hF0 := hF
    simp (decide := true) only [e, ↓reduceIte, or_true, true_or, or_false, false_or]
    exact PutR5.cast (PutR5.thn (tok (Or.inr (Or.inr (Or.inr (Or.inr (Or.inr (Or.inr (Or.inl e))))))) hF0) (fun f1 z1 N1 b1 hF1 => PutR5.ret hF1)) (by simp only [List.append_assoc, List.append_nil, List.nil_append])
  · have hF0 := hF
    simp (decide := true) only [e, ↓reduceIte, or_true, true_or, or_false, false_or]
    exact PutR5.cast (PutR5.thn (tok (Or.inr (Or.inr (Or.inr (Or.inr (Or.inr (Or.inr (Or.inr (Or.inl e)))))))) hF0) (fun f1 z1 N1 b1 hF1 => PutR5.ret hF1)) (by simp only [List.append_assoc, List.append_nil, List.nil_append])
  · have hF0 := hF
    simp (decide := true) only [e, ↓reduceIte, or_true, true_or, or_false, false_or]
    exact PutR5.cast (PutR5.thn (tok (Or.inr (Or.inr (Or.inr (Or.inr (Or.inr (Or.inr (Or.inr (Or.inr (Or.inl e))))))))) hF0) (fun f1 z1 N1 b1 hF1 => PutR5.ret hF1)) (by simp only [List.append_assoc, List.append_nil, List.nil_append])
  · have hF0 := hF
    simp (decide := true) only [e, ↓reduceIte, or_true, true_or, or_false, false_or]
    exact PutR5.cast (PutR5.thn (tok (Or.inr (Or.inr (Or.inr (Or.inr (Or.inr (Or.inr (Or.inr (Or.inr (Or.inr (Or.inl e)))))))))) hF0) (fun f1 z1 N1 b1 hF1 => PutR5.thn (pt30 hF1) (fun f2 z2 N2 b2 hF2 => PutR5.ret hF2))) (by simp only [List.append_assoc, List.append_nil, List.nil_append])
  · have hF0 := hF
    simp (decide := true) only [e, ↓reduceIte, or_true, true_or, or_false, false_or]
    exact PutR5.cast (PutR5.thn (tok (Or.inr (Or.inr (Or.inr (Or.inr (Or.inr (Or.inr (Or.inr (Or.inr (Or.inr (Or.inr (Or.inl e))))))))))) hF0) (fun f1 z1 N1 b1 hF1 => PutR5.ret hF1)) (by simp only [List.append_assoc, List.append_nil, List.nil_append])
  · have hF0 := hF
    simp (decide := true) only [e, ↓reduceIte, or_true, true_or, or_false, false_or]
    exact PutR5.cast (PutR5.thn (tok (Or.inr (Or.inr (Or.inr (Or.inr (Or.inr (Or.inr (Or.inr (Or.inr (Or.inr (Or.inr (Or.inr (Or.inl e)))))))))))) hF0) (fun f1 z1 N1 b1 hF1 => PutR5.ret hF1)) (by simp only [List.append_assoc, List.append_nil, List.nil_append])
  · have hF0 := hF
    simp (decide := true) only [e, ↓reduceIte, or_true, true_or, or_false, false_or]
    exact PutR5.cast (PutR5.thn (pt15 hF0) (fun f1 z1 N1 b1 hF1 => PutR5.ret hF1)) (by simp only [List.append_assoc, List.append_nil, List.nil_append])
  · have hF0 := hF
    simp (decide := true) only [e, ↓reduceIte, or_true, true_or, or_false, false_or]
    exact PutR5.cast (PutR5.ret hF0) (rfl)
  · have hF0 := hF
    simp (decide := true) only [e, ↓reduceIte, or_true, true_or, or_false, false_or]
    exact PutR5.cast (PutR5.ret hF0) (rfl)
  · have hF0 := hF
    simp (decide := true) only [e, ↓reduceIte, or_true, true_or, or_false, false_or]
    exact PutR5.cast (PutR5.thn (tok (Or.inr (Or.inr (Or.inr (Or.inr (Or.inr (Or.inr (Or.inr (Or.inr (Or.inr (Or.inr (Or.inr (Or.inr (e))))))))))))) hF0) (fun f1 z1 N1 b1 hF1 => PutR5.ret hF1)) (by simp only [List.append_assoc, List.append_nil, List.nil_append])
  · have hF0 := hF
    simp (decide := true) only [e, ↓reduceIte, or_true, true_or, or_false, false_or]
    exact PutR5.cast (PutR5.ret hF0) (rfl)
  · have hF0 := hF
    simp (decide := true) only [e, ↓reduceIte, or_true, true_or, or_false, false_or]
    exact PutR5.cast (PutR5.ret hF0) (rfl)
end P
end

section
/-- a whole: p with the parts P; or none -/
def PC (bt : Nat → Int32) (n0 : Nat) (w : Int32) (p : Lb) (P : Tr Lb) : Prop := (w = -1 ∧ p.k = -1) ∨ ∃ w' w2, w = nI w' ∧ w' < n0 ∧ NdC bt w' p P w2 ∧ KOK p.k ∧ w' < 2 ^ 20
section P
variable {n : Nat} {x : Nat → Nat} {Ns : Nat} {bs : Nat → Int32}
variable {n0 Nt : Nat} {bt : Nat → Int32}
section K
variable {w : Int32} {p : Lb} {P : Tr Lb}
theorem PC.kind (h7 : n0 * 7 ≤ Nt) (hNt : Nt ≤ 2 ^ 20) (hp : PC bt n0 w p P) {d f : Int32} : F_Wr_kind w d f (nI n0) Nt bt = some p.k := by
  rcases hp with ⟨h1, h2⟩ | ⟨w', w2, h1, h2, h3, _⟩
  · subst h1
    unfold F_Wr_kind F_Nd_get
    rw [if_pos (by decide), Option.bind_some, h2]
  · subst h1
    exact getK h7 hNt h3 h2
end K
variable {q : Nat} {a : Lb} {l : Tr Lb} {w : Int32}
theorem Wr_finish (h7 : n0 * 7 ≤ Nt) (hNt : Nt ≤ 2 ^ 20) (h : NdC bt q a l w) (hq : q < n0) {W : List Int32} {f z : Int32} {N d : Nat} {b : Nat → Int32} (hk : KOK a.k) (hd : d ≤ 20000) (hF : FS W f z N b) : PutR5 (F_Wr_finish (nI q) (nI (if a.k = 3 then d + 1 else d)) f (nI n0) Nt bt z N b) d N W (fiW a d) := by
  unfold F_Wr_finish fiW
  rw [getK h7 hNt h hq, Option.bind_some]
  unfold KOK at hk
  rcases hk with e | e | e | e | e | e | e | e | e | e | e | e | e | e | e | e | e | e | e | e | e | e | e | e | e | e | e | e | e
  · have hF0 := hF
    simp (decide := true) only [e, ↓reduceIte, or_true, true_or, or_false, false_or]
    exact PutR5.cast (PutR5.ret hF0) (rfl)
  · have hF0 := hF
    simp (decide := true) only [e, ↓reduceIte, or_true, true_or, or_false, false_or]
    exact PutR5.cast (PutR5.thn (bl32 hd hF0) (fun f1 z1 N1 b1 hF1 => PutR5.ret hF1)) (by simp only [List.append_assoc, List.append_nil, List.nil_append])
  · have hF0 := hF
    simp (decide := true) only [e, ↓reduceIte, or_true, true_or, or_false, false_or]
    exact PutR5.cast (PutR5.ret hF0) (rfl)
  · have hF0 := hF
    simp (decide := true) only [e, ↓reduceIte, or_true, true_or, or_false, false_or]
    rw [show nI (d + 1) - 1 = nI d by rw [show (1 : Int32) = nI 1 from Eq.refl _, nI_sub' (by omega)]; rfl]
    exact PutR5.cast (PutR5.ret hF0) (rfl)
  · have hF0 := hF
    simp (decide := true) only [e, ↓reduceIte, or_true, true_or, or_false, false_or]
    exact PutR5.cast (PutR5.ret hF0) (rfl)
  · have hF0 := hF
    simp (decide := true) only [e, ↓reduceIte, or_true, true_or, or_false, false_or]
    exact PutR5.cast (PutR5.thn (pt33 hF0) (fun f1 z1 N1 b1 hF1 => PutR5.ret hF1)) (by simp only [List.append_assoc, List.append_nil, List.nil_append])
  · have hF0 := hF
    simp (decide := true) only [e, ↓reduceIte, or_true, true_or, or_false, false_or]
    exact PutR5.cast (PutR5.thn (bl32 hd hF0) (fun f1 z1 N1 b1 hF1 => PutR5.ret hF1)) (by simp only [List.append_assoc, List.append_nil, List.nil_append])
  · have hF0 := hF
    simp (decide := true) only [e, ↓reduceIte, or_true, true_or, or_false, false_or]
    exact PutR5.cast (PutR5.thn (bl32 hd hF0) (fun f1 z1 N1 b1 hF1 => PutR5.ret hF1)) (by simp only [List.append_assoc, List.append_nil, List.nil_append])
  · have hF0 := hF
    simp (decide := true) only [e, ↓reduceIte, or_true, true_or, or_false, false_or]
    exact PutR5.cast (PutR5.thn (bl32 hd hF0) (fun f1 z1 N1 b1 hF1 => PutR5.ret hF1)) (by simp only [List.append_assoc, List.append_nil, List.nil_append])
  · have hF0 := hF
    simp (decide := true) only [e, ↓reduceIte, or_true, true_or, or_false, false_or]
    exact PutR5.cast (PutR5.thn (bl32 hd hF0) (fun f1 z1 N1 b1 hF1 => PutR5.ret hF1)) (by simp only [List.append_assoc, List.append_nil, List.nil_append])
  · have hF0 := hF
    simp (decide := true) only [e, ↓reduceIte, or_true, true_or, or_false, false_or]
    exact PutR5.cast (PutR5.thn (pt33 hF0) (fun f1 z1 N1 b1 hF1 => PutR5.ret hF1)) (by simp only [List.append_assoc, List.append_nil, List.nil_append])
  · have hF0 := hF
    simp (decide := true) only [e, ↓reduceIte, or_true, true_or, or_false, false_or]
    exact PutR5.cast (PutR5.thn (pt33 hF0) (fun f1 z1 N1 b1 hF1 => PutR5.ret hF1)) (by simp only [List.append_assoc, List.append_nil, List.nil_append])
  · have hF0 := hF
    simp (decide := true) only [e, ↓reduceIte, or_true, true_or, or_false, false_or]
    exact PutR5.cast (PutR5.thn (pt33 hF0) (fun f1 z1 N1 b1 hF1 => PutR5.ret hF1)) (by simp only [List.append_assoc, List.append_nil, List.nil_append])
  · have hF0 := hF
    simp (decide := true) only [e, ↓reduceIte, or_true, true_or, or_false, false_or]
    exact PutR5.cast (PutR5.thn (pt33 hF0) (fun f1 z1 N1 b1 hF1 => PutR5.ret hF1)) (by simp only [List.append_assoc, List.append_nil, List.nil_append])
  · have hF0 := hF
    simp (decide := true) only [e, ↓reduceIte, or_true, true_or, or_false, false_or]
    exact PutR5.cast (PutR5.thn (pt33 hF0) (fun f1 z1 N1 b1 hF1 => PutR5.ret hF1)) (by simp only [List.append_assoc, List.append_nil, List.nil_append])
  · have hF0 := hF
    simp (decide := true) only [e, ↓reduceIte, or_true, true_or, or_false, false_or]
    exact PutR5.cast (PutR5.thn (pt33 hF0) (fun f1 z1 N1 b1 hF1 => PutR5.ret hF1)) (by simp only [List.append_assoc, List.append_nil, List.nil_append])
  · have hF0 := hF
    simp (decide := true) only [e, ↓reduceIte, or_true, true_or, or_false, false_or]
    exact PutR5.cast (PutR5.thn (pt33 hF0) (fun f1 z1 N1 b1 hF1 => PutR5.ret hF1)) (by simp only [List.append_assoc, List.append_nil, List.nil_append])
  · have hF0 := hF
    simp (decide := true) only [e, ↓reduceIte, or_true, true_or, or_false, false_or]
    exact PutR5.cast (PutR5.ret hF0) (rfl)
  · have hF0 := hF
    simp (decide := true) only [e, ↓reduceIte, or_true, true_or, or_false, false_or]
    exact PutR5.cast (PutR5.ret hF0) (rfl)
  · have hF0 := hF
    simp (decide := true) only [e, ↓reduceIte, or_true, true_or, or_false, false_or]
    exact PutR5.cast (PutR5.ret hF0) (rfl)
  · have hF0 := hF
    simp (decide := true) only [e, ↓reduceIte, or_true, true_or, or_false, false_or]
    exact PutR5.cast (PutR5.thn (pt34 hF0) (fun f1 z1 N1 b1 hF1 => PutR5.ret hF1)) (by simp only [List.append_assoc, List.append_nil, List.nil_append])
  · have hF0 := hF
    simp (decide := true) only [e, ↓reduceIte, or_true, true_or, or_false, false_or]
    exact PutR5.cast (PutR5.ret hF0) (rfl)
  · have hF0 := hF
    simp (decide := true) only [e, ↓reduceIte, or_true, true_or, or_false, false_or]
    exact PutR5.cast (PutR5.ret hF0) (rfl)
  · have hF0 := hF
    simp (decide := true) only [e, ↓reduceIte, or_true, true_or, or_false, false_or]
    exact PutR5.cast (PutR5.thn (pt35 hF0) (fun f1 z1 N1 b1 hF1 => PutR5.ret hF1)) (by simp only [List.append_assoc, List.append_nil, List.nil_append])
  · have hF0 := hF
    simp (decide := true) only [e, ↓reduceIte, or_true, true_or, or_false, false_or]
    exact PutR5.cast (PutR5.ret hF0) (rfl)
  · have hF0 := hF
    simp (decide := true) only [e, ↓reduceIte, or_true, true_or, or_false, false_or]
    exact PutR5.cast (PutR5.thn (pt36 hF0) (fun f1 z1 N1 b1 hF1 => PutR5.ret hF1)) (by simp only [List.append_assoc, List.append_nil, List.nil_append])
  · have hF0 := hF
    simp (decide := true) only [e, ↓reduceIte, or_true, true_or, or_false, false_or]
    exact PutR5.cast (PutR5.ret hF0) (rfl)
  · have hF0 := hF
    simp (decide := true) only [e, ↓reduceIte, or_true, true_or, or_false, false_or]
    exact PutR5.cast (PutR5.ret hF0) (rfl)
  · have hF0 := hF
    simp (decide := true) only [e, ↓reduceIte, or_true, true_or, or_false, false_or]
    exact PutR5.cast (PutR5.ret hF0) (rfl)
theorem PC.kk (h7 : n0 * 7 ≤ Nt) (hNt : Nt ≤ 2 ^ 20) (h : NdC bt q a l w) (hq : q < n0) {p : Lb} {P : Tr Lb} (hp : PC bt n0 w p P) : p.k = -1 ∨ KOK p.k := by
  rcases hp with ⟨h1, h2⟩ | ⟨w', w2, h1, h2, h3, h4, _⟩
  · exact Or.inl h2
  · exact Or.inr h4
theorem Wr_lf (h7 : n0 * 7 ≤ Nt) (hNt : Nt ≤ 2 ^ 20) (h : NdC bt q a l w) (hq : q < n0) {p : Lb} {P : Tr Lb} {W : List Int32} {f z : Int32} {N d : Nat} {b : Nat → Int32} (hp : PC bt n0 w p P) (hrt : Tr.rt l < 2 ^ 20) (hd : d ≤ 20000) (hF : FS W f z N b) : PutR (F_Wr_leadFirst w (nI q) (nI d) f (nI n0) Nt bt z N b) N W (lfW p l d) := by
  have hk := PC.kk h7 hNt h hq hp
  unfold F_Wr_leadFirst lfW
  rw [PC.kind h7 hNt hp, Option.bind_some]
  unfold KOK at hk
  rcases hk with e | e | e | e | e | e | e | e | e | e | e | e | e | e | e | e | e | e | e | e | e | e | e | e | e | e | e | e | e | e
  · have hF0 := hF
    simp (decide := true) only [e, ↓reduceIte, or_true, true_or, or_false, false_or]
    exact PutR.ret hF0
  · have hF0 := hF
    simp (decide := true) only [e, ↓reduceIte, or_true, true_or, or_false, false_or]
    exact PutR.ret hF0
  · have hF0 := hF
    simp (decide := true) only [e, ↓reduceIte, or_true, true_or, or_false, false_or]
    rw [get3 h7 hNt h hq, Option.bind_some]
    by_cases c : Tr.rt l ≤ 1
    · rw [if_pos c, if_pos (show nI (Tr.rt l) ≤ 1 by rw [show (1 : Int32) = nI 1 from Eq.refl _, nI_le' (by omega) (by omega)]; omega)]
      exact (pt16 hF0).one
    · rw [if_neg c, if_neg (show ¬ nI (Tr.rt l) ≤ 1 by rw [show (1 : Int32) = nI 1 from Eq.refl _, nI_le' (by omega) (by omega)]; omega)]
      exact (pt15 hF0).one
  · have hF0 := hF
    simp (decide := true) only [e, ↓reduceIte, or_true, true_or, or_false, false_or]
    exact PutR.ret hF0
  · have hF0 := hF
    simp (decide := true) only [e, ↓reduceIte, or_true, true_or, or_false, false_or]
    exact PutR.ret hF0
  · have hF0 := hF
    simp (decide := true) only [e, ↓reduceIte, or_true, true_or, or_false, false_or]
    exact PutR.ret hF0
  · have hF0 := hF
    simp (decide := true) only [e, ↓reduceIte, or_true, true_or, or_false, false_or]
    exact (pt15 hF0).one
  · have hF0 := hF
    simp (decide := true) only [e, ↓reduceIte, or_true, true_or, or_false, false_or]
    exact (bl17 hd hF0).one
  · have hF0 := hF
    simp (decide := true) only [e, ↓reduceIte, or_true, true_or, or_false, false_or]
    exact (bl19 hd hF0).one
  · have hF0 := hF
    simp (decide := true) only [e, ↓reduceIte, or_true, true_or, or_false, false_or]
    exact (bl20 hd hF0).one
  · have hF0 := hF
    simp (decide := true) only [e, ↓reduceIte, or_true, true_or, or_false, false_or]
    exact (bl21 hd hF0).one
  · have hF0 := hF
    simp (decide := true) only [e, ↓reduceIte, or_true, true_or, or_false, false_or]
    exact PutR.ret hF0
  · have hF0 := hF
    simp (decide := true) only [e, ↓reduceIte, or_true, true_or, or_false, false_or]
    exact PutR.ret hF0
  · have hF0 := hF
    simp (decide := true) only [e, ↓reduceIte, or_true, true_or, or_false, false_or]
    exact PutR.ret hF0
  · have hF0 := hF
    simp (decide := true) only [e, ↓reduceIte, or_true, true_or, or_false, false_or]
    exact PutR.ret hF0
  · have hF0 := hF
    simp (decide := true) only [e, ↓reduceIte, or_true, true_or, or_false, false_or]
    exact PutR.ret hF0
  · have hF0 := hF
    simp (decide := true) only [e, ↓reduceIte, or_true, true_or, or_false, false_or]
    exact PutR.ret hF0
  · have hF0 := hF
    simp (decide := true) only [e, ↓reduceIte, or_true, true_or, or_false, false_or]
    exact PutR.ret hF0
  · have hF0 := hF
    simp (decide := true) only [e, ↓reduceIte, or_true, true_or, or_false, false_or]
    exact PutR.ret hF0
  · have hF0 := hF
    simp (decide := true) only [e, ↓reduceIte, or_true, true_or, or_false, false_or]
    exact PutR.ret hF0
  · have hF0 := hF
    simp (decide := true) only [e, ↓reduceIte, or_true, true_or, or_false, false_or]
    exact PutR.ret hF0
  · have hF0 := hF
    simp (decide := true) only [e, ↓reduceIte, or_true, true_or, or_false, false_or]
    exact PutR.ret hF0
  · have hF0 := hF
    simp (decide := true) only [e, ↓reduceIte, or_true, true_or, or_false, false_or]
    exact PutR.ret hF0
  · have hF0 := hF
    simp (decide := true) only [e, ↓reduceIte, or_true, true_or, or_false, false_or]
    exact PutR.ret hF0
  · have hF0 := hF
    simp (decide := true) only [e, ↓reduceIte, or_true, true_or, or_false, false_or]
    exact PutR.ret hF0
  · have hF0 := hF
    simp (decide := true) only [e, ↓reduceIte, or_true, true_or, or_false, false_or]
    exact PutR.ret hF0
  · have hF0 := hF
    simp (decide := true) only [e, ↓reduceIte, or_true, true_or, or_false, false_or]
    exact PutR.ret hF0
  · have hF0 := hF
    simp (decide := true) only [e, ↓reduceIte, or_true, true_or, or_false, false_or]
    exact PutR.ret hF0
  · have hF0 := hF
    simp (decide := true) only [e, ↓reduceIte, or_true, true_or, or_false, false_or]
    exact PutR.ret hF0
  · have hF0 := hF
    simp (decide := true) only [e, ↓reduceIte, or_true, true_or, or_false, false_or]
    exact PutR.ret hF0
end P
end
