section
/-- whether two tokens are the same name -/
def sameT (T : Tks) (sm : Int32 → Int32 → Int32 → Bool) (a b : Nat) : Bool := T.twd a == T.twd b && sm (T.tpl a) (T.tpl b) (T.twd b)
/-- the reference's reading of names, n of which stand from token a on -/
def rdNm (K : Nat → Nat) (SN : Nat → Nat → Bool) (a : Nat) : Nat → Nat → Sum Nat Nat
  | 0, _ => .inl 0
  | fu + 1, n => if K (a + 2 * n) = 2 ∧ ((List.range n).any fun k => SN (a + 2 * k) (a + 2 * n)) = false then (if K (a + 2 * n + 1) = 54 then (if n = 7 then .inl (a + 2 * n + 1) else rdNm K SN a fu (n + 1)) else .inr (a + 2 * n + 1)) else .inl (a + 2 * n)
section Stm
variable {T : Tks} {sm : Int32 → Int32 → Int32 → Bool} {m : Nat}
theorem NmL.any {a : Nat} {p : Nd → Bool} : ∀ {n : Nat} {N : Tr Lb}, NmL T false a n N → (Tr.pn N).any p = (List.range n).any fun k => p (32, T.tpl (a + 2 * k), -1, 0, T.twd (a + 2 * k), 1)
  | 0, N, h => by rw [show N = .leaf from h]; rfl
  | n + 1, N, h => by
    obtain ⟨N0, h1, h2, h3⟩ := h
    rcases h3 with ⟨_, h⟩ | ⟨h, _⟩
    · rw [h, Tr.pn_app, List.any_append, h1.any, List.range_succ, List.any_append]
      rfl
    · cases h
theorem any_rev {α : Type} {p : α → Bool} (l : List α) : l.reverse.any p = l.any p := List.any_reverse
theorem take_rev {α : Type} {l1 l2 : List α} {n : Nat} (h : l2.length = n) : (l1 ++ l2).reverse.take n = l2.reverse := by
  rw [List.reverse_append, List.take_left']
  rw [List.length_reverse]; exact h
theorem st_dname {md B l lp p v : Int32} {f : Fm} {r : List Fm} {D : List Nd} {N : Tr Lb} {fn : List Wt} {a n i : Nat} (hmd : (md = 12 ∧ B = 13) ∨ (md = 18 ∧ B = 19) ∨ (md = 17 ∧ B = 19)) (hN : NmL T false a n N) (hip : f.ip = nI n) (hi : T.tkd i = 2) (hn : n ≤ 8) (hs : D.length + Tr.sz N < 16385) : Rs.stands (md, l, 0, lp, f, r, D ++ Tr.pn N, [], fn) (tokC T i) sm = if ((List.range n).any fun k => sameT T sm (a + 2 * k) i) = true then none else some (B, l, 0, lp, f.s_ip (nI (n + 1)), r, D ++ Tr.pn (Tr.app N (Tr.nd (T.lb 32 i) .leaf)), [], fn) := by
  have hd : Rs.dif (md, l, 0, lp, f, r, D ++ Tr.pn N, [], fn) (2, T.tpl i, T.twd i) sm = (List.range n).any fun k => sameT T sm (a + 2 * k) i := by
    unfold Rs.dif
    show ((D ++ Tr.pn N).reverse.take f.ip.toNatClampNeg).any (fun d => d.wd == T.twd i && sm d.pl (T.tpl i) (T.twd i)) = _
    rw [hip, nI_clamp' (by omega), take_rev (by rw [Tr.pn_len, hN.sz]), any_rev, hN.any]
    rfl
  have key : Rs.addDifferentName (md, l, 0, lp, f, r, D ++ Tr.pn N, [], fn) (2, T.tpl i, T.twd i) sm B = if ((List.range n).any fun k => sameT T sm (a + 2 * k) i) = true then none else some (B, l, 0, lp, f.s_ip (nI (n + 1)), r, D ++ Tr.pn (Tr.app N (Tr.nd (T.lb 32 i) .leaf)), [], fn) := by
    unfold Rs.addDifferentName
    rw [if_neg (show ¬ ((2 : Int32) ≠ 2) from fun x => x rfl), hd]
    by_cases c : ((List.range n).any fun k => sameT T sm (a + 2 * k) i) = true
    · rw [if_pos c, if_pos c]
    · rw [if_neg c, if_neg c]
      show some (B, l, (0 : Int32), lp, f.s_ip (f.ip + 1), r, Rs.nadd (D ++ Tr.pn N) 32 (T.tpl i) (-1) 0 (T.twd i), ([] : List Wt), fn) = _
      rw [hip, show nI n + 1 = nI (n + 1) from nI_add' n 1, nadd_lf (nI i) hs]
      rfl
  rw [tokC_of hi]
  rcases hmd with ⟨rfl, rfl⟩ | ⟨rfl, rfl⟩ | ⟨rfl, rfl⟩
  · exact key
  · exact key
  · exact key
theorem st_dnameno {md l lp k p v : Int32} {f : Fm} {r : List Fm} {D : List Nd} {fn : List Wt} (hmd : md = 12 ∨ md = 18 ∨ (md = 17 ∧ k ≠ 41)) (h : k ≠ 2) : Rs.stands (md, l, 0, lp, f, r, D, [], fn) (k, p, v) sm = none := by
  have key : ∀ B, Rs.addDifferentName (md, l, 0, lp, f, r, D, [], fn) (k, p, v) sm B = none := by
    intro B
    unfold Rs.addDifferentName
    rw [if_pos (show (k, p, v).1 ≠ 2 from h)]
  rcases hmd with rfl | rfl | ⟨rfl, h41⟩
  · exact key 13
  · exact key 19
  · show (if k = 41 then _ else Rs.addDifferentName (17, l, 0, lp, f, r, D, [], fn) (k, p, v) sm 19) = none
    rw [if_neg h41]
    exact key 19
/-- names in a function's head, from a state that wants the n-th -/
theorem nm_run (hT : TkOK T m) {A B l lp : Int32} {r : List Fm} {D : List Nd} {fn : List Wt} {a : Nat} (hAB : (A = 12 ∧ B = 13) ∨ (A = 18 ∧ B = 19)) : ∀ (fu n : Nat) (md : Int32) (f : Fm) (N : Tr Lb), m - (a + 2 * n) < fu → a + 2 * n < m → (md = A ∨ (md = 17 ∧ A = 18 ∧ T.tkd (a + 2 * n) ≠ 51)) → NmL T false a n N → (0 < n → T.tkd (a + 2 * n - 1) = 54) → f.ip = nI n → n ≤ 7 → D.length + Tr.sz N ≤ a + 2 * n →
    match rdNm T.tkd (sameT T sm) a fu n with
    | .inl j => j < m ∧ FltN T sm (a + 2 * n) j (md, l, 0, lp, f, r, D ++ Tr.pn N, [], fn)
    | .inr j => ∃ n' N', n' ≤ 8 ∧ 0 < n' ∧ j + 1 = a + 2 * n' ∧ j < m ∧ T.tkd j ≠ 54 ∧ NmL T false a n' N' ∧ GoN T sm (a + 2 * n) j (md, l, 0, lp, f, r, D ++ Tr.pn N, [], fn) (B, l, 0, lp, f.s_ip (nI n'), r, D ++ Tr.pn N', [], fn)
  | 0, n, md, f, N, h, _, _, _, _, _, _, _ => by omega
  | fu + 1, n, md, f, N, hfu, hi, hmd, hN, hcm, hip, hn, hs => by
    have hle := hT.le
    have hszN := hN.sz
    rw [rdNm]
    have hmd' : (md = 12 ∧ B = 13) ∨ (md = 18 ∧ B = 19) ∨ (md = 17 ∧ B = 19) := by
      rcases hmd with rfl | ⟨rfl, h2, _⟩
      · exact hAB.elim Or.inl (fun h => Or.inr (Or.inl h))
      · rcases hAB with ⟨h, _⟩ | ⟨_, h⟩
        · rw [h2] at h; exact absurd h (by decide)
        · exact Or.inr (Or.inr ⟨rfl, h⟩)
    by_cases c2 : T.tkd (a + 2 * n) = 2
    · have hi1 : a + 2 * n + 1 < m := hT.go hi (by omega)
      have s1 := st_dname (sm := sm) (l := l) (lp := lp) (f := f) (r := r) (D := D) (fn := fn) (p := 0) (v := 0) hmd' hN hip c2 (by omega) (by omega)
      by_cases cs : ((List.range n).any fun k => sameT T sm (a + 2 * k) (a + 2 * n)) = true
      · rw [if_neg (fun x => by rw [cs] at x; exact absurd x.2 (by decide))]
        rw [if_pos cs] at s1
        exact ⟨hi, FltN.now s1⟩
      · have cs' : ((List.range n).any fun k => sameT T sm (a + 2 * k) (a + 2 * n)) = false := by
          cases h : ((List.range n).any fun k => sameT T sm (a + 2 * k) (a + 2 * n)) with
          | true => exact absurd h cs
          | false => rfl
        rw [if_pos ⟨c2, cs'⟩]
        rw [if_neg cs] at s1
        have g1 := GoN.one s1
        have hseB : ∀ t : Tok, Rs.settle (B, l, 0, lp, f.s_ip (nI (n + 1)), r, D ++ Tr.pn (Tr.app N (Tr.nd (T.lb 32 (a + 2 * n)) .leaf)), [], fn) t = (B, l, 0, lp, f.s_ip (nI (n + 1)), r, D ++ Tr.pn (Tr.app N (Tr.nd (T.lb 32 (a + 2 * n)) .leaf)), [], fn) := by
          intro t
          rcases hAB with ⟨_, rfl⟩ | ⟨_, rfl⟩
          · rfl
          · rfl
        rw [hseB] at g1
        have hN' : NmL T false a (n + 1) (Tr.app N (Tr.nd (T.lb 32 (a + 2 * n)) .leaf)) := ⟨N, hN, hcm, Or.inl ⟨c2, rfl⟩⟩
        by_cases c54 : T.tkd (a + 2 * n + 1) = 54
        · rw [if_pos c54]
          have hi2 : a + 2 * n + 2 < m := hT.go hi1 (by omega)
          have s2 : Rs.stands (B, l, 0, lp, f.s_ip (nI (n + 1)), r, D ++ Tr.pn (Tr.app N (Tr.nd (T.lb 32 (a + 2 * n)) .leaf)), [], fn) (tokC T (a + 2 * n + 1)) sm = if nI (n + 1) < 8 then some (A, l, 0, lp, f.s_ip (nI (n + 1)), r, D ++ Tr.pn (Tr.app N (Tr.nd (T.lb 32 (a + 2 * n)) .leaf)), [], fn) else none := by
            rw [tokC_of c54]
            rcases hAB with ⟨rfl, rfl⟩ | ⟨rfl, rfl⟩
            · rfl
            · rfl
          by_cases c7 : n = 7
          · rw [if_pos c7]
            rw [if_neg (show ¬ nI (n + 1) < 8 by rw [c7]; decide)] at s2
            exact ⟨hi1, g1.flt (FltN.now s2)⟩
          · rw [if_neg c7]
            rw [if_pos (show nI (n + 1) < 8 by rw [show (8 : Int32) = nI 8 from rfl, nI_lt' (by omega) (by omega)]; omega)] at s2
            have g2 := g1.trans (GoN.one s2)
            have hseA : ∀ t : Tok, Rs.settle (A, l, 0, lp, f.s_ip (nI (n + 1)), r, D ++ Tr.pn (Tr.app N (Tr.nd (T.lb 32 (a + 2 * n)) .leaf)), [], fn) t = (A, l, 0, lp, f.s_ip (nI (n + 1)), r, D ++ Tr.pn (Tr.app N (Tr.nd (T.lb 32 (a + 2 * n)) .leaf)), [], fn) := by
              intro t
              rcases hAB with ⟨rfl, _⟩ | ⟨rfl, _⟩
              · rfl
              · rfl
            rw [hseA] at g2
            have ih := nm_run hT (l := l) (lp := lp) (r := r) (D := D) (fn := fn) (a := a) hAB fu (n + 1) A (f.s_ip (nI (n + 1))) _ (by omega) hi2 (Or.inl rfl) hN' (fun _ => c54) rfl (by omega) (by rw [Tr.sz_app]; simp only [Tr.sz]; omega)
            cases e : rdNm T.tkd (sameT T sm) a fu (n + 1) with
            | inl j =>
              rw [e] at ih
              exact ⟨ih.1, g2.flt ih.2⟩
            | inr j =>
              rw [e] at ih
              obtain ⟨n', N', i1, i2, i3, i4, i5, i6, i7⟩ := ih
              exact ⟨n', N', i1, i2, i3, i4, i5, i6, g2.trans i7⟩
        · rw [if_neg c54]
          exact ⟨n + 1, _, by omega, by omega, by omega, hi1, c54, hN', g1⟩
    · rw [if_neg (fun x => c2 x.1)]
      have hmn : md ≠ 31 := by
        rcases hmd with rfl | ⟨rfl, _, _⟩
        · rcases hAB with ⟨h, _⟩ | ⟨h, _⟩ <;> (rw [h]; decide)
        · decide
      refine ⟨hi, FltN.now ?_ (NB.md (k := md) rfl hmn)⟩
      refine st_dnameno ?_ (tk_ne hT (j := 2) rfl c2)
      rcases hmd with rfl | ⟨rfl, _, h51⟩
      · rcases hAB with ⟨h, _⟩ | ⟨h, _⟩
        · exact Or.inl h
        · exact Or.inr (Or.inl h)
      · exact Or.inr (Or.inr ⟨rfl, tk_ne hT (j := 51) rfl h51⟩)
end Stm
end

section
def stFb (K : Nat → Nat) (SN : Nat → Nat → Bool) (fs : List Nat) (res : Bool) (nm : Nat) : Sum Nat (Nat × List Nat × List Nat) :=
  if K nm ≠ 2 then .inl nm
  else if fs.any (fun q => SN q nm) = true then (if res = false ∧ K (nm - 1) = 19 then .inl (nm + 1) else .inl nm)
  else if K (nm + 1) ≠ 50 then .inl (nm + 1)
  else if K (nm + 2) = 51 then .inr (nm + 3, [19], fs ++ [nm])
  else match rdNm K SN (nm + 2) FU 0 with
    | .inl j => .inl j
    | .inr j => if K j = 51 then .inr (j + 1, [19], fs ++ [nm]) else .inl j
def stFun (K : Nat → Nat) (SN : Nat → Nat → Bool) (i : Nat) (bl fs : List Nat) : Sum Nat (Nat × List Nat × List Nat) :=
  if bl ≠ [] then .inl i
  else if K (i + 1) = 52 then (match rdNm K SN (i + 2) FU 0 with
    | .inl j => .inl j
    | .inr j => if K j ≠ 53 then .inl j else if K (j + 1) ≠ 56 then .inl (j + 1) else stFb K SN fs true (j + 2))
  else if K (i + 1) = 2 ∧ K (i + 2) = 56 then stFb K SN fs false (i + 3)
  else stFb K SN fs false (i + 1)
/-- as StR, from a state that has settled -/
def StR' (T : Tks) (sm : Int32 → Int32 → Int32 → Bool) (m i : Nat) (s : Rs) : Sum Nat (Nat × List Nat × List Nat) → Prop
  | .inl j => j < m ∧ FltN T sm i j s
  | .inr (i', bl', fs') => ∃ s', GoS T sm i i' s s' ∧ SR T m i' bl' fs' s'
theorem StR'.pre {T : Tks} {sm : Int32 → Int32 → Int32 → Bool} {m i j : Nat} {s s' : Rs} (g : GoN T sm i j s s') : ∀ {o : Sum Nat (Nat × List Nat × List Nat)}, StR' T sm m j s' o → StR' T sm m i s o
  | .inl k, h => ⟨h.1, g.flt h.2⟩
  | .inr (i', bl', fs'), ⟨s2, h1, h2⟩ => ⟨s2, g.transS h1, h2⟩
theorem StR'.to {T : Tks} {sm : Int32 → Int32 → Int32 → Bool} {m i : Nat} {s : Rs} : ∀ {o : Sum Nat (Nat × List Nat × List Nat)}, StR' T sm m i (s.settle (tokC T i)) o → StR T sm m i s o
  | .inl k, h => h
  | .inr (i', bl', fs'), h => h
section Stm
variable {T : Tks} {sm : Int32 → Int32 → Int32 → Bool} {m : Nat}
/-- a function's frame: its name nm, parts pa, names ip, their place ipl -/
def fuF (T : Tks) (i nm : Nat) (pa ip ipl : Int32) : Fm := (1, T.tpl i, T.twd nm, T.tpl nm, pa, ip, ipl, T.twd i, 0, 0, 0, 0, 0)
theorem fn_any {fs : List Nat} {nm : Nat} : (fs.map (fnW T)).any (fun f => f.wd == T.twd nm && sm f.pl (T.tpl nm) (T.twd nm)) = fs.any (fun q => sameT T sm q nm) := by
  rw [List.any_map]
  rfl
theorem fn_tadd {fs : List Nat} {nm : Nat} (h : fs.length < 16384) : Rs.tadd (fs.map (fnW T)) 10 (T.tpl nm) (T.twd nm) = (fs ++ [nm]).map (fnW T) := by
  unfold Rs.tadd
  rw [if_pos (by rw [List.length_map]; exact h), List.map_append]
  rfl
/-- a function's parameters -/
theorem fun_tail (hT : TkOK T m) {i nm : Nat} {fs : List Nat} {X R : Tr Lb} {f : Fm} (hb : BI T [f] [] i X) (hsz : Tr.sz X ≤ i) (hi : nm + 2 < m) (hin : i < nm) (hfs : fs.length ≤ i) (hfq : ∀ q ∈ fs, q < i) (h19 : T.tkd i = 19) (hR : (T.tkd (i + 1) = 52 ∧ ∃ n, 0 < n ∧ NmL T false (i + 2) n R ∧ T.tkd (i + 2 * n + 1) = 53 ∧ T.tkd (i + 2 * n + 2) = 56 ∧ nm = i + 2 * n + 3) ∨ (T.tkd (i + 1) = 2 ∧ T.tkd (i + 2) = 56 ∧ R = Tr.nd (T.lb 32 (i + 1)) .leaf ∧ nm = i + 3) ∨ (R = .leaf ∧ nm = i + 1)) (h2 : T.tkd nm = 2) (h50 : T.tkd (nm + 1) = 50) (hzR : Tr.sz R + i + 1 ≤ nm) :
    match (if T.tkd (nm + 2) = 51 then .inr (nm + 3, [19], fs ++ [nm]) else match rdNm T.tkd (sameT T sm) (nm + 2) FU 0 with
      | .inl j => .inl j
      | .inr j => if T.tkd j = 51 then .inr (j + 1, [19], fs ++ [nm]) else .inl j : Sum Nat (Nat × List Nat × List Nat)) with
    | .inl j => j < m ∧ FltN T sm (nm + 2) j (17, nI 1, 0, 0, fuF T i nm 1 0 (T.tpl (nm + 1)), [f], Tr.pn (Tr.app X (Tr.nd (T.nms nm) R)), [], (fs ++ [nm]).map (fnW T))
    | .inr (i', bl', fs') => ∃ s', GoS T sm (nm + 2) i' (17, nI 1, 0, 0, fuF T i nm 1 0 (T.tpl (nm + 1)), [f], Tr.pn (Tr.app X (Tr.nd (T.nms nm) R)), [], (fs ++ [nm]).map (fnW T)) s' ∧ SR T m i' bl' fs' s' := by
  have hle := hT.le
  -- the end of the parameters
  have fin : ∀ (n c : Nat) (N : Tr Lb) (md : Int32), (md = 17 ∧ n = 0 ∨ md = 19) → n ≤ 8 → NmL T false (nm + 2) n N → c = (if n = 0 then nm + 2 else nm + 2 * n + 1) → T.tkd c = 51 → c < m → ∃ s', GoS T sm c (c + 1) (md, nI 1, 0, 0, fuF T i nm 1 (nI n) (T.tpl (nm + 1)), [f], Tr.pn (Tr.app X (Tr.nd (T.nms nm) R)) ++ Tr.pn N, [], (fs ++ [nm]).map (fnW T)) s' ∧ SR T m (c + 1) [19] (fs ++ [nm]) s' := by
    intro n c N md hmd hn hN hc h51 hcm
    have hc1 : c + 1 < m := hT.go hcm (by omega)
    have hNs := hN.sz
    have hNr := hN.rt
    have hcn : nm + n + 1 ≤ c := by
      by_cases h0 : n = 0
      · rw [if_pos h0] at hc; omega
      · rw [if_neg h0] at hc; omega
    have hnd : Rs.nadd (Tr.pn (Tr.app X (Tr.nd (T.nms nm) R)) ++ Tr.pn N) 2 (T.tpl (nm + 1)) (-1) (nI n) 0 = Tr.pn (Tr.app X (Tr.app (Tr.nd (T.nms nm) R) (Tr.nd (T.nms (nm + 1)) N))) := by
      rw [← Tr.pn_app, show nI n = nI (Tr.rt N) by rw [hNr], nadd_pn (-1) (by rw [Tr.sz_app]; simp only [Tr.sz]; omega), Tr.app_assoc]
      rfl
    have s1 : Rs.stands (md, nI 1, 0, 0, fuF T i nm 1 (nI n) (T.tpl (nm + 1)), [f], Tr.pn (Tr.app X (Tr.nd (T.nms nm) R)) ++ Tr.pn N, [], (fs ++ [nm]).map (fnW T)) (tokC T c) sm = some (0, nI 1, 0, 0, fuF T i nm 2 0 (T.tpl c), [f], Tr.pn (Tr.app X (Tr.app (Tr.nd (T.nms nm) R) (Tr.nd (T.nms (nm + 1)) N))), [], (fs ++ [nm]).map (fnW T)) := by
      rw [tokC_of h51, ← hnd]
      rcases hmd with ⟨rfl, _⟩ | rfl
      · rfl
      · rfl
    refine ⟨_, GoS.one s1, ?_⟩
    exact SR.opened (g := fuF T i nm 2 0 (T.tpl c)) (fs := fs ++ [nm]) (c := c) (kd := 19) (bl := []) (L := Tr.app (Tr.nd (T.nms nm) R) (Tr.nd (T.nms (nm + 1)) N)) hb hsz (by show 0 ≤ 59; omega) trivial (by rw [List.length_append]; show fs.length + 1 ≤ c + 1; omega) (fun q hq => by
      rcases List.mem_append.mp hq with h | h
      · have := hfq q h; omega
      · rw [List.mem_singleton] at h; omega) hc1 ⟨rfl, rfl, rfl, rfl, rfl, rfl, Or.inr (Or.inr (Or.inr (Or.inr (Or.inr (Or.inr ⟨rfl, rfl, rfl, nm, R, N, ⟨h19, hR, h2, h50, n, hN, hc, h51⟩, rfl, rfl⟩)))))⟩ rfl rfl (by rw [Tr.sz_app]; simp only [Tr.sz]; omega) (fun _ => rfl)
  by_cases c51 : T.tkd (nm + 2) = 51
  · rw [if_pos c51]
    have := fin 0 (nm + 2) .leaf 17 (Or.inl ⟨rfl, rfl⟩) (by omega) rfl rfl c51 hi
    rw [show Tr.pn (.leaf : Tr Lb) = [] from rfl, List.append_nil] at this
    exact this
  · rw [if_neg c51]
    have h1 := nm_run (sm := sm) (l := nI 1) (lp := 0) (r := [f]) (D := Tr.pn (Tr.app X (Tr.nd (T.nms nm) R))) (fn := (fs ++ [nm]).map (fnW T)) (a := nm + 2) hT (A := 18) (B := 19) (Or.inr ⟨rfl, rfl⟩) FU 0 17 (fuF T i nm 1 0 (T.tpl (nm + 1))) .leaf (by unfold FU; omega) hi (Or.inr ⟨rfl, rfl, c51⟩) rfl (fun h => absurd h (by omega)) rfl (by omega) (by rw [Tr.pn_len, Tr.sz_app]; simp only [Tr.sz]; omega)
    rw [show Tr.pn (.leaf : Tr Lb) = [] from rfl, List.append_nil] at h1
    cases e : rdNm T.tkd (sameT T sm) (nm + 2) FU 0 with
    | inl j => rw [e] at h1; exact h1
    | inr j =>
      rw [e] at h1
      obtain ⟨n, N, k1, k2, k3, k4, k5, k6, k7⟩ := h1
      show (match (if T.tkd j = 51 then .inr (j + 1, [19], fs ++ [nm]) else .inl j : Sum Nat (Nat × List Nat × List Nat)) with
        | .inl j => _
        | .inr (i', bl', fs') => _)
      by_cases d : T.tkd j = 51
      · rw [if_pos d]
        obtain ⟨s', f1, f2⟩ := fin n j N 19 (Or.inr rfl) k1 k6 (by rw [if_neg (by omega)]; omega) d k4
        exact ⟨s', k7.transS f1, f2⟩
      · rw [if_neg d]
        refine ⟨k4, k7.flt (FltN.now ?_)⟩
        show (if nI (ck (T.tkd j)) = (41 : Int32) then _ else if nI (ck (T.tkd j)) = 44 then _ else none) = none
        rw [if_neg (show ¬ nI (ck (T.tkd j)) = (41 : Int32) from tk_ne hT (j := 51) rfl d), if_neg (show ¬ nI (ck (T.tkd j)) = (44 : Int32) from tk_ne hT (j := 54) rfl k5)]
/-- naming a function -/
theorem st_namef {md l : Int32} {r : List Fm} {X R : Tr Lb} {fs : List Nat} {nm i : Nat} {ip ipl : Int32} (hip : ip = nI (Tr.rt R)) (hs : Tr.sz X + Tr.sz R < 16385) (hf : fs.length < 16384) : Rs.nameFunction (md, l, 0, 0, fuF T i nm 0 ip ipl, r, Tr.pn (Tr.app X R), [], fs.map (fnW T)) sm = if fs.any (fun q => sameT T sm q nm) = true then none else some (md, l, 0, 0, fuF T i nm 1 0 ipl, r, Tr.pn (Tr.app X (Tr.nd (T.nms nm) R)), [], (fs ++ [nm]).map (fnW T)) := by
  unfold Rs.nameFunction
  show (if (fs.map (fnW T)).any (fun f => f.wd == T.twd nm && sm f.pl (T.tpl nm) (T.twd nm)) = true then none else some (md, l, (0 : Int32), (0 : Int32), fuF T i nm 1 0 ipl, r, Rs.nadd (Tr.pn (Tr.app X R)) 2 (T.tpl nm) (-1) ip 0, ([] : List Wt), Rs.tadd (fs.map (fnW T)) 10 (T.tpl nm) (T.twd nm))) = _
  rw [fn_any, fn_tadd hf, hip, nadd_pn (-1) hs]
  rfl
/-- a function's name where results stand before it, and what follows -/
theorem fun_name (hT : TkOK T m) {i nm : Nat} {fs : List Nat} {X R : Tr Lb} {f : Fm} {w : Int32} {sec : Int32} (hb : BI T [f] [] i X) (hsz : Tr.sz X ≤ i) (hi : nm < m) (hin : i + 1 < nm) (hfs : fs.length ≤ i) (hfq : ∀ q ∈ fs, q < i) (h19 : T.tkd i = 19) (hR : (T.tkd (i + 1) = 52 ∧ ∃ n, 0 < n ∧ NmL T false (i + 2) n R ∧ T.tkd (i + 2 * n + 1) = 53 ∧ T.tkd (i + 2 * n + 2) = 56 ∧ nm = i + 2 * n + 3) ∨ (T.tkd (i + 1) = 2 ∧ T.tkd (i + 2) = 56 ∧ R = Tr.nd (T.lb 32 (i + 1)) .leaf ∧ nm = i + 3)) (hzR : Tr.sz R + i + 1 ≤ nm) {res : Bool} (h56 : T.tkd (nm - 1) = 56) :
    StR' T sm m nm (15, nI 1, 0, 0, (1, T.tpl i, w, sec, 0, nI (Tr.rt R), T.tpl i, T.twd i, 0, 0, 0, 0, 0), [f], Tr.pn (Tr.app X R), [], fs.map (fnW T)) (stFb T.tkd (sameT T sm) fs res nm) := by
  have hle := hT.le
  unfold stFb
  by_cases c2 : T.tkd nm = 2
  · rw [if_neg (fun x => x c2)]
    have hi1 : nm + 1 < m := hT.go hi (by omega)
    have s1 : Rs.stands (15, nI 1, 0, 0, (1, T.tpl i, w, sec, 0, nI (Tr.rt R), T.tpl i, T.twd i, 0, 0, 0, 0, 0), [f], Tr.pn (Tr.app X R), [], fs.map (fnW T)) (tokC T nm) sm = if fs.any (fun q => sameT T sm q nm) = true then none else some (16, nI 1, 0, 0, fuF T i nm 1 0 (T.tpl i), [f], Tr.pn (Tr.app X (Tr.nd (T.nms nm) R)), [], (fs ++ [nm]).map (fnW T)) := by
      rw [tokC_of c2]
      exact st_namef (md := 16) (l := nI 1) (r := [f]) rfl (by omega) (by omega)
    by_cases ca : fs.any (fun q => sameT T sm q nm) = true
    · rw [if_pos ca]
      rw [if_pos ca] at s1
      rw [if_neg (fun x => by omega)]
      exact ⟨hi, FltN.now s1⟩
    · rw [if_neg ca]
      rw [if_neg ca] at s1
      have g1 := GoN.one s1
      rw [se_no (by decide)] at g1
      by_cases c50 : T.tkd (nm + 1) = 50
      · rw [if_neg (fun x => x c50)]
        have hi2 : nm + 2 < m := hT.go hi1 (by omega)
        have s2 : Rs.stands (16, nI 1, 0, 0, fuF T i nm 1 0 (T.tpl i), [f], Tr.pn (Tr.app X (Tr.nd (T.nms nm) R)), [], (fs ++ [nm]).map (fnW T)) (tokC T (nm + 1)) sm = some (17, nI 1, 0, 0, fuF T i nm 1 0 (T.tpl (nm + 1)), [f], Tr.pn (Tr.app X (Tr.nd (T.nms nm) R)), [], (fs ++ [nm]).map (fnW T)) := by
          rw [tokC_of c50]; rfl
        have g2 := g1.trans (GoN.one s2)
        rw [se_no (by decide)] at g2
        have h1 := fun_tail (sm := sm) hT hb hsz hi2 (by omega) hfs hfq h19 (hR.elim Or.inl (fun x => Or.inr (Or.inl x))) c2 c50 hzR
        revert h1
        generalize (if T.tkd (nm + 2) = 51 then .inr (nm + 3, [19], fs ++ [nm]) else match rdNm T.tkd (sameT T sm) (nm + 2) FU 0 with
          | .inl j => .inl j
          | .inr j => if T.tkd j = 51 then .inr (j + 1, [19], fs ++ [nm]) else .inl j : Sum Nat (Nat × List Nat × List Nat)) = o
        intro h1
        match o, h1 with
        | .inl j, h1 => exact ⟨h1.1, g2.flt h1.2⟩
        | .inr (i', bl', fs'), h1 =>
          obtain ⟨s', k1, k2⟩ := h1
          exact ⟨s', g2.transS k1, k2⟩
      · rw [if_pos c50]
        refine ⟨hi1, g1.flt (FltN.now ?_)⟩
        show (if nI (ck (T.tkd (nm + 1))) = (40 : Int32) then _ else none) = none
        exact if_neg (tk_ne hT (j := 50) rfl c50)
  · rw [if_pos c2]
    refine ⟨hi, FltN.now ?_⟩
    show (if nI (ck (T.tkd nm)) = (2 : Int32) then _ else none) = none
    exact if_neg (tk_ne hT (j := 2) rfl c2)
end Stm
end

section
section Stm
variable {T : Tks} {sm : Int32 → Int32 → Int32 → Bool} {m : Nat}
theorem stm_fun (hT : TkOK T m) {i : Nat} {bl fs : List Nat} {s : Rs} (hR : SR T m i bl fs s) (hk : T.tkd i = 19) : StR T sm m i s (stFun T.tkd (sameT T sm) i bl fs) := by
  obtain ⟨X, f, r, hs, hb, hsz, hbl, hok, hi, hf, hf2⟩ := hR
  subst hs
  have hle := hT.le
  have hi1 : i + 1 < m := hT.go hi (by omega)
  have hse : (SRs T bl fs X f r).settle (tokC T i) = SRs T bl fs X f r := se_word (by unfold wordK; omega)
  have hkd := BI.kd hb
  unfold stFun
  refine StR'.to ?_
  rw [hse]
  by_cases c0 : bl = []
  · rw [if_neg (fun x => x c0)]
    subst c0
    have hr : r = [] := by
      match r, hb with
      | [], _ => rfl
      | g :: r, hb => exact hb.elim
    subst hr
    have hf0 : f.k = 0 := hkd.2.2.mpr rfl
    have hsz : Tr.sz X ≤ i := by
      have : Tr.sz X + 0 ≤ i := hsz
      omega
    have s1 : (SRs T [] fs X f []).stands (tokC T i) sm = some (10, nI 1, 0, 0, fm_0 1 (T.tpl i) (T.twd i), [f], Tr.pn X, [], fs.map (fnW T)) := by
      rw [tokC_of hk]
      show (if f.k = 0 then some ((10 : Int32), nI 1, (0 : Int32), (0 : Int32), fm_0 1 (T.tpl i) (T.twd i), [f], Tr.pn X, ([] : List Wt), fs.map (fnW T)) else none) = _
      rw [if_pos hf0]
    have g1 := GoN.one s1
    rw [se_no (by decide)] at g1
    refine StR'.pre g1 ?_
    by_cases c52 : T.tkd (i + 1) = 52
    · rw [if_pos c52]
      have hi2 : i + 2 < m := hT.go hi1 (by omega)
      have s2 : Rs.stands (10, nI 1, 0, 0, fm_0 1 (T.tpl i) (T.twd i), [f], Tr.pn X, [], fs.map (fnW T)) (tokC T (i + 1)) sm = some (12, nI 1, 0, 0, fm_0 1 (T.tpl i) (T.twd i), [f], Tr.pn X, [], fs.map (fnW T)) := by
        rw [tokC_of c52]; rfl
      have g2 := GoN.one s2
      rw [se_no (by decide)] at g2
      refine StR'.pre g2 ?_
      have h1 := nm_run (sm := sm) (l := nI 1) (lp := 0) (r := [f]) (D := Tr.pn X) (fn := fs.map (fnW T)) (a := i + 2) hT (A := 12) (B := 13) (Or.inl ⟨rfl, rfl⟩) FU 0 12 (fm_0 1 (T.tpl i) (T.twd i)) .leaf (by unfold FU; omega) hi2 (Or.inl rfl) rfl (fun h => absurd h (by omega)) rfl (by omega) (by rw [Tr.pn_len]; simp only [Tr.sz]; omega)
      rw [show Tr.pn (.leaf : Tr Lb) = [] from rfl, List.append_nil] at h1
      cases e : rdNm T.tkd (sameT T sm) (i + 2) FU 0 with
      | inl j => rw [e] at h1; exact h1
      | inr j =>
        rw [e] at h1
        obtain ⟨n, N, k1, k2, k3, k4, k5, k6, k7⟩ := h1
        have hjn : j = i + 2 * n + 1 := by omega
        refine StR'.pre (i := i + 2) k7 ?_
        show StR' T sm m j _ (if T.tkd j ≠ 53 then .inl j else if T.tkd (j + 1) ≠ 56 then .inl (j + 1) else stFb T.tkd (sameT T sm) fs true (j + 2))
        by_cases c53 : T.tkd j = 53
        · rw [if_neg (fun x => x c53)]
          have hj1 : j + 1 < m := hT.go k4 (by omega)
          have s3 : Rs.stands (13, nI 1, 0, 0, (fm_0 1 (T.tpl i) (T.twd i)).s_ip (nI n), [f], Tr.pn X ++ Tr.pn N, [], fs.map (fnW T)) (tokC T j) sm = some (14, nI 1, 0, 0, (fm_0 1 (T.tpl i) (T.twd i)).s_ip (nI n), [f], Tr.pn X ++ Tr.pn N, [], fs.map (fnW T)) := by
            rw [tokC_of c53]; rfl
          have g3 := GoN.one s3
          rw [se_no (by decide)] at g3
          refine StR'.pre g3 ?_
          by_cases c56 : T.tkd (j + 1) = 56
          · rw [if_neg (fun x => x c56)]
            have hj2 : j + 2 < m := hT.go hj1 (by omega)
            have s4 : Rs.stands (14, nI 1, 0, 0, (fm_0 1 (T.tpl i) (T.twd i)).s_ip (nI n), [f], Tr.pn X ++ Tr.pn N, [], fs.map (fnW T)) (tokC T (j + 1)) sm = some (15, nI 1, 0, 0, (fm_0 1 (T.tpl i) (T.twd i)).s_ip (nI n), [f], Tr.pn X ++ Tr.pn N, [], fs.map (fnW T)) := by
              rw [tokC_of c56]; rfl
            have g4 := GoN.one s4
            rw [se_no (by decide)] at g4
            refine StR'.pre g4 ?_
            have hNs := k6.sz
            have hNr := k6.rt
            have := fun_name (sm := sm) (nm := j + 2) (w := T.twd i) (sec := -1) (R := N) (res := true) hT hb hsz hj2 (by omega) hf hf2 hk (Or.inl ⟨c52, n, k2, k6, by rw [← hjn]; exact c53, by rw [show i + 2 * n + 2 = j + 1 by omega]; exact c56, by omega⟩) (by omega) c56
            rw [hNr, Tr.pn_app] at this
            exact this
          · rw [if_pos c56]
            refine ⟨hj1, FltN.now ?_⟩
            show (if nI (ck (T.tkd (j + 1))) = (61 : Int32) then _ else none) = none
            exact if_neg (tk_ne hT (j := 56) rfl c56)
        · rw [if_pos c53]
          refine ⟨k4, FltN.now ?_⟩
          show (if nI (ck (T.tkd j)) = (93 : Int32) then _ else if nI (ck (T.tkd j)) = 44 then _ else none) = none
          rw [if_neg (show ¬ nI (ck (T.tkd j)) = (93 : Int32) from tk_ne hT (j := 53) rfl c53), if_neg (show ¬ nI (ck (T.tkd j)) = (44 : Int32) from tk_ne hT (j := 54) rfl k5)]
    · rw [if_neg c52]
      by_cases c2 : T.tkd (i + 1) = 2
      · have hi2 : i + 2 < m := hT.go hi1 (by omega)
        have s2 : Rs.stands (10, nI 1, 0, 0, fm_0 1 (T.tpl i) (T.twd i), [f], Tr.pn X, [], fs.map (fnW T)) (tokC T (i + 1)) sm = some (11, nI 1, 0, 0, fuF T i (i + 1) 0 0 (T.tpl i), [f], Tr.pn X, [], fs.map (fnW T)) := by
          rw [tokC_of c2]; rfl
        have g2 := GoN.one s2
        rw [se_no (by decide)] at g2
        refine StR'.pre g2 ?_
        by_cases c56 : T.tkd (i + 2) = 56
        · rw [if_pos ⟨c2, c56⟩]
          have hi3 : i + 3 < m := hT.go hi2 (by omega)
          have s3 : Rs.stands (11, nI 1, 0, 0, fuF T i (i + 1) 0 0 (T.tpl i), [f], Tr.pn X, [], fs.map (fnW T)) (tokC T (i + 2)) sm = some (15, nI 1, 0, 0, (1, T.tpl i, T.twd (i + 1), T.tpl (i + 1), 0, 1, T.tpl i, T.twd i, 0, 0, 0, 0, 0), [f], Tr.pn (Tr.app X (Tr.nd (T.lb 32 (i + 1)) .leaf)), [], fs.map (fnW T)) := by
            rw [tokC_of c56]
            show some ((15 : Int32), nI 1, (0 : Int32), (0 : Int32), (1, T.tpl i, T.twd (i + 1), T.tpl (i + 1), 0, 1, T.tpl i, T.twd i, 0, 0, 0, 0, 0), [f], Rs.nadd (Tr.pn X) 32 (T.tpl (i + 1)) (-1) 0 (T.twd (i + 1)), ([] : List Wt), fs.map (fnW T)) = _
            rw [nadd_leaf (nI (i + 1)) (by omega)]
            rfl
          have g3 := GoN.one s3
          rw [se_no (by decide)] at g3
          refine StR'.pre g3 ?_
          exact fun_name (sm := sm) (nm := i + 3) (w := T.twd (i + 1)) (sec := T.tpl (i + 1)) (R := Tr.nd (T.lb 32 (i + 1)) .leaf) (res := false) hT hb hsz hi3 (by omega) hf hf2 hk (Or.inr ⟨c2, c56, rfl, rfl⟩) (by simp only [Tr.sz]; omega) c56
        · rw [if_neg (fun x => c56 x.2)]
          unfold stFb
          rw [if_neg (fun x => x c2)]
          by_cases c50 : T.tkd (i + 2) = 50
          · have hi3 : i + 3 < m := hT.go hi2 (by omega)
            have s3 : Rs.stands (11, nI 1, 0, 0, fuF T i (i + 1) 0 0 (T.tpl i), [f], Tr.pn X, [], fs.map (fnW T)) (tokC T (i + 2)) sm = if fs.any (fun q => sameT T sm q (i + 1)) = true then none else some (17, nI 1, 0, 0, fuF T i (i + 1) 1 0 (T.tpl (i + 2)), [f], Tr.pn (Tr.app X (Tr.nd (T.nms (i + 1)) .leaf)), [], (fs ++ [i + 1]).map (fnW T)) := by
              rw [tokC_of c50]
              have hn := st_namef (sm := sm) (T := T) (md := 11) (l := nI 1) (r := [f]) (X := X) (R := .leaf) (fs := fs) (nm := i + 1) (i := i) (ip := 0) (ipl := T.tpl i) rfl (by simp only [Tr.sz]; omega) (by omega)
              rw [Tr.app_nil] at hn
              show Option.map (fun s1 => Rs.openParameters s1 (40, T.tpl (i + 2), T.twd (i + 2))) (Rs.nameFunction (11, nI 1, 0, 0, fuF T i (i + 1) 0 0 (T.tpl i), [f], Tr.pn X, [], fs.map (fnW T)) sm) = _
              rw [hn]
              by_cases ca : fs.any (fun q => sameT T sm q (i + 1)) = true
              · rw [if_pos ca, if_pos ca]; rfl
              · rw [if_neg ca, if_neg ca]; rfl
            by_cases ca : fs.any (fun q => sameT T sm q (i + 1)) = true
            · rw [if_pos ca]
              rw [if_pos ca] at s3
              rw [if_pos ⟨rfl, hk⟩]
              exact ⟨hi2, FltN.now s3⟩
            · rw [if_neg ca]
              rw [if_neg ca] at s3
              rw [if_neg (fun x => x c50)]
              have g3 := GoN.one s3
              rw [se_no (by decide)] at g3
              refine StR'.pre g3 ?_
              have h1 := fun_tail (sm := sm) (nm := i + 1) (R := .leaf) hT hb hsz hi3 (by omega) hf hf2 hk (Or.inr (Or.inr ⟨rfl, rfl⟩)) c2 c50 (by simp only [Tr.sz]; omega)
              revert h1
              generalize (if T.tkd (i + 1 + 2) = 51 then .inr (i + 1 + 3, [19], fs ++ [i + 1]) else match rdNm T.tkd (sameT T sm) (i + 1 + 2) FU 0 with
                | .inl j => .inl j
                | .inr j => if T.tkd j = 51 then .inr (j + 1, [19], fs ++ [i + 1]) else .inl j : Sum Nat (Nat × List Nat × List Nat)) = o
              intro h1
              match o, h1 with
              | .inl j, h1 => exact h1
              | .inr (i', bl', fs'), h1 => exact h1
          · have s3 : Rs.stands (11, nI 1, 0, 0, fuF T i (i + 1) 0 0 (T.tpl i), [f], Tr.pn X, [], fs.map (fnW T)) (tokC T (i + 2)) sm = none := by
              show (if nI (ck (T.tkd (i + 2))) = (61 : Int32) then _ else if nI (ck (T.tkd (i + 2))) = 40 then _ else none) = none
              rw [if_neg (show ¬ nI (ck (T.tkd (i + 2))) = (61 : Int32) from tk_ne hT (j := 56) rfl c56), if_neg (show ¬ nI (ck (T.tkd (i + 2))) = (40 : Int32) from tk_ne hT (j := 50) rfl c50)]
            by_cases ca : fs.any (fun q => sameT T sm q (i + 1)) = true
            · rw [if_pos ca, if_pos ⟨rfl, hk⟩]
              exact ⟨hi2, FltN.now s3⟩
            · rw [if_neg ca, if_pos c50]
              exact ⟨hi2, FltN.now s3⟩
      · rw [if_neg (fun x => c2 x.1)]
        unfold stFb
        rw [if_pos c2]
        refine ⟨hi1, FltN.now ?_⟩
        show (if nI (ck (T.tkd (i + 1))) = (91 : Int32) then _ else if nI (ck (T.tkd (i + 1))) = 2 then _ else none) = none
        rw [if_neg (show ¬ nI (ck (T.tkd (i + 1))) = (91 : Int32) from tk_ne hT (j := 52) rfl c52), if_neg (show ¬ nI (ck (T.tkd (i + 1))) = (2 : Int32) from tk_ne hT (j := 2) rfl c2)]
  · rw [if_pos c0]
    refine ⟨hi, FltN.now ?_⟩
    rw [tokC_of hk]
    show (if f.k = 0 then _ else none) = none
    exact if_neg (fun x => c0 (hkd.2.2.mp x))
end Stm
end

section
/-! brackets and commas -/
/-- where the bracket closes: n tokens at the most from i on, at depth d -/
def clos (K : Nat → Nat) : Nat → Nat → Nat → Option Nat
  | 0, _, _ => none
  | n + 1, i, d => if 0 < dpt (K i) d then clos K n (i + 1) (dpt (K i) d) else some i
/-- commas at depth 1 in n tokens from i on -/
def cmm (K : Nat → Nat) : Nat → Nat → Nat → Nat
  | 0, _, _ => 0
  | n + 1, i, d => (if K i = 54 ∧ dpt (K i) d = 1 then 1 else 0) + cmm K n (i + 1) (dpt (K i) d)
/-- the tokens from a to b - 1 close no bracket that is open before them -/
def Pass (K : Nat → Nat) (a b : Nat) : Prop := a ≤ b ∧ ∀ n d, 0 < d → clos K (n + (b - a)) a d = clos K n b d
theorem Pass.rfl {K : Nat → Nat} {a : Nat} : Pass K a a := ⟨Nat.le_refl _, fun n d _ => by rw [Nat.sub_self, Nat.add_zero]⟩
theorem Pass.trans {K : Nat → Nat} {a b c : Nat} (h1 : Pass K a b) (h2 : Pass K b c) : Pass K a c :=
  ⟨Nat.le_trans h1.1 h2.1, fun n d hd => by
    have := h1.1; have := h2.1
    rw [show n + (c - a) = (n + (c - b)) + (b - a) by omega, h1.2 _ d hd, h2.2 n d hd]⟩
theorem Pass.one {K : Nat → Nat} {a : Nat} (h : K a ≠ 50) (h1 : K a ≠ 51) (h2 : K a ≠ 52) (h3 : K a ≠ 53) : Pass K a (a + 1) :=
  ⟨Nat.le_succ _, fun n d hd => by
    have e : dpt (K a) d = d := by unfold dpt; rw [if_neg (fun x => x.elim h h2), if_neg (fun x => x.elim h1 h3)]
    rw [show n + (a + 1 - a) = n + 1 by omega, clos, e, if_pos hd]⟩
theorem Pass.brk {K : Nat → Nat} {a b : Nat} (ho : K a = 50 ∨ K a = 52) (hc : K b = 51 ∨ K b = 53) (h : Pass K (a + 1) b) : Pass K a (b + 1) :=
  ⟨by have := h.1; omega, fun n d hd => by
    have := h.1
    rw [show n + (b + 1 - a) = ((n + 1) + (b - (a + 1))) + 1 by omega, clos, dpt_open ho, if_pos (by omega), h.2 _ _ (by omega), clos, dpt_close hc, if_pos hd]⟩
/-- the closing bracket -/
theorem Pass.closed {K : Nat → Nat} {a b : Nat} (ho : K a = 50 ∨ K a = 52) (hc : K b = 51 ∨ K b = 53) (h : Pass K (a + 1) b) (n : Nat) (hn : b - a < n) : clos K n a 0 = some b := by
  have := h.1
  rw [show n = ((n - (b - a) - 1 + 1) + (b - (a + 1))) + 1 by omega, clos, dpt_open ho, if_pos (by omega), h.2 _ _ (by omega), clos, dpt_close hc, if_neg (by omega)]
/-- as Pass, for the commas: c of them stand at depth 1 -/
def CPass (K : Nat → Nat) (a b c : Nat) : Prop := a ≤ b ∧ (∀ n, cmm K (n + (b - a)) a 1 = c + cmm K n b 1) ∧ ∀ n d, 1 < d → cmm K (n + (b - a)) a d = cmm K n b d
theorem CPass.trans {K : Nat → Nat} {a b c x y : Nat} (h1 : CPass K a b x) (h2 : CPass K b c y) : CPass K a c (x + y) :=
  ⟨Nat.le_trans h1.1 h2.1, fun n => by
    have := h1.1; have := h2.1
    rw [show n + (c - a) = (n + (c - b)) + (b - a) by omega, h1.2.1, h2.2.1, Nat.add_assoc], fun n d hd => by
    have := h1.1; have := h2.1
    rw [show n + (c - a) = (n + (c - b)) + (b - a) by omega, h1.2.2 _ d hd, h2.2.2 n d hd]⟩
theorem CPass.one {K : Nat → Nat} {a : Nat} (h : K a ≠ 50) (h1 : K a ≠ 51) (h2 : K a ≠ 52) (h3 : K a ≠ 53) : CPass K a (a + 1) (if K a = 54 then 1 else 0) :=
  ⟨Nat.le_succ _, fun n => by
    rw [show n + (a + 1 - a) = n + 1 by omega, cmm, dpt_mid h h1 h2 h3]
    congr 1
    by_cases c : K a = 54
    · rw [if_pos ⟨c, rfl⟩, if_pos c]
    · rw [if_neg (fun x => c x.1), if_neg c], fun n d hd => by
    rw [show n + (a + 1 - a) = n + 1 by omega, cmm, dpt_mid h h1 h2 h3, if_neg (fun x => by omega), Nat.zero_add]⟩
theorem CPass.brk {K : Nat → Nat} {a b x : Nat} (ho : K a = 50 ∨ K a = 52) (hc : K b = 51 ∨ K b = 53) (h : CPass K (a + 1) b x) : CPass K a (b + 1) 0 := by
  have key : ∀ n d, 0 < d → cmm K (n + (b + 1 - a)) a d = cmm K n (b + 1) d := by
    intro n d hd
    have := h.1
    rw [show n + (b + 1 - a) = ((n + 1) + (b - (a + 1))) + 1 by omega, cmm, dpt_open ho, if_neg (fun x => by omega), Nat.zero_add, h.2.2 _ _ (by omega), cmm, dpt_close hc, if_neg (fun x => by omega), Nat.zero_add]
  exact ⟨by have := h.1; omega, fun n => by rw [key n 1 (by omega), Nat.zero_add], fun n d hd => key n d (by omega)⟩
theorem CPass.z {K : Nat → Nat} {a b x : Nat} (h : CPass K a b x) (e : x = 0) : CPass K a b 0 := e ▸ h
section G
variable {T : Tks}
theorem rk_mid {k : Nat} (h : 0 < rkM k) : k ≠ 50 ∧ k ≠ 51 ∧ k ≠ 52 ∧ k ≠ 53 ∧ k ≠ 54 := by
  refine ⟨?_, ?_, ?_, ?_, ?_⟩ <;> (intro e; rw [e] at h; exact absurd h (by decide))
theorem VEl.rt0 {f : Nat} {cc : Bool} {a b : Nat} {t : Tr Lb} (h : VEl T (Vx T f) cc a b t) : Tr.rt t = 1 := by
  rcases h with ⟨r, h⟩ | ⟨_, _, _, h⟩
  · exact rt_one h
  · rw [h]; rfl
/-- a grammatical piece closes nothing before it; arguments stand between rt - 1 commas -/
theorem Vx.pass : ∀ {f md r a b : Nat} {t : Tr Lb}, Vx T f md r a b t → Pass T.tkd a b ∧ ∃ c, CPass T.tkd a b c ∧ (md = 0 → c = 0) ∧ (md = 1 → c + 1 = Tr.rt t)
  | 0, _, _, _, _, _, x => x.elim
  | f + 1, 0, r, a, b, t, x => by
    suffices h : Pass T.tkd a b ∧ CPass T.tkd a b 0 from ⟨h.1, 0, h.2, fun _ => rfl, fun h => absurd h (by decide)⟩
    have ih : ∀ {r a b : Nat} {t : Tr Lb}, Vx T f 0 r a b t → Pass T.tkd a b ∧ CPass T.tkd a b 0 := by
      intro r a b t y
      obtain ⟨h1, c, h2, h3, _⟩ := Vx.pass y
      exact ⟨h1, h2.z (h3 rfl)⟩
    have tk : ∀ {a : Nat}, T.tkd a ≠ 50 → T.tkd a ≠ 51 → T.tkd a ≠ 52 → T.tkd a ≠ 53 → T.tkd a ≠ 54 → Pass T.tkd a (a + 1) ∧ CPass T.tkd a (a + 1) 0 := fun h1 h2 h3 h4 h5 => ⟨Pass.one h1 h2 h3 h4, (CPass.one h1 h2 h3 h4).z (if_neg h5)⟩
    have nil : ∀ {a : Nat}, CPass T.tkd a a 0 := fun {a} => ⟨Nat.le_refl _, fun n => by rw [Nat.sub_self, Nat.add_zero, Nat.zero_add], fun n d _ => by rw [Nat.sub_self, Nat.add_zero]⟩
    have jn : ∀ {a b c : Nat}, (Pass T.tkd a b ∧ CPass T.tkd a b 0) → (Pass T.tkd b c ∧ CPass T.tkd b c 0) → Pass T.tkd a c ∧ CPass T.tkd a c 0 := fun h1 h2 => ⟨h1.1.trans h2.1, h1.2.trans h2.2⟩
    rcases x with ⟨_, x, y⟩ | ⟨x1, x2, b', x3, x4, r', x⟩ | ⟨x1, x2, x3, b', x4, x5, l, x6, x⟩ | ⟨x1, x2, b', x3, x4, l, x5, x⟩ | ⟨x1, b', x2, x3, r', l, x4, x, x5⟩ | ⟨x1, x2, r', l, x3, x, x4⟩ | ⟨x1, x2, m, x3, r1, t1, t2, x4, x, y, x5⟩ | ⟨x1, m, x2, r1, r2, t1, t2, x3, x4, x, y, x5⟩ | ⟨x1, m, m2, x2, x3, r1, r2, r3, t1, t2, t3, x4, x5, x6, x, y, w, x7⟩
    · subst x
      exact tk (by omega) (by omega) (by omega) (by omega) (by omega)
    · subst x3
      exact ⟨Pass.brk (Or.inl x2) (Or.inl x4) (ih x).1, CPass.brk (Or.inl x2) (Or.inl x4) (ih x).2⟩
    · subst x4
      refine jn (tk (by omega) (by omega) (by omega) (by omega) (by omega)) ?_
      rcases x with ⟨x, _⟩ | x
      · subst x
        exact ⟨Pass.brk (Or.inl x3) (Or.inl x5) Pass.rfl, CPass.brk (Or.inl x3) (Or.inl x5) nil⟩
      · obtain ⟨h1, c, h2, _⟩ := Vx.pass x
        exact ⟨Pass.brk (Or.inl x3) (Or.inl x5) h1, CPass.brk (Or.inl x3) (Or.inl x5) h2⟩
    · subst x3
      rcases x with ⟨x, _⟩ | x
      · subst x
        exact ⟨Pass.brk (Or.inr x2) (Or.inr x4) Pass.rfl, CPass.brk (Or.inr x2) (Or.inr x4) nil⟩
      · obtain ⟨h1, c, h2, _⟩ := Vx.pass x
        exact ⟨Pass.brk (Or.inr x2) (Or.inr x4) h1, CPass.brk (Or.inr x2) (Or.inr x4) h2⟩
    · subst x2
      exact jn (ih x) (tk (by omega) (by omega) (by omega) (by omega) (by omega))
    · exact jn (tk (by omega) (by omega) (by omega) (by omega) (by omega)) (ih x)
    · obtain ⟨k1, k2, k3, k4, k5⟩ := rk_mid (show 0 < rkM (T.tkd m) by omega)
      refine jn (jn (ih x) (tk k1 k2 k3 k4 k5)) ?_
      rcases y with ⟨r2, _, y⟩ | ⟨_, h40, r3, l, _, y, _⟩
      · exact ih y
      · exact jn (tk (by omega) (by omega) (by omega) (by omega) (by omega)) (ih y)
    · exact jn (jn (ih x) (tk (by omega) (by omega) (by omega) (by omega) (by omega))) (ih y)
    · exact jn (jn (jn (jn (ih x) (tk (by omega) (by omega) (by omega) (by omega) (by omega))) (ih y)) (tk (by omega) (by omega) (by omega) (by omega) (by omega))) (ih w)
  | f + 1, 1, r, a, b, t, x => by
    have el : ∀ {a b : Nat} {t : Tr Lb}, VEl T (Vx T f) true a b t → Pass T.tkd a b ∧ CPass T.tkd a b 0 := by
      intro a b t y
      rcases y with ⟨r, y⟩ | ⟨_, y, h, _⟩
      · obtain ⟨h1, c, h2, h3, _⟩ := Vx.pass y
        exact ⟨h1, h2.z (h3 rfl)⟩
      · subst y
        exact ⟨Pass.one (by omega) (by omega) (by omega) (by omega), (CPass.one (by omega) (by omega) (by omega) (by omega)).z (if_neg (by omega))⟩
    rcases x with x | ⟨m, t1, t2, x1, x, y, x2⟩
    · exact ⟨(el x).1, 0, (el x).2, fun _ => rfl, fun _ => by rw [x.rt0]⟩
    · obtain ⟨h1, c, h2, _, h4⟩ := Vx.pass x
      have c1 := CPass.one (K := T.tkd) (a := m) (by omega) (by omega) (by omega) (by omega)
      rw [if_pos x1] at c1
      refine ⟨(h1.trans (Pass.one (by omega) (by omega) (by omega) (by omega))).trans (el y).1, c + 1 + 0, (h2.trans c1).trans (el y).2, fun h => absurd h (by decide), fun _ => ?_⟩
      have := h4 rfl
      rw [x2, Tr.rt_app, y.rt0]; omega
  | f + 1, 2, r, a, b, t, x => by
    have el : ∀ {a b : Nat} {t : Tr Lb}, VEl T (Vx T f) false a b t → Pass T.tkd a b ∧ ∃ c, CPass T.tkd a b c := by
      intro a b t y
      rcases y with ⟨r, y⟩ | ⟨h, _⟩
      · obtain ⟨h1, c, h2, h3, _⟩ := Vx.pass y
        exact ⟨h1, c, h2⟩
      · cases h
    rcases x with x | ⟨m, t1, t2, x1, x, y, x2⟩
    · obtain ⟨h1, c, h2⟩ := el x
      exact ⟨h1, c, h2, fun h => absurd h (by decide), fun h => absurd h (by decide)⟩
    · obtain ⟨h1, c, h2, _⟩ := Vx.pass x
      obtain ⟨h3, c2, h4⟩ := el y
      exact ⟨(h1.trans (Pass.one (by omega) (by omega) (by omega) (by omega))).trans h3, _, (h2.trans (CPass.one (by omega) (by omega) (by omega) (by omega))).trans h4, fun h => absurd h (by decide), fun h => absurd h (by decide)⟩
  | f + 1, 3, r, a, b, t, x => by
    rcases x with ⟨l, x, x1⟩ | ⟨m, t1, l, x1, x, y, x2⟩
    · obtain ⟨h1, c, h2, _⟩ := Vx.pass x
      exact ⟨h1, c, h2, fun h => absurd h (by decide), fun h => absurd h (by decide)⟩
    · obtain ⟨h1, c, h2, _⟩ := Vx.pass x
      obtain ⟨h3, c2, h4, _⟩ := Vx.pass y
      exact ⟨(h1.trans (Pass.one (by omega) (by omega) (by omega) (by omega))).trans h3, _, (h2.trans (CPass.one (by omega) (by omega) (by omega) (by omega))).trans h4, fun h => absurd h (by decide), fun h => absurd h (by decide)⟩
  | f + 1, _ + 4, r, a, b, t, x => x.elim
theorem VV.pass {md r a b : Nat} {t : Tr Lb} (x : VV T md r a b t) : Pass T.tkd a b := by
  obtain ⟨f, x⟩ := x
  exact x.pass.1
end G
end

section
/-- the reference's question whether the tokens from a to b - 1 can be given something -/
def isTg (K : Nat → Nat) (a b : Nat) : Bool := decide (K a = 2) && (decide (b = a + 1) || (decide (K (a + 1) = 50) && decide (clos K FU (a + 1) 0 = some (b - 1)) && !decide (b = a + 3) && decide (cmm K (b - (a + 1)) (a + 1) 0 < 2)))
section G
variable {T : Tks}
/-- a call, all of it -/
def isWith (T : Tks) (a b : Nat) (t : Tr Lb) : Prop := T.tkd a = 2 ∧ T.tkd (a + 1) = 50 ∧ ∃ b', b = b' + 1 ∧ T.tkd b' = 51 ∧ ∃ l, t = Tr.nd (33, T.tpl a, T.tpl (a + 1), T.twd a, nI a) l ∧ ((b' = a + 2 ∧ l = .leaf) ∨ VV T 1 0 (a + 2) b' l)
/-- a node's root: a name or a call only where it is all there is, or stands further on -/
theorem Vx.root : ∀ {f r a b : Nat} {t : Tr Lb}, Vx T f 0 r a b t → ∃ z lab u l q, t = .inner z lab u l .leaf ∧ a ≤ q ∧ q < b ∧ lab.pl = T.tpl q ∧ (lab.k = 32 → q = a → b = a + 1 ∧ T.tkd a = 2) ∧ (lab.k = 33 → q = a → isWith T a b t)
  | 0, _, _, _, _, x => x.elim
  | f + 1, r, a, b, t, x => by
    have lt := Vx.lt (f := f + 1) (md := 0) (r := r) (a := a) (b := b) (t := t) x
    rcases x with ⟨_, x, y⟩ | ⟨x1, x2, b', x3, x4, r', x⟩ | ⟨x1, x2, x3, b', x4, x5, l, x6, x⟩ | ⟨x1, x2, b', x3, x4, l, x5, x⟩ | ⟨x1, b', x2, x3, r', l, x4, x, x5⟩ | ⟨x1, x2, r', l, x3, x, x4⟩ | ⟨x1, x2, m, x3, r1, t1, t2, x4, x, y, x5⟩ | ⟨x1, m, x2, r1, r2, t1, t2, x3, x4, x, y, x5⟩ | ⟨x1, m, m2, x2, x3, r1, r2, r3, t1, t2, t3, x4, x5, x6, x, y, w, x7⟩
    · rcases y with ⟨h, y⟩ | ⟨h, y⟩ | ⟨h, y⟩ | ⟨h, y⟩
      · exact ⟨0, T.lb 32 a, (), .leaf, a, y, Nat.le_refl _, lt, rfl, fun _ _ => ⟨x, h⟩, fun h => absurd (show (32 : Int32) = 33 from h) (by decide)⟩
      · exact ⟨0, T.lb 30 a, (), .leaf, a, y, Nat.le_refl _, lt, rfl, fun h => absurd (show (30 : Int32) = 32 from h) (by decide), fun h => absurd (show (30 : Int32) = 33 from h) (by decide)⟩
      · exact ⟨0, T.lb 31 a, (), .leaf, a, y, Nat.le_refl _, lt, rfl, fun h => absurd (show (31 : Int32) = 32 from h) (by decide), fun h => absurd (show (31 : Int32) = 33 from h) (by decide)⟩
      · exact ⟨0, T.lb 35 a, (), .leaf, a, y, Nat.le_refl _, lt, rfl, fun h => absurd (show (35 : Int32) = 32 from h) (by decide), fun h => absurd (show (35 : Int32) = 33 from h) (by decide)⟩
    · obtain ⟨z, lab, u, l, q, h1, h2, h3, h4, _⟩ := Vx.root x
      exact ⟨z, lab, u, l, q, h1, by omega, by omega, h4, fun _ h => by omega, fun _ h => by omega⟩
    · refine ⟨0, _, (), l, a, x6, Nat.le_refl _, lt, rfl, fun h => absurd (show (33 : Int32) = 32 from h) (by decide), fun _ _ => ⟨x2, x3, b', x4, x5, l, x6, x.imp id (fun y => ⟨f, y⟩)⟩⟩
    · exact ⟨0, _, (), l, a, x5, Nat.le_refl _, lt, rfl, fun h => absurd (show (36 : Int32) = 32 from h) (by decide), fun h => absurd (show (36 : Int32) = 33 from h) (by decide)⟩
    · have := x.lt
      exact ⟨0, _, (), l, b', x5, by omega, by omega, rfl, fun h => absurd (show (38 : Int32) = 32 from h) (by decide), fun h => absurd (show (38 : Int32) = 33 from h) (by decide)⟩
    · exact ⟨0, _, (), l, a, x4, Nat.le_refl _, lt, rfl, fun h => absurd (show (39 : Int32) = 32 from h) (by decide), fun h => absurd (show (39 : Int32) = 33 from h) (by decide)⟩
    · have h1 := x.lt
      have h2 : m < b := by
        rcases y with ⟨_, _, y⟩ | ⟨_, _, _, _, _, y, _⟩ <;> (have := y.lt; omega)
      exact ⟨0, _, (), _, m, x5, by omega, h2, rfl, fun h => absurd (show (40 : Int32) = 32 from h) (by decide), fun h => absurd (show (40 : Int32) = 33 from h) (by decide)⟩
    · have h1 := x.lt
      have h2 := y.lt
      exact ⟨0, _, (), _, m, x5, by omega, by omega, rfl, fun h => absurd (show (41 : Int32) = 32 from h) (by decide), fun h => absurd (show (41 : Int32) = 33 from h) (by decide)⟩
    · have h1 := x.lt
      have h2 := y.lt
      have h3 := w.lt
      exact ⟨0, _, (), _, m, x7, by omega, by omega, rfl, fun h => absurd (show (41 : Int32) = 32 from h) (by decide), fun h => absurd (show (41 : Int32) = 33 from h) (by decide)⟩
/-- an expression that begins with a call is that call, or its bracket closes before the end -/
theorem Vx.first : ∀ {f r a b : Nat} {t : Tr Lb}, Vx T f 0 r a b t → T.tkd a = 2 → T.tkd (a + 1) = 50 → a + 1 < b → isWith T a b t ∨ ∃ e, e + 1 < b ∧ T.tkd e = 51 ∧ Pass T.tkd (a + 2) e
  | 0, _, _, _, _, x, _, _, _ => x.elim
  | f + 1, r, a, b, t, x, ha, ha1, hb => by
    have sub : ∀ {r b' : Nat} {t' : Tr Lb}, Vx T f 0 r a b' t' → b' < b → T.tkd b' ≠ 50 → isWith T a b t ∨ ∃ e, e + 1 < b ∧ T.tkd e = 51 ∧ Pass T.tkd (a + 2) e := by
      intro r b' t' y h1 h2
      have h3 := y.lt
      by_cases c : b' = a + 1
      · rw [c] at h2; exact absurd ha1 h2
      · rcases Vx.first y ha ha1 (by omega) with h | ⟨e, e1, e2, e3⟩
        · obtain ⟨_, _, b2, k1, k2, l, _, k3⟩ := h
          refine Or.inr ⟨b2, by omega, k2, ?_⟩
          rcases k3 with ⟨k3, _⟩ | k3
          · rw [k3]; exact Pass.rfl
          · exact k3.pass
        · exact Or.inr ⟨e, by omega, e2, e3⟩
    rcases x with ⟨_, x, y⟩ | ⟨x1, x2, b', x3, x4, r', x⟩ | ⟨x1, x2, x3, b', x4, x5, l, x6, x⟩ | ⟨x1, x2, b', x3, x4, l, x5, x⟩ | ⟨x1, b', x2, x3, r', l, x4, x, x5⟩ | ⟨x1, x2, r', l, x3, x, x4⟩ | ⟨x1, x2, m, x3, r1, t1, t2, x4, x, y, x5⟩ | ⟨x1, m, x2, r1, r2, t1, t2, x3, x4, x, y, x5⟩ | ⟨x1, m, m2, x2, x3, r1, r2, r3, t1, t2, t3, x4, x5, x6, x, y, w, x7⟩
    · omega
    · omega
    · exact Or.inl ⟨x2, x3, b', x4, x5, l, x6, x.imp id (fun y => ⟨f, y⟩)⟩
    · omega
    · exact sub x (by omega) (by omega)
    · omega
    · have h2 : m < b := by
        rcases y with ⟨_, _, y⟩ | ⟨_, _, _, _, _, y, _⟩ <;> (have := y.lt; omega)
      exact sub x h2 (rk_mid (show 0 < rkM (T.tkd m) by omega)).1
    · have := y.lt
      exact sub x (by omega) (by omega)
    · have := y.lt
      have := w.lt
      exact sub x (by omega) (by omega)
/-- one name alone -/
theorem Vx.name1 {f r a : Nat} {t : Tr Lb} (x : Vx T f 0 r a (a + 1) t) (ha : T.tkd a = 2) : t = Tr.nd (T.lb 32 a) .leaf := by
  match f, x with
  | 0, x => exact x.elim
  | f + 1, x =>
    rcases x with ⟨_, x, y⟩ | ⟨x1, x2, b', x3, x4, r', x⟩ | ⟨x1, x2, x3, b', x4, x5, l, x6, x⟩ | ⟨x1, x2, b', x3, x4, l, x5, x⟩ | ⟨x1, b', x2, x3, r', l, x4, x, x5⟩ | ⟨x1, x2, r', l, x3, x, x4⟩ | ⟨x1, x2, m, x3, r1, t1, t2, x4, x, y, x5⟩ | ⟨x1, m, x2, r1, r2, t1, t2, x3, x4, x, y, x5⟩ | ⟨x1, m, m2, x2, x3, r1, r2, r3, t1, t2, t3, x4, x5, x6, x, y, w, x7⟩
    · rcases y with ⟨h, y⟩ | ⟨h, y⟩ | ⟨h, y⟩ | ⟨h, y⟩
      · exact y
      all_goals omega
    · omega
    · rcases x with ⟨x, _⟩ | x
      · omega
      · have := x.lt; omega
    · omega
    · have := x.lt; omega
    · omega
    · have := x.lt
      rcases y with ⟨_, _, y⟩ | ⟨_, _, _, _, _, y, _⟩ <;> (have := y.lt; omega)
    · have := x.lt; have := y.lt; omega
    · have := x.lt; have := y.lt; have := w.lt; omega
theorem with_facts {a b : Nat} {t : Tr Lb} (h : isWith T a b t) (hb : b < 2 ^ 17) : ∃ l, t = Tr.nd (33, T.tpl a, T.tpl (a + 1), T.twd a, nI a) l ∧ clos T.tkd FU (a + 1) 0 = some (b - 1) ∧ (b = a + 3 ↔ Tr.rt l = 0) ∧ (b ≠ a + 3 → cmm T.tkd (b - (a + 1)) (a + 1) 0 + 1 = Tr.rt l) := by
  obtain ⟨h1, h2, b', rfl, h4, l, h5, h6⟩ := h
  have hp : Pass T.tkd (a + 2) b' := by
    rcases h6 with ⟨h6, _⟩ | h6
    · rw [h6]; exact Pass.rfl
    · exact h6.pass
  refine ⟨l, h5, ?_, ?_, ?_⟩
  · rw [show b' + 1 - 1 = b' by omega]
    exact hp.closed (Or.inl h2) (Or.inl h4) FU (by unfold FU; omega)
  · rcases h6 with ⟨h6, h7⟩ | h6
    · exact ⟨fun _ => by rw [h7]; rfl, fun _ => by omega⟩
    · obtain ⟨f, h6⟩ := h6
      have := h6.lt
      obtain ⟨_, c, _, _, h8⟩ := h6.pass
      have := h8 rfl
      exact ⟨fun _ => by omega, fun _ => by omega⟩
  · intro hne
    rcases h6 with ⟨h6, _⟩ | h6
    · omega
    · obtain ⟨f, h6⟩ := h6
      have hlt := h6.lt
      obtain ⟨_, c, h7, _, h8⟩ := h6.pass
      rw [← h8 rfl, show b' + 1 - (a + 1) = (1 + (b' - (a + 1 + 1))) + 1 by omega, cmm, dpt_open (Or.inl h2), if_neg (fun x => by omega), Nat.zero_add]
      rw [h7.2.1 1]
      show c + ((if T.tkd b' = 54 ∧ _ then 1 else 0) + 0) + 1 = c + 1
      rw [if_neg (fun x => by omega)]
/-- the class's question and the reference's -/
theorem tg_iff {r a b m : Nat} {t : Tr Lb} (x : VV T 0 r a b t) (hT : TkOK T m) (hb : b < m) {D : List Nd} {md l sg lp : Int32} {f : Fm} {rr : List Fm} {w fn : List Wt} (hk : f.k = 20) (hpl : f.pl = T.tpl a) {p v : Int32} : Rs.takeEquals (md, l, sg, lp, f, rr, D ++ Tr.pn t, w, fn) (61, p, v) = if isTg T.tkd a b = true then some (30, l, sg, lp, (((f.s_k 21).s_sec f.pl).s_pl p).s_wd v, rr, D ++ Tr.pn t, w, fn) else none := by
  have hle := hT.le
  obtain ⟨fu, x⟩ := x
  obtain ⟨z, lab, u, l', q, h1, h2, h3, h4, h5, h6⟩ := x.root
  have hrt := Tr.rt_le l'
  have hszl : Tr.rt l' < 2 ^ 20 := by
    have := x.szle
    rw [if_neg (by decide), h1, Tr.sz] at this
    omega
  have hlast : ∀ g : Nd → Int32, Rs.lastN (D ++ Tr.pn t) g = g (lab.nd l') := by
    intro g
    unfold Rs.lastN
    rw [h1, Tr.pn, show Tr.pn (.leaf : Tr Lb) = [] from rfl, ← List.append_assoc, List.getLast?_concat]
    rfl
  unfold Rs.takeEquals
  rw [if_pos (show f.k = 20 from hk)]
  have hcg : Rs.canGive (md, l, sg, lp, f, rr, D ++ Tr.pn t, w, fn) = (if lab.k = 32 then true else if lab.k = 33 then (if nI (Tr.rt l') < 1 then false else if 2 < nI (Tr.rt l') then false else true) else false) := by
    unfold Rs.canGive
    show (if Rs.lastN (D ++ Tr.pn t) Nd.k = 32 then true else if Rs.lastN (D ++ Tr.pn t) Nd.k = 33 then (if Rs.lastN (D ++ Tr.pn t) Nd.pa < 1 then false else if 2 < Rs.lastN (D ++ Tr.pn t) Nd.pa then false else true) else false) = _
    rw [hlast, hlast]
    rfl
  rw [hcg]
  show (if _ = true then (if Rs.lastN (D ++ Tr.pn t) Nd.pl = f.pl then _ else none) else none) = _
  rw [hlast, hpl]
  -- what the reference asks
  have hlt := x.lt
  by_cases c32 : lab.k = 32 ∧ q = a
  · obtain ⟨k1, k2⟩ := h5 c32.1 c32.2
    have e : isTg T.tkd a b = true := by
      unfold isTg
      rw [decide_eq_true k2, decide_eq_true k1]; rfl
    rw [if_pos c32.1, if_pos rfl, if_pos (show (lab.nd l').pl = T.tpl a by show lab.pl = _; rw [h4, c32.2]), if_pos e]
    rfl
  · by_cases c33 : lab.k = 33 ∧ q = a
    · have hw := h6 c33.1 c33.2
      obtain ⟨l2, k1, k2, k3, k4⟩ := with_facts hw (by omega)
      rw [h1] at k1
      have hl2 : l' = l2 := by injection k1
      subst hl2
      have hwb : b ≠ a + 1 := by obtain ⟨_, _, b', rfl, _, l3, _, hh⟩ := hw; rcases hh with ⟨hh, _⟩ | hh; omega; have := hh.lt; omega
      rw [if_neg (show ¬ lab.k = 32 by rw [c33.1]; decide), if_pos c33.1, if_pos (show (lab.nd l').pl = T.tpl a by show lab.pl = _; rw [h4, c33.2])]
      have e : isTg T.tkd a b = (!decide (b = a + 3) && decide (cmm T.tkd (b - (a + 1)) (a + 1) 0 < 2)) := by
        unfold isTg
        rw [decide_eq_true hw.1, decide_eq_false hwb, decide_eq_true hw.2.1, decide_eq_true k2]
        simp
      rw [e]
      by_cases d : b = a + 3
      · have hr0 := k3.mp d
        rw [hr0, if_pos (show nI 0 < 1 by decide), if_neg (by decide), decide_eq_true d]
        rfl
      · have hk4 := k4 d
        rw [if_neg (show ¬ nI (Tr.rt l') < 1 by rw [show (1 : Int32) = nI 1 from rfl, nI_lt' (by omega) (by omega)]; omega), decide_eq_false d]
        by_cases g : cmm T.tkd (b - (a + 1)) (a + 1) 0 < 2
        · rw [if_neg (show ¬ 2 < nI (Tr.rt l') by rw [show (2 : Int32) = nI 2 from rfl, nI_lt' (by omega) (by omega)]; omega), if_pos rfl, decide_eq_true g]
          rfl
        · rw [if_pos (show 2 < nI (Tr.rt l') by rw [show (2 : Int32) = nI 2 from rfl, nI_lt' (by omega) (by omega)]; omega), if_neg (by decide), decide_eq_false g]
          rfl
    · -- neither
      have e : ¬ isTg T.tkd a b = true := by
        intro he
        unfold isTg at he
        rw [Bool.and_eq_true, Bool.or_eq_true, decide_eq_true_eq, decide_eq_true_eq] at he
        obtain ⟨ha, he⟩ := he
        rcases he with he | he
        · subst he
          have ht := x.name1 ha
          rw [h1] at ht
          have hlab : lab = T.lb 32 a := by injection ht
          exact c32 ⟨congrArg Lb.k hlab, by omega⟩
        · simp only [Bool.and_eq_true, decide_eq_true_eq] at he
          obtain ⟨⟨⟨he1, he2⟩, _⟩, _⟩ := he
          by_cases hb1 : a + 1 < b
          · rcases x.first ha he1 hb1 with hw | ⟨e2, g1, g2, g3⟩
            · obtain ⟨_, _, b', _, _, l3, k5, _⟩ := hw
              rw [h1] at k5
              have hlab : lab = (33, T.tpl a, T.tpl (a + 1), T.twd a, nI a) := by injection k5
              have hq : T.tpl q = T.tpl a := by rw [← h4]; exact congrArg Lb.pl hlab
              exact c33 ⟨congrArg Lb.k hlab, hT.inj q a (by omega) (by omega) hq⟩
            · have := g3.closed (Or.inl he1) (Or.inl g2) FU (by unfold FU; omega)
              rw [this] at he2
              have := Option.some.inj he2
              omega
          · have hb2 : b = a + 1 := by omega
            subst hb2
            have ht := x.name1 ha
            rw [h1] at ht
            have hlab : lab = T.lb 32 a := by injection ht
            exact c32 ⟨congrArg Lb.k hlab, by omega⟩
      rw [if_neg e]
      by_cases hq : (lab.nd l').pl = T.tpl a
      · have hqa : q = a := hT.inj q a (by omega) (by omega) (by rw [← h4]; exact hq)
        rw [if_neg (fun h => c32 ⟨h, hqa⟩), if_neg (fun h => c33 ⟨h, hqa⟩), if_neg (by decide)]
      · rw [if_neg hq]
        exact ite_self none
end G
end

section
/-- the reference behind a statement's first expression, which ends at j -/
def stWk (K : Nat → Nat) (i j : Nat) (bl fs : List Nat) : Sum Nat (Nat × List Nat × List Nat) :=
  if K j = 56 then (if isTg K i j = true then (match rdE K (j + 1) bl.length with
    | .inl k => .inl k
    | .inr (k, _) => if K k = 55 then .inr (k + 1, bl, fs) else .inl k) else .inl j)
  else if K j = 55 then .inr (j + 1, bl, fs) else .inl j
def stWork (K : Nat → Nat) (i : Nat) (bl fs : List Nat) : Sum Nat (Nat × List Nat × List Nat) := match rdE K i bl.length with
  | .inl j => .inl j
  | .inr (j, _) => stWk K i j bl fs
section Stm
variable {T : Tks} {sm : Int32 → Int32 → Int32 → Bool} {m : Nat}
/-- the end of a statement that is an expression, or gives one -/
theorem work_end (hT : TkOK T m) {i j : Nat} {bl fs : List Nat} {X t : Tr Lb} {f : Fm} {r : List Fm} {s' : Rs} {ρ : Nat} (hb : BI T (f :: r) bl i X) (hsz : Tr.sz X + bl.length ≤ i) (hbl : bl.length ≤ 60) (hok : BlOK bl) (hf : fs.length ≤ i) (hf2 : ∀ q ∈ fs, q < i) (hw : ¬ wordK (T.tkd i)) (hj : j < m) (hjr : rkM (T.tkd j) = 0) (hv : VV T 0 ρ i j t) (h13 : E13 T.tkd i j) (hst : s'.stands (tokC T j) sm = Rs.afterW (Bs.st (nI (lpN bl), fm_0 20 (T.tpl i) (T.twd i), f :: r, Tr.pn X, fs.map (fnW T)) T 34 bl.length 0 [] t []) (tokC T j) 0) (hmd : s'.mode = 34) : StR' T sm m j s' (stWk T.tkd i j bl fs) := by
  have hle := hT.le
  have hvl := hv.lt
  have hvz := hv.szle (by decide)
  have hst : s'.stands (tokC T j) sm = Rs.afterW (34, nI bl.length, 0, nI (lpN bl), fm_0 20 (T.tpl i) (T.twd i), f :: r, Tr.pn X ++ Tr.pn t, [], fs.map (fnW T)) (tokC T j) 0 := hst
  unfold stWk
  by_cases c56 : T.tkd j = 56
  · rw [if_pos c56]
    have hj1 : j + 1 < m := hT.go hj (by omega)
    have s1 : s'.stands (tokC T j) sm = if isTg T.tkd i j = true then some (30, nI bl.length, 0, nI (lpN bl), (21, T.tpl j, T.twd j, T.tpl i, 0, 0, T.tpl i, T.twd i, 0, 0, 0, 0, 0), f :: r, Tr.pn X ++ Tr.pn t, [], fs.map (fnW T)) else none := by
      rw [hst, tokC_of c56]
      exact tg_iff hv hT hj (f := fm_0 20 (T.tpl i) (T.twd i)) rfl rfl
    by_cases ct : isTg T.tkd i j = true
    · rw [if_pos ct]
      rw [if_pos ct] at s1
      have hi2 : T.tkd i = 2 := by
        unfold isTg at ct
        rw [Bool.and_eq_true, decide_eq_true_eq] at ct
        exact ct.1
      have g1 := GoN.one s1
      rw [se_30 (f := (21, T.tpl j, T.twd j, T.tpl i, 0, 0, T.tpl i, T.twd i, 0, 0, 0, 0, 0)) (Or.inl rfl), show (tokC T (j + 1)).k = nI (ck (T.tkd (j + 1))) from rfl, tk_mode hT, seF_base (show (21 : Int32) ≠ 36 by decide) rfl] at g1
      have e0 : Bs.st (nI (lpN bl), (21, T.tpl j, T.twd j, T.tpl i, 0, 0, T.tpl i, T.twd i, 0, 0, 0, 0, 0), f :: r, Tr.pn (Tr.app X t), fs.map (fnW T)) T (if T.tkd (j + 1) = 51 ∨ T.tkd (j + 1) = 53 ∨ T.tkd (j + 1) = 38 then 30 else 31) bl.length 0 [] .leaf [] = ((if T.tkd (j + 1) = 51 ∨ T.tkd (j + 1) = 53 ∨ T.tkd (j + 1) = 38 then 30 else 31), nI bl.length, 0, nI (lpN bl), (21, T.tpl j, T.twd j, T.tpl i, 0, 0, T.tpl i, T.twd i, 0, 0, 0, 0, 0), f :: r, Tr.pn X ++ Tr.pn t, [], fs.map (fnW T)) := by
        show ((if T.tkd (j + 1) = 51 ∨ T.tkd (j + 1) = 53 ∨ T.tkd (j + 1) = 38 then (30 : Int32) else 31), nI bl.length, nI 0, nI (lpN bl), _, f :: r, Tr.pn (Tr.app X t) ++ [], ([] : List Wt), fs.map (fnW T)) = _
        rw [List.append_nil, Tr.pn_app]
        rfl
      rw [← e0] at g1
      refine StR'.pre g1 ?_
      have h1 := expr_run (sm := sm) hT (B := (nI (lpN bl), (21, T.tpl j, T.twd j, T.tpl i, 0, 0, T.tpl i, T.twd i, 0, 0, 0, 0, 0), f :: r, Tr.pn (Tr.app X t), fs.map (fnW T))) (i := j + 1) (lv := bl.length) ⟨rfl, rfl, Or.inr (Or.inr (Or.inr (Or.inl rfl))), fun h => absurd (show (21 : Int32) = 20 from h) (by decide), fun h => absurd (show (21 : Int32) = 20 from h) (by decide)⟩ hj1 hbl (fun h => absurd (show (21 : Int32) = 20 from h) (by decide)) (fun h => absurd (show (21 : Int32) = 52 from h) (by decide)) (by show (Tr.pn (Tr.app X t)).length ≤ j + 1; rw [Tr.pn_len, Tr.sz_app]; omega)
      cases e : rdE T.tkd (j + 1) bl.length with
      | inl k => rw [e] at h1; exact h1
      | inr q =>
        obtain ⟨k, lv'⟩ := q
        rw [e] at h1
        obtain ⟨_, hk, hk48, hkr, t2, ρ2, s2, hv2, hsz2, hgo, hst2, hmd2⟩ := h1
        have hv2l := hv2.lt
        have hv2z := hv2.szle (by decide)
        refine StR'.pre hgo ?_
        have hst2 : s2.stands (tokC T k) sm = Rs.afterW (34, nI bl.length, 0, nI (lpN bl), (21, T.tpl j, T.twd j, T.tpl i, 0, 0, T.tpl i, T.twd i, 0, 0, 0, 0, 0), f :: r, Tr.pn (Tr.app X t) ++ Tr.pn t2, [], fs.map (fnW T)) (tokC T k) 0 := hst2
        show StR' T sm m k s2 (if T.tkd k = 55 then .inr (k + 1, bl, fs) else .inl k)
        by_cases c55 : T.tkd k = 55
        · rw [if_pos c55]
          have hk1 : k + 1 < m := hT.go hk (by omega)
          have s3 : s2.stands (tokC T k) sm = some (SRs T bl fs (Tr.app X (Tr.nd (21, T.tpl j, T.tpl i, T.twd j, nI j) (Tr.app t t2))) (f.s_ip (f.ip + 1)) r) := by
            rw [hst2, tokC_of c55]
            refine (aw_semiA (f := (21, T.tpl j, T.twd j, T.tpl i, 0, 0, T.tpl i, T.twd i, 0, 0, 0, 0, 0)) (m := 2) (Or.inr ⟨rfl, rfl⟩)).trans ?_
            have hn : Rs.nadd (Tr.pn (Tr.app X t) ++ Tr.pn t2) 21 (T.tpl j) (T.tpl i) 2 (T.twd j) = Tr.pn (Tr.app X (Tr.nd (21, T.tpl j, T.tpl i, T.twd j, nI j) (Tr.app t t2))) := by
              rw [← Tr.pn_app, Tr.app_assoc, show (2 : Int32) = nI (Tr.rt (Tr.app t t2)) by rw [Tr.rt_app, hv.rt1, hv2.rt1]; rfl]
              exact nadd_pn (nI j) (by rw [Tr.sz_app]; omega)
            show some ((0 : Int32), nI bl.length, (0 : Int32), nI (lpN bl), f.s_ip (f.ip + 1), r, Rs.nadd (Tr.pn (Tr.app X t) ++ Tr.pn t2) 21 (T.tpl j) (T.tpl i) 2 (T.twd j), ([] : List Wt), fs.map (fnW T)) = _
            rw [hn]
            rfl
          refine ⟨_, GoS.one s3, SR.next hb hsz hbl hok hf hf2 hk1 ?_ rfl ?_⟩
          · exact SV.mk (Or.inr (Or.inr (Or.inr (Or.inl ⟨j, k, ρ, ρ2, t, t2, rfl, c55, c56, hi2, hv, hv2, h13, rdE_13 e, rfl⟩))))
          · simp only [Tr.sz]; rw [Tr.sz_app]; omega
        · rw [if_neg c55]
          refine ⟨hk, FltN.now ?_ (NB.md hmd2 (by decide))⟩
          rw [hst2]
          exact aw_noB (show (21 : Int32) ≠ 33 by decide) (show (21 : Int32) ≠ 50 by decide) (show (21 : Int32) ≠ 36 by decide) (tk_ne hT (j := 38) rfl (rank_colon hkr)) (Or.inr ⟨show (21 : Int32) ≠ 51 by decide, show (21 : Int32) ≠ 52 by decide⟩) (Or.inr ⟨show (21 : Int32) ≠ 18 by decide, show (21 : Int32) ≠ 19 by decide, show (21 : Int32) ≠ 52 by decide⟩) (Or.inl (tk_ne hT (j := 55) rfl c55)) (Or.inr (show (21 : Int32) ≠ 20 by decide))
    · rw [if_neg ct]
      rw [if_neg ct] at s1
      exact ⟨hj, FltN.now s1⟩
  · rw [if_neg c56]
    by_cases c55 : T.tkd j = 55
    · rw [if_pos c55]
      have hj1 : j + 1 < m := hT.go hj (by omega)
      have s3 : s'.stands (tokC T j) sm = some (SRs T bl fs (Tr.app X (Tr.nd (T.lb 20 i) t)) (f.s_ip (f.ip + 1)) r) := by
        rw [hst, tokC_of c55]
        refine (aw_semiA (f := fm_0 20 (T.tpl i) (T.twd i)) (m := 1) (Or.inl ⟨rfl, rfl⟩)).trans ?_
        have hn : Rs.nadd (Tr.pn X ++ Tr.pn t) 20 (T.tpl i) (-1) 1 (T.twd i) = Tr.pn (Tr.app X (Tr.nd (T.lb 20 i) t)) := by
          have hn0 := nadd_pn (x := X) (y := t) (k := 20) (pl := T.tpl i) (sec := -1) (wd := T.twd i) (nI i) (by omega)
          rw [hv.rt1] at hn0
          rw [← Tr.pn_app]
          exact hn0
        show some ((0 : Int32), nI bl.length, (0 : Int32), nI (lpN bl), f.s_ip (f.ip + 1), r, Rs.nadd (Tr.pn X ++ Tr.pn t) 20 (T.tpl i) (-1) 1 (T.twd i), ([] : List Wt), fs.map (fnW T)) = _
        rw [hn]
        rfl
      refine ⟨_, GoS.one s3, SR.next hb hsz hbl hok hf hf2 hj1 ?_ rfl ?_⟩
      · exact SV.mk (Or.inr (Or.inr (Or.inl ⟨j, ρ, t, rfl, c55, hw, hv, h13, rfl⟩)))
      · simp only [Tr.sz]; omega
    · rw [if_neg c55]
      refine ⟨hj, FltN.now ?_ (NB.md hmd (by decide))⟩
      rw [hst]
      exact aw_noB (show (20 : Int32) ≠ 33 by decide) (show (20 : Int32) ≠ 50 by decide) (show (20 : Int32) ≠ 36 by decide) (tk_ne hT (j := 38) rfl (rank_colon hjr)) (Or.inr ⟨show (20 : Int32) ≠ 51 by decide, show (20 : Int32) ≠ 52 by decide⟩) (Or.inr ⟨show (20 : Int32) ≠ 18 by decide, show (20 : Int32) ≠ 19 by decide, show (20 : Int32) ≠ 52 by decide⟩) (Or.inl (tk_ne hT (j := 55) rfl c55)) (Or.inl (tk_ne hT (j := 56) rfl c56))
theorem stm_work (hT : TkOK T m) {i : Nat} {bl fs : List Nat} {s : Rs} (hR : SR T m i bl fs s) (hw : ¬ wordK (T.tkd i)) (h52 : T.tkd i ≠ 52) (h0 : T.tkd i ≠ 0) : StR T sm m i s (stWork T.tkd i bl fs) := by
  obtain ⟨X, f, r, hs, hb, hsz, hbl, hok, hi, hf, hf2⟩ := hR
  subst hs
  have hle := hT.le
  have hse : (SRs T bl fs X f r).settle (tokC T i) = Bs.st (nI (lpN bl), fm_0 20 (T.tpl i) (T.twd i), f :: r, Tr.pn X, fs.map (fnW T)) T (if T.tkd i = 51 ∨ T.tkd i = 53 ∨ T.tkd i = 38 then 30 else 31) bl.length 0 [] .leaf [] := by
    refine (se_alone hT hw).trans ?_
    show _ = ((if T.tkd i = 51 ∨ T.tkd i = 53 ∨ T.tkd i = 38 then (30 : Int32) else 31), nI bl.length, nI 0, nI (lpN bl), fm_0 20 (T.tpl i) (T.twd i), f :: r, Tr.pn X ++ [], ([] : List Wt), fs.map (fnW T))
    rw [List.append_nil]
    rfl
  refine StR'.to ?_
  rw [hse]
  have h1 := expr_run (sm := sm) hT (B := (nI (lpN bl), fm_0 20 (T.tpl i) (T.twd i), f :: r, Tr.pn X, fs.map (fnW T))) (i := i) (lv := bl.length) ⟨rfl, rfl, Or.inr (Or.inr (Or.inl rfl)), fun _ => rfl, fun _ => h0⟩ hi hbl (fun _ => h52) (fun h => absurd (show (20 : Int32) = 52 from h) (by decide)) (by show (Tr.pn X).length ≤ i; rw [Tr.pn_len]; omega)
  unfold stWork
  cases e : rdE T.tkd i bl.length with
  | inl j => rw [e] at h1; exact h1
  | inr q =>
    obtain ⟨j, lv'⟩ := q
    rw [e] at h1
    obtain ⟨_, hj, hj48, hjr, t, ρ, s', hv, hsz2, hgo, hst, hmd⟩ := h1
    exact StR'.pre hgo (work_end hT hb hsz hbl hok hf hf2 hw hj hjr hv (rdE_13 e) hst hmd)
end Stm
end

section
/-! a statement that begins with a bracket of rows: rows, or targets -/
/-- the reference's look for targets: where they end as such, or their bracket, behind which = stands -/
def tE (K : Nat → Nat) : Nat → Nat → Nat → Sum Nat Nat
  | 0, _, k => .inl k
  | fu + 1, n, k => if K k ≠ 2 ∧ K k ≠ 49 then .inl k else if K (k + 1) = 53 then (if K (k + 2) = 56 then .inr (k + 1) else .inl (k + 2)) else if K (k + 1) = 54 then (if n = 8 then .inl (k + 1) else tE K fu (n + 1) (k + 2)) else .inl (k + 1)
section Stm
variable {T : Tks} {sm : Int32 → Int32 → Int32 → Bool} {m : Nat}
theorem NmL.vv {a : Nat} : ∀ {n : Nat} {N : Tr Lb}, NmL T false a (n + 1) N → VV T 2 0 a (a + 2 * n + 1) N
  | 0, N, h => by
    obtain ⟨N0, h1, h2, h3⟩ := h
    rcases h3 with ⟨h3, h4⟩ | ⟨h3, _⟩
    · rw [show N0 = .leaf from h1] at h4
      rw [h4]
      exact VV.mk (Or.inl (Or.inl ⟨10, VV.leaf ⟨rfl, Or.inl ⟨h3, rfl⟩⟩⟩))
    · cases h3
  | n + 1, N, h => by
    obtain ⟨N0, h1, h2, h3⟩ := h
    rcases h3 with ⟨h3, h4⟩ | ⟨h3, _⟩
    · have ih := h1.vv
      have hc := h2 (by omega)
      rw [h4]
      rw [show a + 2 * (n + 1) - 1 = a + 2 * n + 1 by omega] at hc
      refine VV.mk (Or.inr ⟨a + 2 * n + 1, N0, _, hc, ih, Or.inl ⟨10, ?_⟩, rfl⟩)
      have e : a + 2 * n + 1 + 1 = a + 2 * (n + 1) := by omega
      rw [e]
      exact VV.leaf ⟨rfl, Or.inl ⟨h3, rfl⟩⟩
    · cases h3
theorem NmL.tg {a : Nat} : ∀ {n : Nat} {N : Tr Lb}, NmL T false a n N → NmL T true a n N
  | 0, N, h => h
  | n + 1, N, h => by
    obtain ⟨N0, h1, h2, h3⟩ := h
    rcases h3 with h3 | ⟨h3, _⟩
    · exact ⟨N0, h1.tg, h2, Or.inl h3⟩
    · cases h3
/-- the rows' frame with n names in its first row -/
def roF (T : Tks) (i n : Nat) (tg : Int32) : Fm := (36, T.tpl i, T.twd i, -1, 0, nI n, T.tpl (i + 1), T.twd (i + 1), 0, 0, 0, tg, 0)
variable {i : Nat} {bl fs : List Nat} {X : Tr Lb} {f : Fm} {r : List Fm}
/-- the base of the statement -/
def roB (T : Tks) (i : Nat) (bl fs : List Nat) (X : Tr Lb) (f : Fm) (r : List Fm) : Bs := (nI (lpN bl), fm_0 20 (T.tpl i) (T.twd i), f :: r, Tr.pn X, fs.map (fnW T))
theorem roB.ok (h52 : T.tkd i = 52) : BsOK T (roB T i bl fs X f r) i := ⟨rfl, rfl, Or.inr (Or.inr (Or.inl rfl)), fun _ => rfl, fun _ => by rw [h52]; decide⟩
theorem roCH {n : Nat} {N : Tr Lb} (h52 : T.tkd i = 52) (hN : NmL T false (i + 1) n N) (hc : 0 < n → T.tkd (i + 2 * n) = 54) : CH T i [roF T i n 0] [(52, 0, 0, 0, 0)] [[]] (i + 1 + 2 * n) N := by
  refine ⟨i, i, .leaf, .leaf, N, ⟨rfl, rfl⟩, ⟨rfl, rfl⟩, Or.inr (Or.inl ⟨rfl, rfl, h52, rfl, rfl, i + 1, .leaf, N, Or.inl ⟨rfl, rfl⟩, ?_, rfl, ?_, rfl, rfl, rfl⟩), rfl, rfl, rfl, rfl⟩
  · match n, hN, hc with
    | 0, hN, _ => exact Or.inl ⟨rfl, hN⟩
    | n + 1, hN, hc =>
      refine Or.inr ⟨i + 1 + 2 * n + 1, hN.vv, ?_, by omega⟩
      rw [show i + 1 + 2 * n + 1 = i + 2 * (n + 1) by omega]
      exact hc (by omega)
  · show nI n = nI (Tr.rt N)
    rw [hN.rt]
theorem ro_st {md : Int32} {lv fr n : Nat} {tg : Int32} {F : Tr Lb} {W : List We} : (roB T i bl fs X f r).st T md lv fr [roF T i n tg] F W = (md, nI lv, nI fr, nI (lpN bl), roF T i n tg, fm_0 20 (T.tpl i) (T.twd i) :: f :: r, Tr.pn X ++ Tr.pn F, (W.map (We.w T)).reverse, fs.map (fnW T)) := rfl
/-- a name or a nothing may begin a target -/
theorem se_30n {l sg lp : Int32} {g : Fm} {rr : List Fm} {d : List Nd} {w fn : List Wt} {k p v : Int32} (htg : g.tg = 1) (hk : k = 2 ∨ k = 126) : Rs.settle (30, l, sg, lp, g, rr, d, w, fn) (k, p, v) = ((if k = 126 then 30 else 31), l, sg, lp, (seF g (k, p, v)).s_tg 1, rr, d, w, fn) := by
  have h0 : ¬ g.tg = 0 := by rw [htg]; decide
  have hc : Rs.canT (30, l, sg, lp, g, rr, d, w, fn) (k, p, v) = 1 := by
    unfold Rs.canT
    show (if g.tg = 0 then (0 : Int32) else if k = 2 ∨ k = 126 then 1 else 0) = 1
    rw [if_neg h0, if_pos hk]
  show Rs.settle2 (if (30 : Int32) = 0 ∧ Rs.isWordK k = false then _ else (30, l, sg, lp, g, rr, d, w, fn)) (k, p, v) = _
  rw [if_neg (show ¬ ((30 : Int32) = 0 ∧ Rs.isWordK k = false) from fun x => absurd x.1 (by decide))]
  unfold Rs.settle2
  rw [if_pos (show (30 : Int32) = 30 from rfl)]
  unfold Rs.settleStart
  rw [hc]
  show ((if k = 41 ∨ k = 93 ∨ k = 58 ∨ ((1 : Int32) ≠ 0 ∧ k = 126) then (30 : Int32) else 31), l, sg, lp, (seF g (k, p, v)).s_tg 1, rr, d, w, fn) = _
  congr 1
  rcases hk with rfl | rfl
  · rfl
  · rfl
/-- the frame once its row's first token is known -/
theorem ro_se {n : Nat} {ipl iw : Int32} {tg : Int32} {k : Int32} (hn : n < 2 ^ 20) (h : n = 0 ∨ (ipl = T.tpl (i + 1) ∧ iw = T.twd (i + 1))) : seF (36, T.tpl i, T.twd i, -1, 0, nI n, ipl, iw, 0, 0, 0, tg, 0) (k, T.tpl (i + 1 + 2 * n), T.twd (i + 1 + 2 * n)) = roF T i n 0 := by
  show (36, T.tpl i, T.twd i, -1, 0, nI n, (if (36 : Int32) = 36 ∧ nI n = 0 then T.tpl (i + 1 + 2 * n) else ipl), (if (36 : Int32) = 36 ∧ nI n = 0 then T.twd (i + 1 + 2 * n) else iw), 0, 0, 0, (0 : Int32), 0) = roF T i n 0
  by_cases c : n = 0
  · subst c
    rfl
  · have hne : ¬ ((36 : Int32) = 36 ∧ nI n = 0) := by
      rw [show (0 : Int32) = nI 0 from rfl, nI_eq' (by omega) (by omega)]
      exact fun x => c x.2
    obtain ⟨h1, h2⟩ := h.resolve_left c
    rw [if_neg hne, if_neg hne, h1, h2]
    rfl
theorem run_ge (hT : TkOK T m) {fu : Nat} : ∀ {fu : Nat} {mx : Mx} {j lv : Nat}, Mx.MS m T.tkd mx → Mx.run T.tkd fu mx = .inr (j, lv) → mx.ix ≤ j
  | 0, _, _, _, _, h => by cases h
  | fu + 1, (w, fr, bh, co, i, lv0, op), j, lv, hI, h => by
    have h2 := Mx.nx_step hT.kd hI
    rw [Mx.run] at h
    cases e : Mx.step T.tkd (w, fr, bh, co, i, lv0, op) with
    | inl k => rw [e] at h; cases h
    | inr p =>
      rw [e] at h h2
      match p, h, h2, e with
      | (true, (w', fr', bh', co', i', lv', op')), h, _, e =>
        have h4 := (Mx.fin_step e).1
        injection h with h
        injection h with h1 h3
        show i ≤ j
        omega
      | (false, s'), h, h2, _ =>
        have := run_ge hT (fu := fu) h2.1 h
        have h3 : i < s'.ix := h2.2
        show i ≤ j
        omega
end Stm
end

section
/-- behind the n-th target, at q -/
def tE2 (K : Nat → Nat) (fu n q : Nat) : Sum Nat Nat := if K q = 53 then (if K (q + 1) = 56 then .inr q else .inl (q + 1)) else if K q = 54 then (if n = 8 then .inl q else tE K fu (n + 1) (q + 1)) else .inl q
section Stm
variable {T : Tks} {sm : Int32 → Int32 → Int32 → Bool} {m : Nat}
variable {i lv : Nat} {bl fs : List Nat} {X : Tr Lb} {f : Fm} {r : List Fm}
/-- the frame of a statement with targets -/
def svF (T : Tks) (i : Nat) (pl wd ip : Int32) : Fm := (10, pl, wd, T.tpl i, 0, ip, T.tpl i, T.twd i, 0, 0, 0, 0, 0)
/-- targets have been read up to their = -/
def TgD (T : Tks) (sm : Int32 → Int32 → Int32 → Bool) (m i lv k : Nat) (bl fs : List Nat) (X : Tr Lb) (f : Fm) (r : List Fm) (s : Rs) (c : Nat) : Prop :=
  ∃ n N ip, 0 < n ∧ n ≤ 8 ∧ NmL T true (i + 1) n N ∧ c = i + 2 * n ∧ c + 2 < m ∧ T.tkd c = 53 ∧ T.tkd (c + 1) = 56 ∧ GoN T sm k (c + 2) s (23, nI lv, 0, nI (lpN bl), svF T i (T.tpl (c + 1)) (T.twd (c + 1)) ip, f :: r, Tr.pn (Tr.app X (Tr.nd (T.nms i) N)), [], fs.map (fnW T))
/-- in a statement that can only be one with targets -/
theorem q_run (hT : TkOK T m) (hX : Tr.sz X ≤ i) : ∀ (fu n : Nat) (N : Tr Lb), 8 - n < fu → 0 < n → n ≤ 8 → NmL T true (i + 1) n N → i + 2 * n < m →
    match tE2 T.tkd fu n (i + 2 * n) with
    | .inl e => e < m ∧ FltN T sm (i + 2 * n) e (21, nI (lv + 1), 0, nI (lpN bl), svF T i (T.tpl i) (T.twd i) (nI n), f :: r, Tr.pn X ++ Tr.pn N, [], fs.map (fnW T))
    | .inr c => TgD T sm m i lv (i + 2 * n) bl fs X f r (21, nI (lv + 1), 0, nI (lpN bl), svF T i (T.tpl i) (T.twd i) (nI n), f :: r, Tr.pn X ++ Tr.pn N, [], fs.map (fnW T)) c
  | 0, n, N, h, _, _, _, _ => by omega
  | fu + 1, n, N, hfu, hn0, hn8, hN, hi => by
    have hle := hT.le
    have hNs := hN.sz
    have hNr := hN.rt
    unfold tE2
    by_cases c53 : T.tkd (i + 2 * n) = 53
    · rw [if_pos c53]
      have hi1 : i + 2 * n + 1 < m := hT.go hi (by omega)
      have s1 : Rs.stands (21, nI (lv + 1), 0, nI (lpN bl), svF T i (T.tpl i) (T.twd i) (nI n), f :: r, Tr.pn X ++ Tr.pn N, [], fs.map (fnW T)) (tokC T (i + 2 * n)) sm = some (22, nI lv, 0, nI (lpN bl), svF T i (T.tpl i) (T.twd i) (nI n), f :: r, Tr.pn (Tr.app X (Tr.nd (T.nms i) N)), [], fs.map (fnW T)) := by
        rw [tokC_of c53]
        show some ((22 : Int32), nI (lv + 1) - 1, (0 : Int32), nI (lpN bl), svF T i (T.tpl i) (T.twd i) (nI n), f :: r, Rs.nadd (Tr.pn X ++ Tr.pn N) 2 (T.tpl i) (-1) (nI n) 0, ([] : List Wt), fs.map (fnW T)) = _
        rw [nI_p1, ← Tr.pn_app, show nI n = nI (Tr.rt N) by rw [hNr], nadd_pn (-1) (by omega)]
        rfl
      have g1 := GoN.one s1
      rw [se_no (by decide)] at g1
      by_cases c56 : T.tkd (i + 2 * n + 1) = 56
      · rw [if_pos c56]
        have hi2 : i + 2 * n + 2 < m := hT.go hi1 (by omega)
        have s2 : Rs.stands (22, nI lv, 0, nI (lpN bl), svF T i (T.tpl i) (T.twd i) (nI n), f :: r, Tr.pn (Tr.app X (Tr.nd (T.nms i) N)), [], fs.map (fnW T)) (tokC T (i + 2 * n + 1)) sm = some (23, nI lv, 0, nI (lpN bl), svF T i (T.tpl (i + 2 * n + 1)) (T.twd (i + 2 * n + 1)) (nI n), f :: r, Tr.pn (Tr.app X (Tr.nd (T.nms i) N)), [], fs.map (fnW T)) := by
          rw [tokC_of c56]; rfl
        have g2 := g1.trans (GoN.one s2)
        rw [se_no (by decide)] at g2
        exact ⟨n, N, nI n, hn0, hn8, hN, rfl, hi2, c53, c56, g2⟩
      · rw [if_neg c56]
        refine ⟨hi1, g1.flt (FltN.now ?_)⟩
        show (if nI (ck (T.tkd (i + 2 * n + 1))) = (61 : Int32) then _ else none) = none
        exact if_neg (tk_ne hT (j := 56) rfl c56)
    · rw [if_neg c53]
      by_cases c54 : T.tkd (i + 2 * n) = 54
      · rw [if_pos c54]
        have hi1 : i + 2 * n + 1 < m := hT.go hi (by omega)
        have s1 : Rs.stands (21, nI (lv + 1), 0, nI (lpN bl), svF T i (T.tpl i) (T.twd i) (nI n), f :: r, Tr.pn X ++ Tr.pn N, [], fs.map (fnW T)) (tokC T (i + 2 * n)) sm = if nI n < 8 then some (20, nI (lv + 1), 0, nI (lpN bl), svF T i (T.tpl i) (T.twd i) (nI n), f :: r, Tr.pn X ++ Tr.pn N, [], fs.map (fnW T)) else none := by
          rw [tokC_of c54]; rfl
        by_cases c8 : n = 8
        · rw [if_pos c8]
          rw [if_neg (show ¬ nI n < 8 by rw [c8]; decide)] at s1
          exact ⟨hi, FltN.now s1⟩
        · rw [if_neg c8]
          rw [if_pos (show nI n < 8 by rw [show (8 : Int32) = nI 8 from rfl, nI_lt' (by omega) (by omega)]; omega)] at s1
          have g1 := GoN.one s1
          rw [se_no (by decide)] at g1
          rw [tE]
          have hq : i + 2 * n + 1 = i + 1 + 2 * n := by omega
          have hcm : 0 < n → T.tkd (i + 1 + 2 * n - 1) = 54 := fun _ => by rw [show i + 1 + 2 * n - 1 = i + 2 * n by omega]; exact c54
          -- one more target
          have more : ∀ lab : Lb, Rs.stands (20, nI (lv + 1), 0, nI (lpN bl), svF T i (T.tpl i) (T.twd i) (nI n), f :: r, Tr.pn X ++ Tr.pn N, [], fs.map (fnW T)) (tokC T (i + 2 * n + 1)) sm = some (21, nI (lv + 1), 0, nI (lpN bl), svF T i (T.tpl i) (T.twd i) (nI (n + 1)), f :: r, Tr.pn X ++ Tr.pn (Tr.app N (Tr.nd lab .leaf)), [], fs.map (fnW T)) → NmL T true (i + 1) (n + 1) (Tr.app N (Tr.nd lab .leaf)) → i + 2 * n + 2 < m → (match tE2 T.tkd fu (n + 1) (i + 2 * n + 2) with
              | .inl e => e < m ∧ FltN T sm (i + 2 * n) e (21, nI (lv + 1), 0, nI (lpN bl), svF T i (T.tpl i) (T.twd i) (nI n), f :: r, Tr.pn X ++ Tr.pn N, [], fs.map (fnW T))
              | .inr c => TgD T sm m i lv (i + 2 * n) bl fs X f r (21, nI (lv + 1), 0, nI (lpN bl), svF T i (T.tpl i) (T.twd i) (nI n), f :: r, Tr.pn X ++ Tr.pn N, [], fs.map (fnW T)) c) := by
            intro lab s2 hN' hi2
            have g2 := g1.trans (GoN.one s2)
            rw [se_no (by decide)] at g2
            have ih := q_run hT hX fu (n + 1) _ (by omega) (by omega) (by omega) hN' (by rw [show i + 2 * (n + 1) = i + 2 * n + 2 by omega]; exact hi2)
            rw [show i + 2 * (n + 1) = i + 2 * n + 2 by omega] at ih
            cases e : tE2 T.tkd fu (n + 1) (i + 2 * n + 2) with
            | inl e2 =>
              rw [e] at ih
              exact ⟨ih.1, g2.flt ih.2⟩
            | inr c =>
              rw [e] at ih
              obtain ⟨n', N', ip, k1, k2, k3, k4, k5, k6, k7, k8⟩ := ih
              exact ⟨n', N', ip, k1, k2, k3, k4, k5, k6, k7, g2.trans k8⟩
          by_cases c2 : T.tkd (i + 2 * n + 1) = 2
          · rw [if_neg (fun x => x.1 c2)]
            have hi2 : i + 2 * n + 2 < m := hT.go hi1 (by omega)
            refine more (T.lb 32 (i + 2 * n + 1)) ?_ ⟨N, hN, hcm, Or.inl ⟨by rw [← hq]; exact c2, by rw [← hq]⟩⟩ hi2
            rw [tokC_of c2]
            show some ((21 : Int32), nI (lv + 1), (0 : Int32), nI (lpN bl), svF T i (T.tpl i) (T.twd i) (nI n + 1), f :: r, Rs.nadd (Tr.pn X ++ Tr.pn N) 32 (T.tpl (i + 2 * n + 1)) (-1) 0 (T.twd (i + 2 * n + 1)), ([] : List Wt), fs.map (fnW T)) = _
            rw [show nI n + 1 = nI (n + 1) from nI_add' n 1, nadd_lf (nI (i + 2 * n + 1)) (by rw [Tr.pn_len]; omega)]
            rfl
          · by_cases c49 : T.tkd (i + 2 * n + 1) = 49
            · rw [if_neg (fun x => x.2 c49)]
              have hi2 : i + 2 * n + 2 < m := hT.go hi1 (by omega)
              refine more (5, T.tpl (i + 2 * n + 1), -1, 1, nI (i + 2 * n + 1)) ?_ ⟨N, hN, hcm, Or.inr ⟨rfl, by rw [← hq]; exact c49, by rw [← hq]⟩⟩ hi2
              rw [tokC_of c49]
              show some ((21 : Int32), nI (lv + 1), (0 : Int32), nI (lpN bl), svF T i (T.tpl i) (T.twd i) (nI n + 1), f :: r, Rs.nadd (Tr.pn X ++ Tr.pn N) 5 (T.tpl (i + 2 * n + 1)) (-1) 0 1, ([] : List Wt), fs.map (fnW T)) = _
              rw [show nI n + 1 = nI (n + 1) from nI_add' n 1, nadd_lf (nI (i + 2 * n + 1)) (by rw [Tr.pn_len]; omega)]
            · rw [if_pos ⟨c2, c49⟩]
              refine ⟨hi1, g1.flt (FltN.now ?_)⟩
              show (if nI (ck (T.tkd (i + 2 * n + 1))) = (126 : Int32) then _ else if nI (ck (T.tkd (i + 2 * n + 1))) = 2 then _ else none) = none
              rw [if_neg (show ¬ nI (ck (T.tkd (i + 2 * n + 1))) = (126 : Int32) from tk_ne hT (j := 49) rfl c49), if_neg (show ¬ nI (ck (T.tkd (i + 2 * n + 1))) = (2 : Int32) from tk_ne hT (j := 2) rfl c2)]
      · rw [if_neg c54]
        refine ⟨hi, FltN.now ?_⟩
        show (if nI (ck (T.tkd (i + 2 * n))) = (93 : Int32) then _ else if nI (ck (T.tkd (i + 2 * n))) = 44 then _ else none) = none
        rw [if_neg (show ¬ nI (ck (T.tkd (i + 2 * n))) = (93 : Int32) from tk_ne hT (j := 53) rfl c53), if_neg (show ¬ nI (ck (T.tkd (i + 2 * n))) = (44 : Int32) from tk_ne hT (j := 54) rfl c54)]
theorem tE_eq {K : Nat → Nat} {fu n k : Nat} (h : K k = 2 ∨ K k = 49) : tE K (fu + 1) n k = tE2 K fu n (k + 1) := by
  rw [tE, if_neg (fun x => h.elim x.1 x.2)]
  rfl
/-- a state that stands as another one does goes on as it does -/
theorem tr1 (hT : TkOK T m) {B : Bs} {a k w fr bh co lv : Nat} {op : List Ent} {s s0 : Rs} (hB : BsOK T B a) (heq : s.stands (tokC T k) sm = s0.stands (tokC T k) sm) (hI : Mx.MI m T.tkd w fr bh co k lv op) (hE : ER T B a m (w, fr, bh, co, k, lv, op) s0) (hnb : NB T k s) :
    match Mx.step T.tkd (w, fr, bh, co, k, lv, op) with
    | .inl j => k ≤ j ∧ FltN T sm k j s
    | .inr (true, _) => True
    | .inr (false, mx) => k < mx.ix ∧ Mx.MS m T.tkd mx ∧ ∃ s', GoN T sm k mx.ix s s' ∧ ER T B a m mx s' := by
  have h1 := sim_step (sm := sm) hT hB hI hE
  have h2 := Mx.nx_step hT.kd hI
  have hnx : ∀ n s', 0 < n → Rs.nxs T sm n k s0 = some s' → Rs.nxs T sm n k s = some s' := by
    intro n s' hn h
    match n, hn, h with
    | n + 1, _, h =>
      have e : Rs.nx T sm k s = Rs.nx T sm k s0 := by unfold Rs.nx; rw [heq]
      show (Rs.nx T sm k s).bind _ = _
      rw [e]
      exact h
  cases e : Mx.step T.tkd (w, fr, bh, co, k, lv, op) with
  | inl j =>
    rw [e] at h1
    obtain ⟨n, s', e1, e2, e3, e4⟩ := h1
    refine ⟨by omega, by omega, ?_⟩
    by_cases c : n = 0
    · subst c
      have : s0 = s' := Option.some.inj e2
      subst this
      refine ⟨s, ?_, ?_, ?_⟩
      · rw [e1, show k + 0 - k = 0 by omega]; rfl
      · rw [e1, Nat.add_zero, heq]
        rw [e1, Nat.add_zero] at e3
        exact e3
      · rw [e1]
        exact hnb
    · refine ⟨s', ?_, e3, ?_⟩
      · rw [show j - k = n by omega]
        exact hnx n s' (by omega) e2
      · rcases e4 with h | h | h
        · exact absurd h c
        · exact fun x => absurd x h
        · exact NB.md h (by decide)
  | inr p =>
    rw [e] at h1 h2
    match p, h1, h2 with
    | (true, _), _, _ => trivial
    | (false, mx), h1, h2 =>
      obtain ⟨n, s', e1, e2, e3⟩ := h1
      have hlt : k < mx.ix := h2.2
      refine ⟨hlt, h2.1, s', ⟨by omega, ?_⟩, e3⟩
      rw [show mx.ix - k = n by omega]
      exact hnx n s' (by omega) e2
end Stm
end

section
section Stm
variable {T : Tks} {sm : Int32 → Int32 → Int32 → Bool} {m : Nat}
variable {i lv : Nat} {bl fs : List Nat} {X : Tr Lb} {f : Fm} {r : List Fm}
/-- the reference's state at the (n + 1)-th element -/
abbrev roM (i lv n : Nat) : Mx := (1, 0, 0, 0, i + 1 + 2 * n, lv + 1, [(52, 0, 0, 0, 0)])
/-- what becomes of rows that could be targets -/
def RoO (T : Tks) (sm : Int32 → Int32 → Int32 → Bool) (m i lv k : Nat) (bl fs : List Nat) (X : Tr Lb) (f : Fm) (r : List Fm) (mx0 : Mx) (s : Rs) : Sum Nat Nat → Prop
  | .inr c => TgD T sm m i lv k bl fs X f r s c
  | .inl e => (∃ bad j, (∀ fu, m - k < fu → Mx.run T.tkd fu mx0 = .inl bad) ∧ j = max bad e ∧ j < m ∧ FltN T sm k j s) ∨ (∃ mx s', e ≤ mx.ix ∧ GoN T sm k mx.ix s s' ∧ ER T (roB T i bl fs X f r) i m mx s' ∧ Mx.MS m T.tkd mx ∧ Mx.Lv lv mx ∧ ∀ fu, m - k < fu → ∃ fu', m - mx.ix < fu' ∧ Mx.run T.tkd fu mx0 = Mx.run T.tkd fu' mx)
theorem RoO.pre {k k' : Nat} {mx0 mx1 : Mx} {s s' : Rs} (g : GoN T sm k k' s s') (hm : ∀ fu, m - k < fu → ∃ fu', m - k' < fu' ∧ Mx.run T.tkd fu mx0 = Mx.run T.tkd fu' mx1) : ∀ {o : Sum Nat Nat}, RoO T sm m i lv k' bl fs X f r mx1 s' o → RoO T sm m i lv k bl fs X f r mx0 s o
  | .inr c, ⟨n, N, ip, h1, h2, h3, h4, h5, h6, h7, h8⟩ => ⟨n, N, ip, h1, h2, h3, h4, h5, h6, h7, g.trans h8⟩
  | .inl e, h => by
    rcases h with ⟨bad, j, h1, h2, h3, h4⟩ | ⟨mx, s2, h1, h2, h3, h4, h5, h6⟩
    · refine Or.inl ⟨bad, j, fun fu hf => ?_, h2, h3, g.flt h4⟩
      obtain ⟨fu', e1, e2⟩ := hm fu hf
      rw [e2]; exact h1 fu' e1
    · refine Or.inr ⟨mx, s2, h1, g.trans h2, h3, h4, h5, fun fu hf => ?_⟩
      obtain ⟨fu', e1, e2⟩ := hm fu hf
      obtain ⟨fu2, e3, e4⟩ := h6 fu' e1
      exact ⟨fu2, e3, e2.trans e4⟩
/-- one turn of the run -/
theorem run1 {K : Nat → Nat} {mx mx' : Mx} (h : Mx.step K mx = .inr (false, mx')) (hlt : mx.ix < mx'.ix) (hm : mx.ix < m) : ∀ fu, m - mx.ix < fu → ∃ fu', m - mx'.ix < fu' ∧ Mx.run K fu mx = Mx.run K fu' mx' := by
  intro fu hf
  match fu, hf with
  | fu + 1, hf =>
    refine ⟨fu, by omega, ?_⟩
    rw [Mx.run, h]
theorem run1n {K : Nat → Nat} {mx : Mx} {j : Nat} (h : Mx.step K mx = .inl j) : ∀ fu, m - mx.ix < fu → Mx.run K fu mx = .inl j := by
  intro fu hf
  match fu, hf with
  | fu + 1, hf => rw [Mx.run, h]
theorem run2 {K : Nat → Nat} {k k' k'' : Nat} {a b c : Mx} (h1 : ∀ fu, m - k < fu → ∃ fu', m - k' < fu' ∧ Mx.run K fu a = Mx.run K fu' b) (h2 : ∀ fu, m - k' < fu → ∃ fu', m - k'' < fu' ∧ Mx.run K fu b = Mx.run K fu' c) : ∀ fu, m - k < fu → ∃ fu', m - k'' < fu' ∧ Mx.run K fu a = Mx.run K fu' c := by
  intro fu hf
  obtain ⟨fu', e1, e2⟩ := h1 fu hf
  obtain ⟨fu2, e3, e4⟩ := h2 fu' e1
  exact ⟨fu2, e3, e2.trans e4⟩
/-- the machine's state there, with names N so far -/
def roS (T : Tks) (i lv n : Nat) (bl fs : List Nat) (X N : Tr Lb) (f : Fm) (r : List Fm) (ipl iw tg : Int32) : Rs := (30, nI (lv + 1), 0, nI (lpN bl), (36, T.tpl i, T.twd i, -1, 0, nI n, ipl, iw, 0, 0, 0, tg, 0), fm_0 20 (T.tpl i) (T.twd i) :: f :: r, Tr.pn X ++ Tr.pn N, [], fs.map (fnW T))
theorem roMI {n : Nat} (hk : i + 1 + 2 * n < m) (hlv : lv + 1 ≤ 60) : Mx.MI m T.tkd 1 0 0 0 (i + 1 + 2 * n) (lv + 1) [(52, 0, 0, 0, 0)] :=
  ⟨hk, by omega, fun h => absurd h (by decide), by omega, by omega, hlv, by show 1 + 0 + (0 + 0) ≤ lv + 1; omega, fun e he => by
    rcases List.mem_cons.mp he with rfl | he
    · exact ⟨Or.inr (Or.inl rfl), Nat.zero_le _, Nat.zero_le _, Nat.zero_le _⟩
    · exact absurd he List.not_mem_nil⟩
theorem roLv {n : Nat} : Mx.Lv lv (roM i lv n) := ⟨by show lv + 1 = lv + 0 + 1 + (0 + 0); omega, fun h => absurd h (by decide)⟩
/-- the element's start, where no target can stand -/
theorem ro_start (hT : TkOK T m) {n : Nat} {N : Tr Lb} {ipl iw tg : Int32} (h52 : T.tkd i = 52) (hX : Tr.sz X ≤ i) (hlv : lv + 1 ≤ 60) (hk : i + 1 + 2 * n < m) (hN : NmL T false (i + 1) n N) (hc : 0 < n → T.tkd (i + 2 * n) = 54) (hip : n = 0 ∨ (ipl = T.tpl (i + 1) ∧ iw = T.twd (i + 1))) (ht : tg = 0 ∨ (T.tkd (i + 1 + 2 * n) ≠ 2 ∧ T.tkd (i + 1 + 2 * n) ≠ 49)) (h53 : n = 0 → T.tkd (i + 1) ≠ 53) : ER T (roB T i bl fs X f r) i m (roM i lv n) ((roS T i lv n bl fs X N f r ipl iw tg).settle (tokC T (i + 1 + 2 * n))) := by
  have hle := hT.le
  have hNs := hN.sz
  unfold roS
  rw [se_30 (f := (36, T.tpl i, T.twd i, -1, 0, nI n, ipl, iw, 0, 0, 0, tg, 0)) (ht.imp id (fun h x => x.elim (tk_ne hT (j := 2) rfl h.1) (tk_ne hT (j := 49) rfl h.2))), show (tokC T (i + 1 + 2 * n)).k = nI (ck (T.tkd (i + 1 + 2 * n))) from rfl, tk_mode hT]
  rw [show seF (36, T.tpl i, T.twd i, -1, 0, nI n, ipl, iw, 0, 0, 0, tg, 0) (tokC T (i + 1 + 2 * n)) = roF T i n 0 from ro_se (by omega) hip]
  refine ER.start (f := roF T i n 0) (Ws := [[]]) (X := N) hk hlv (fun g hg => absurd hg List.not_mem_nil) (by omega) (roCH h52 hN hc) ?_ ⟨fun h => absurd (show (36 : Int32) = 33 from h) (by decide), fun _ _ h => ?_⟩ rfl rfl
  · show (Tr.pn X).length + Tr.sz N + 0 + (0 + 1) ≤ i + 1 + 2 * n
    rw [Tr.pn_len]; omega
  · have h : nI n = nI 0 := h
    rw [nI_eq' (by omega) (by omega)] at h
    subst h
    exact h53 rfl
end Stm
end
