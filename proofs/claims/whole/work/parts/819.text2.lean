section
section Tx
variable {n : Nat} {x : Nat → Nat} {sm : Int32 → Int32 → Int32 → Bool}
theorem Suf.tc {v f p : Nat} (h : Suf n x v f p) : tokC (tkT n x) v = (nI (ck (cutK n x v p)), nI (skp n x p), nI ((tok n x (skp n x p)).2 - skp n x p)) := by
  show (nI (ck ((cutE n x).getD v (0, 0, 0)).1), nI ((cutE n x).getD v (0, 0, 0)).2.1, nI (((cutE n x).getD v (0, 0, 0)).2.2 - ((cutE n x).getD v (0, 0, 0)).2.1)) = _
  rw [h.at]
theorem Suf.tk {v f p : Nat} (h : Suf n x v f p) (hk : cutK n x v p = (tok n x (skp n x p)).1) : Rs.tk n x p = tokC (tkT n x) v := by
  rw [h.tc, hk]
  rfl
/-- the run goes with the machine -/
theorem go_fwd (ht : TextIs n x) : ∀ (k v p f : Nat) (s z : Rs), Suf n x v f p → Rs.nxs (tkT n x) sm k v (s.settle (tokC (tkT n x) v)) = some z → v + k < (cutE n x).length → ∀ fu, k < fu → ∃ s' p' f', Suf n x (v + k) f' p' ∧ z = s'.settle (tokC (tkT n x) (v + k)) ∧ Rs.go n x sm fu v p s = Rs.go n x sm (fu - k) (v + k) p' s'
  | 0, v, p, f, s, z, hs, h, hv, fu, hf => ⟨s, p, f, hs, (Option.some.inj h).symm, rfl⟩
  | k + 1, v, p, f, s, z, hs, h, hv, fu, hf => by
    match fu, hf with
    | fu + 1, hf =>
      have e1 : Rs.nxs (tkT n x) sm (k + 1) v (s.settle (tokC (tkT n x) v)) = (Rs.nx (tkT n x) sm v (s.settle (tokC (tkT n x) v))).bind (Rs.nxs (tkT n x) sm k (v + 1)) := rfl
      rw [e1] at h
      rcases hs.next ht with ⟨_, a⟩ | ⟨a1, a2, a3, a4, a5, f', a⟩
      · omega
      · cases es : (s.settle (tokC (tkT n x) v)).stands (tokC (tkT n x) v) sm with
        | none =>
          unfold Rs.nx at h
          rw [es] at h
          cases h
        | some s1 =>
          rw [nx_of es, Option.bind_some] at h
          obtain ⟨s', p', f'', b1, b2, b3⟩ := go_fwd ht k (v + 1) _ f' s1 z a h (by omega) fu (by omega)
          refine ⟨s', p', f'', by rw [show v + (k + 1) = v + 1 + k by omega]; exact b1, by rw [show v + (k + 1) = v + 1 + k by omega]; exact b2, ?_⟩
          rw [Rs.go]
          have hk : ¬ ((Rs.tk n x p).k = 0 ∧ s.mode = 0 ∧ s.top.k = 0) := by
            intro h0
            have h1 : nI (ck (cutK n x v p)) = nI (ck 0) := by
              have := h0.1
              rw [hs.tk a2, hs.tc] at this
              exact this
            have := ck_inj (by rw [a2]; exact tok_ok ht) (kOK_of (Or.inl (by omega))) h1
            omega
          rw [if_neg hk]
          have hst : s.step (Rs.tk n x p) sm = some s1 := by
            rw [hs.tk a2]
            exact es
          rw [hst]
          show (if v = 16384 then Sum.inl (skp n x p) else Rs.go n x sm fu (v + 1) (tok n x (skp n x p)).2 s1) = _
          rw [if_neg a3, b3, show fu + 1 - (k + 1) = fu - k by omega, show v + (k + 1) = v + 1 + k by omega]
/-- settling at the text's end, where a statement would begin -/
theorem se_over {l sg lp : Int32} {f : Fm} {r : List Fm} {d : List Nd} {w fn : List Wt} {p v : Int32} : Rs.settle (0, l, sg, lp, f, r, d, w, fn) (0, p, v) = (31, l, 0, lp, (20, p, v, -1, 0, 0, p, v, sg, nI w.length, 0, 0, 0), f :: r, d, w, fn) := rfl
/-- the run stops where the machine does -/
theorem go_stop (ht : TextIs n x) {j p f fu : Nat} {s : Rs} (hs : Suf n x j f p) (hn : (s.settle (tokC (tkT n x) j)).stands (tokC (tkT n x) j) sm = none) (h0 : (tkT n x).tkd j = 0 → s.mode = 0 → s.top.k = 0 → False) : Rs.go n x sm (fu + 1) j p s = .inl (skp n x p) := by
  rw [Rs.go]
  have hkd : (tkT n x).tkd j = cutK n x j p := by
    show ((cutE n x).getD j (0, 0, 0)).1 = _
    rw [hs.at]
  have hk : ¬ ((Rs.tk n x p).k = 0 ∧ s.mode = 0 ∧ s.top.k = 0) := by
    intro h1
    have h2 : nI (ck (tok n x (skp n x p)).1) = nI (ck 0) := h1.1
    have h3 := ck_inj (tok_ok ht) (kOK_of (Or.inl (by omega))) h2
    refine h0 ?_ h1.2.1 h1.2.2
    rw [hkd]
    unfold cutK
    rw [if_neg (fun x => x.2 h3), h3]
  rw [if_neg hk]
  by_cases c : j = 16384 ∧ (tok n x (skp n x p)).1 ≠ 0
  · cases s.step (Rs.tk n x p) sm with
    | none => rfl
    | some s' =>
      show (if j = 16384 then Sum.inl (skp n x p) else _) = _
      rw [if_pos c.1]
  · have hk2 : cutK n x j p = (tok n x (skp n x p)).1 := by unfold cutK; rw [if_neg c]
    have hst : s.step (Rs.tk n x p) sm = none := by
      rw [hs.tk hk2]
      exact hn
    rw [hst]
theorem SR.init {T : Tks} {m : Nat} (h : 0 < m) : SR T m 0 [] [] Rs.init :=
  ⟨.leaf, fm_0 0 0 0, [], rfl, ⟨rfl, rfl, SV.nil, rfl⟩, Nat.le_refl _, Nat.zero_le _, trivial, h, Nat.le_refl _, fun q hq => absurd hq List.not_mem_nil⟩
/-- what the reference's reading says of the class's -/
def RdR (n : Nat) (x : Nat → Nat) (sm : Int32 → Int32 → Int32 → Bool) : Sum Nat Nat → Prop
  | .inl j => j < (cutE n x).length ∧ Rs.go n x sm FU 0 0 Rs.init = .inl ((cutE n x).getD j (0, 0, 0)).2.1
  | .inr k => k + 1 = (cutE n x).length ∧ (tkT n x).tkd k = 0 ∧ ∃ X f fs, Rs.go n x sm FU 0 0 Rs.init = .inr (k, (SRs (tkT n x) [] fs X f []).add 0 0 (-1) f.ip 0) ∧ SV (tkT n x) 1 0 k X ∧ f.ip = nI (Tr.rt X) ∧ Tr.sz X ≤ k
theorem read_both (ht : TextIs n x) : RdR n x sm (rdP (tkT n x).tkd (sameT (tkT n x) sm) 999999 0 [] []) := by
  have hT := tkOK ht
  have hle := hT.le
  have h0 : Suf n x 0 (n + 2) 0 := ⟨Nat.zero_le _, by omega, rfl⟩
  have hp := prog_run (sm := sm) hT 999999 0 [] [] Rs.init (SR.init cut_pos) (by omega)
  cases e : rdP (tkT n x).tkd (sameT (tkT n x) sm) 999999 0 [] [] with
  | inl j =>
    rw [e] at hp
    obtain ⟨hj, h | ⟨hk0, s', bl', fs', hbl, hr, hR⟩⟩ := hp
    · obtain ⟨_, s1, h1, h2, h3⟩ := h
      rw [Nat.sub_zero] at h1
      obtain ⟨s2, p, f, a1, a2, a3⟩ := go_fwd ht j 0 0 (n + 2) Rs.init s1 h0 h1 (by omega) FU (by unfold FU; omega)
      rw [Nat.zero_add] at a1 a2 a3
      subst a2
      refine ⟨hj, ?_⟩
      rw [a3, show FU - j = (FU - j - 1) + 1 by unfold FU; omega, go_stop ht a1 h2 ?_, a1.at]
      intro b1 b2 b3
      obtain ⟨md, l, sg, lp, g, r, d, w, fn⟩ := s2
      have b2 : md = 0 := b2
      subst b2
      have ht0 : tokC (tkT n x) j = (0, (tkT n x).tpl j, (tkT n x).twd j) := tokC_of b1
      rw [ht0, se_over] at h3
      exact h3 b1 rfl rfl rfl
    · refine ⟨hj, ?_⟩
      obtain ⟨X, g, r, hs, hb, hsz, hbl2, hok, _⟩ := hR
      subst hs
      have ht0 : tokC (tkT n x) j = (0, (tkT n x).tpl j, (tkT n x).twd j) := tokC_of hk0
      have hg0 : g.k ≠ 0 := by
        rcases BI.top hb with ⟨h1, _, _⟩ | h1
        · exact absurd h1 hbl
        · rcases h1 with h1 | h1 | h1 | h1 | h1 <;> (rw [h1]; decide)
      have hno : ((SRs (tkT n x) bl' fs' X g r).settle (tokC (tkT n x) j)).stands (tokC (tkT n x) j) sm = none := by
        rw [ht0]
        exact step_wrong (Or.inl rfl)
      rcases hr with ⟨a, b⟩ | hr
      · subst a
        have : bl' = [] := by
          have h9 : (SRs (tkT n x) bl' fs' X g r).top.k = 0 := by rw [b]; rfl
          exact absurd h9 hg0
        exact absurd this hbl
      · obtain ⟨z, c1, c2, c3⟩ := hr
        obtain ⟨_, c2⟩ := c2
        rw [Nat.sub_zero] at c2
        obtain ⟨s2, p, f, a1, a2, a3⟩ := go_fwd ht (j - 1) 0 0 (n + 2) Rs.init z h0 c2 (by omega) FU (by unfold FU; omega)
        rw [Nat.zero_add] at a1 a2 a3
        subst a2
        rcases a1.next ht with ⟨_, d⟩ | ⟨d1, d2, d3, d4, d5, f', d⟩
        · omega
        · rw [show j - 1 + 1 = j by omega] at d
          have hst : s2.step (Rs.tk n x p) sm = some (SRs (tkT n x) bl' fs' X g r) := by
            rw [a1.tk d2]; exact c3
          have hk : ¬ ((Rs.tk n x p).k = 0 ∧ s2.mode = 0 ∧ s2.top.k = 0) := by
            intro h1
            have h2 : nI (ck (tok n x (skp n x p)).1) = nI (ck 0) := h1.1
            have h3 := ck_inj (tok_ok ht) (kOK_of (Or.inl (by omega))) h2
            omega
          rw [a3, show FU - (j - 1) = (FU - j - 1) + 1 + 1 by unfold FU; omega, Rs.go, if_neg hk, hst]
          show (if j - 1 = 16384 then Sum.inl (skp n x p) else Rs.go n x sm (FU - j - 1 + 1) (j - 1 + 1) (tok n x (skp n x p)).2 (SRs (tkT n x) bl' fs' X g r)) = _
          rw [if_neg d3, show j - 1 + 1 = j by omega, go_stop ht d hno (fun _ _ h => absurd h hg0), d.at]
  | inr k =>
    rw [e] at hp
    obtain ⟨hk0, s', fs', hr, hR⟩ := hp
    obtain ⟨X, g, r, hs, hb, hsz, hbl2, hok, hk, _⟩ := hR
    subst hs
    have hkm : k + 1 = (cutE n x).length := by
      by_cases c : k + 1 < (cutE n x).length
      · have := hT.last k c
        omega
      · omega
    have hb2 : r = [] ∧ g.k = 0 ∧ g.ip = nI (Tr.rt X) ∧ SV (tkT n x) 1 0 k X := by
      match r, hb with
      | [], hb => exact ⟨rfl, hb.1, hb.2.1, hb.2.2.1⟩
      | _ :: _, hb => exact absurd hb id
    obtain ⟨rfl, hg0, hip, hsv⟩ := hb2
    have hfin : ∀ (p f fu : Nat), Suf n x k f p → Rs.go n x sm (fu + 1) k p (SRs (tkT n x) [] fs' X g []) = .inr (k, (SRs (tkT n x) [] fs' X g []).add 0 0 (-1) g.ip 0) := by
      intro p f fu hs
      have hkd : (tkT n x).tkd k = cutK n x k p := by
        show ((cutE n x).getD k (0, 0, 0)).1 = _
        rw [hs.at]
      have h3 : (tok n x (skp n x p)).1 = 0 := by
        rw [hkd] at hk0
        unfold cutK at hk0
        by_cases c : k = 16384 ∧ (tok n x (skp n x p)).1 ≠ 0
        · rw [if_pos c] at hk0; omega
        · rw [if_neg c] at hk0; exact hk0
      rw [Rs.go, if_pos ⟨by show nI (ck (tok n x (skp n x p)).1) = 0; rw [h3]; rfl, rfl, hg0⟩]
      rfl
    refine ⟨hkm, hk0, X, g, fs', ?_, hsv, hip, by have h : Tr.sz X + 0 ≤ k := hsz; omega⟩
    rcases hr with ⟨a, b⟩ | hr
    · subst a
      rw [← b]
      exact hfin 0 (n + 2) 999999 h0
    · obtain ⟨z, c1, c2, c3⟩ := hr
      obtain ⟨_, c2⟩ := c2
      rw [Nat.sub_zero] at c2
      obtain ⟨s2, p, f, a1, a2, a3⟩ := go_fwd ht (k - 1) 0 0 (n + 2) Rs.init z h0 c2 (by omega) FU (by unfold FU; omega)
      rw [Nat.zero_add] at a1 a2 a3
      subst a2
      rcases a1.next ht with ⟨_, d⟩ | ⟨d1, d2, d3, d4, d5, f', d⟩
      · omega
      · rw [show k - 1 + 1 = k by omega] at d
        have hst : s2.step (Rs.tk n x p) sm = some (SRs (tkT n x) [] fs' X g []) := by
          rw [a1.tk d2]; exact c3
        have hk : ¬ ((Rs.tk n x p).k = 0 ∧ s2.mode = 0 ∧ s2.top.k = 0) := by
          intro h1
          have h2 : nI (ck (tok n x (skp n x p)).1) = nI (ck 0) := h1.1
          have h3 := ck_inj (tok_ok ht) (kOK_of (Or.inl (by omega))) h2
          omega
        rw [a3, show FU - (k - 1) = (FU - k - 1) + 1 + 1 by unfold FU; omega, Rs.go, if_neg hk, hst]
        show (if k - 1 = 16384 then Sum.inl (skp n x p) else Rs.go n x sm (FU - k - 1 + 1) (k - 1 + 1) (tok n x (skp n x p)).2 (SRs (tkT n x) [] fs' X g [])) = _
        rw [if_neg d3, show k - 1 + 1 = k by omega]
        exact hfin _ _ _ d
end Tx
end
