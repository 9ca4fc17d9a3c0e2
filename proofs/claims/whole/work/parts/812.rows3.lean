section
section Stm
variable {T : Tks} {sm : Int32 → Int32 → Int32 → Bool} {m : Nat}
variable {i lv : Nat} {bl fs : List Nat} {X : Tr Lb} {f : Fm} {r : List Fm}
/-- a call begins: it can be no target -/
theorem ro_nm50 (hT : TkOK T m) {n fu : Nat} {N : Tr Lb} {ipl iw : Int32} (h52 : T.tkd i = 52) (hX : Tr.sz X ≤ i) (hlv : lv + 1 ≤ 60) (hk : i + 1 + 2 * n < m) (hN : NmL T false (i + 1) n N) (hc : 0 < n → T.tkd (i + 2 * n) = 54) (hip : n = 0 ∨ (ipl = T.tpl (i + 1) ∧ iw = T.twd (i + 1))) (h2 : T.tkd (i + 1 + 2 * n) = 2) (h50 : T.tkd (i + 1 + 2 * n + 1) = 50) :
    RoO T sm m i lv (i + 1 + 2 * n) bl fs X f r (roM i lv n) ((roS T i lv n bl fs X N f r ipl iw 1).settle (tokC T (i + 1 + 2 * n))) (tE2 T.tkd fu (n + 1) (i + 1 + 2 * n + 1)) := by
  have e1 : tE2 T.tkd fu (n + 1) (i + 1 + 2 * n + 1) = .inl (i + 1 + 2 * n + 1) := by
    unfold tE2
    rw [if_neg (by omega), if_neg (by omega)]
  rw [e1]
  have s1 := ro_name (sm := sm) (lv := lv) (bl := bl) (fs := fs) (f := f) (r := r) hT hX hk hN hip h2 (Or.inr rfl)
  have s0 := ro_name (sm := sm) (lv := lv) (bl := bl) (fs := fs) (f := f) (r := r) hT hX hk hN hip h2 (Or.inl rfl)
  have g1 := nx_of s1
  have g0 := nx_of s0
  rw [se_40' (by rw [tokC_of h50]; rfl)] at g1 g0
  have heq : Rs.stands (40, nI (lv + 1), 0, nI (lpN bl), roF T i n 1, fm_0 20 (T.tpl i) (T.twd i) :: f :: r, Tr.pn X ++ Tr.pn (Tr.app N (Tr.nd (T.lb 32 (i + 1 + 2 * n)) .leaf)), [], fs.map (fnW T)) (tokC T (i + 1 + 2 * n + 1)) sm = Rs.stands (40, nI (lv + 1), 0, nI (lpN bl), roF T i n 0, fm_0 20 (T.tpl i) (T.twd i) :: f :: r, Tr.pn X ++ Tr.pn (Tr.app N (Tr.nd (T.lb 32 (i + 1 + 2 * n)) .leaf)), [], fs.map (fnW T)) (tokC T (i + 1 + 2 * n + 1)) sm := by
    rw [tokC_of h50]
    exact st_a40 (roF_tg.trans (roF_tg (tg := 0)).symm)
  have hE := ro_start (f := f) (r := r) (bl := bl) (fs := fs) hT h52 hX hlv hk hN hc hip (Or.inl rfl) (fun h => by rw [show i + 1 = i + 1 + 2 * n by omega]; omega)
  have hI := roMI (T := T) (n := n) hk hlv
  have sim := sim_step (sm := sm) hT (roB.ok h52) hI hE
  have hnx := Mx.nx_step hT.kd hI
  have hst := ro_step1 (lv := lv) h2
  rw [if_pos h50] at hst
  have hge := Mx.opn_ge (K := T.tkd) (fr := 0) (co := 0) (lv := lv + 1) (c := 2) (a := i + 1 + 2 * n + 1) (op := [(52, 0, 0, 0, 0)])
  have hlo := Mx.lo_step (K := T.tkd) (roLv (i := i) (lv := lv) (n := n))
  rw [show ((1, 0, 0, 0, i + 1 + 2 * n, lv + 1, [(52, 0, 0, 0, 0)]) : Mx) = roM i lv n from rfl] at sim hnx hlo
  rw [← hst] at hge
  cases e : Mx.step T.tkd (roM i lv n) with
  | inl j =>
    rw [e] at sim hge
    have hge : i + 1 + 2 * n + 1 ≤ j := hge
    obtain ⟨n', s', k1, k2, k3, k4⟩ := sim
    refine Or.inl ⟨j, j, run1n e, (Nat.max_eq_left hge).symm, step_lt hT hI e, by omega, ?_⟩
    by_cases c1 : n' = 1
    · subst c1
      have e2 : Rs.nxs T sm 1 (i + 1 + 2 * n) ((roS T i lv n bl fs X N f r ipl iw 0).settle (tokC T (i + 1 + 2 * n))) = (Rs.nx T sm (i + 1 + 2 * n) ((roS T i lv n bl fs X N f r ipl iw 0).settle (tokC T (i + 1 + 2 * n)))).bind some := rfl
      have e3 : Rs.nxs T sm 1 (i + 1 + 2 * n) ((roS T i lv n bl fs X N f r ipl iw 1).settle (tokC T (i + 1 + 2 * n))) = (Rs.nx T sm (i + 1 + 2 * n) ((roS T i lv n bl fs X N f r ipl iw 1).settle (tokC T (i + 1 + 2 * n)))).bind some := rfl
      rw [e2, g0] at k2
      have k2 := Option.some.inj k2
      subst k2
      refine ⟨(40, nI (lv + 1), 0, nI (lpN bl), roF T i n 1, fm_0 20 (T.tpl i) (T.twd i) :: f :: r, Tr.pn X ++ Tr.pn (Tr.app N (Tr.nd (T.lb 32 (i + 1 + 2 * n)) .leaf)), [], fs.map (fnW T)), ?_, ?_, NB.md (k := 40) rfl (by decide)⟩
      · rw [show j - (i + 1 + 2 * n) = 1 by omega, e3, g1]; rfl
      · rw [k1] at k3 ⊢
        rw [heq]; exact k3
    · refine ⟨s', ?_, k3, ?_⟩
      · rw [show j - (i + 1 + 2 * n) = n' by omega]
        exact tr2 g1 g0 heq (by omega) k2
      · rcases k4 with h | h | h
        · omega
        · exact fun x => absurd x h
        · exact NB.md h (by decide)
  | inr p =>
    rw [e] at sim hge hnx hlo
    obtain ⟨b, mx⟩ := p
    obtain ⟨hb, hge⟩ := hge
    subst hb
    obtain ⟨n', s', k1, k2, k3⟩ := sim
    refine Or.inr ⟨mx, s', by omega, ⟨by omega, ?_⟩, k3, hnx.1, hlo, run1 e hnx.2 hk⟩
    rw [show mx.ix - (i + 1 + 2 * n) = n' by omega]
    exact tr2 g1 g0 heq (by omega) k2
/-- a name, where targets may stand -/
theorem ro_nm (hT : TkOK T m) {n fu : Nat} {N : Tr Lb} {ipl iw : Int32} (h52 : T.tkd i = 52) (hX : Tr.sz X ≤ i) (hlv : lv + 1 ≤ 60) (hk : i + 1 + 2 * n < m) (hn7 : n ≤ 7) (hN : NmL T false (i + 1) n N) (hc : 0 < n → T.tkd (i + 2 * n) = 54) (hip : n = 0 ∨ (ipl = T.tpl (i + 1) ∧ iw = T.twd (i + 1))) (h2 : T.tkd (i + 1 + 2 * n) = 2)
    (ih : n + 1 ≤ 7 → i + 1 + 2 * (n + 1) < m → T.tkd (i + 2 * (n + 1)) = 54 → NmL T false (i + 1) (n + 1) (Tr.app N (Tr.nd (T.lb 32 (i + 1 + 2 * n)) .leaf)) → RoO T sm m i lv (i + 1 + 2 * (n + 1)) bl fs X f r (roM i lv (n + 1)) ((roS T i lv (n + 1) bl fs X (Tr.app N (Tr.nd (T.lb 32 (i + 1 + 2 * n)) .leaf)) f r (T.tpl (i + 1)) (T.twd (i + 1)) 1).settle (tokC T (i + 1 + 2 * (n + 1)))) (tE T.tkd fu (n + 1 + 1) (i + 1 + 2 * (n + 1)))) :
    RoO T sm m i lv (i + 1 + 2 * n) bl fs X f r (roM i lv n) ((roS T i lv n bl fs X N f r ipl iw 1).settle (tokC T (i + 1 + 2 * n))) (tE2 T.tkd fu (n + 1) (i + 1 + 2 * n + 1)) := by
  by_cases h50 : T.tkd (i + 1 + 2 * n + 1) = 50
  · exact ro_nm50 hT h52 hX hlv hk hN hc hip h2 h50
  have hle := hT.le
  have hNs := hN.sz
  have hk1 : i + 1 + 2 * n + 1 < m := hT.go hk (by omega)
  have s1 := ro_name (sm := sm) (lv := lv) (bl := bl) (fs := fs) (f := f) (r := r) hT hX hk hN hip h2 (Or.inr rfl)
  have g1 := GoN.one s1
  rw [se_40 (show (tokC T (i + 1 + 2 * n + 1)).k ≠ 40 from tk_ne hT (j := 50) rfl h50), Int32.sub_zero] at g1
  have g1 : GoN T sm (i + 1 + 2 * n) (i + 1 + 2 * n + 1) _ (roN T i lv n bl fs X (Tr.app N (Tr.nd (T.lb 32 (i + 1 + 2 * n)) .leaf)) f r 1) := g1
  have hN1 : NmL T false (i + 1) (n + 1) (Tr.app N (Tr.nd (T.lb 32 (i + 1 + 2 * n)) .leaf)) := ⟨N, hN, fun h => by rw [show i + 1 + 2 * n - 1 = i + 2 * n by omega]; exact hc h, Or.inl ⟨h2, rfl⟩⟩
  have hN1r := hN1.rt
  have hN1s := hN1.sz
  have hE0 := ro_er (f := f) (r := r) (bl := bl) (fs := fs) hT h52 hX hlv hk hN hc h2
  have hI1 := roI1 (T := T) (n := n) hk1 hlv
  have hst := ro_step1 (lv := lv) h2
  rw [if_neg h50] at hst
  have hr1 := run1 (m := m) hst (show i + 1 + 2 * n < i + 1 + 2 * n + 1 by omega) hk
  have hL1 : Mx.Lv lv (0, 0, 0, 0, i + 1 + 2 * n + 1, lv + 1, [(52, 0, 0, 0, 0)]) := ⟨by show lv + 1 = lv + 0 + 1 + (0 + 0); omega, fun _ => rfl⟩
  refine RoO.pre g1 hr1 ?_
  have hb1 : ¬ (T.tkd (i + 1 + 2 * n + 1) = 48 ∧ T.tkd (i + 1 + 2 * n + 1 - 1) ≠ 38) → rkM (T.tkd (i + 1 + 2 * n + 1)) = 0 → Mx.step T.tkd (0, 0, 0, 0, i + 1 + 2 * n + 1, lv + 1, [(52, 0, 0, 0, 0)]) = Mx.inB T.tkd 0 0 (i + 1 + 2 * n + 1) (lv + 1) [(52, 0, 0, 0, 0)] := by
    intro a1 a2
    rw [Mx.step, if_pos rfl, if_neg a1, if_neg (fun x => by omega)]
  unfold tE2
  by_cases c53 : T.tkd (i + 1 + 2 * n + 1) = 53
  · rw [if_pos c53]
    have hk2 : i + 1 + 2 * n + 1 + 1 < m := hT.go hk1 (by omega)
    have sB : (roN T i lv n bl fs X (Tr.app N (Tr.nd (T.lb 32 (i + 1 + 2 * n)) .leaf)) f r 1).stands (tokC T (i + 1 + 2 * n + 1)) sm = some (41, nI lv, 0, nI (lpN bl), fm_0 20 (T.tpl i) (T.twd i), f :: r, Tr.pn X ++ Tr.pn (Tr.nd (T.lb 36 i) (Tr.nd (T.lb 37 (i + 1)) (Tr.app N (Tr.nd (T.lb 32 (i + 1 + 2 * n)) .leaf)))), [], fs.map (fnW T)) := by
      rw [ro_o93 c53]
      refine (aw_rows1 (f := roF T i n 1) rfl rfl).trans ?_
      have := ro_draft (T := T) (i := i) (X := X) (n := n) (N' := Tr.app N (Tr.nd (T.lb 32 (i + 1 + 2 * n)) .leaf)) (by omega) hN1r
      show some ((41 : Int32), nI (lv + 1) - 1 - 0, (0 : Int32), nI (lpN bl), fm_0 20 (T.tpl i) (T.twd i), f :: r, Rs.nadd (Rs.nadd (Tr.pn X ++ Tr.pn (Tr.app N (Tr.nd (T.lb 32 (i + 1 + 2 * n)) .leaf))) 37 (T.tpl (i + 1)) (-1) (nI n + 1) (T.twd (i + 1))) 36 (T.tpl i) (-1) (0 + 1) (T.twd i), ([] : List Wt), fs.map (fnW T)) = _
      rw [this, nI_p1, Int32.sub_zero]
    have g2 := GoN.one sB
    by_cases c56 : T.tkd (i + 1 + 2 * n + 1 + 1) = 56
    · rw [if_pos c56]
      have hk3 : i + 1 + 2 * n + 1 + 1 + 1 < m := hT.go hk2 (by rw [c56]; decide)
      rw [se_41' (by rw [tokC_of c56]; rfl)] at g2
      have sC : Rs.stands (41, nI lv, 0, nI (lpN bl), fm_0 20 (T.tpl i) (T.twd i), f :: r, Tr.pn X ++ Tr.pn (Tr.nd (T.lb 36 i) (Tr.nd (T.lb 37 (i + 1)) (Tr.app N (Tr.nd (T.lb 32 (i + 1 + 2 * n)) .leaf)))), [], fs.map (fnW T)) (tokC T (i + 1 + 2 * n + 1 + 1)) sm = some (23, nI lv, 0, nI (lpN bl), svF T i (T.tpl (i + 1 + 2 * n + 1 + 1)) (T.twd (i + 1 + 2 * n + 1 + 1)) 0, f :: r, Tr.pn (Tr.app X (Tr.nd (T.nms i) (Tr.app N (Tr.nd (T.lb 32 (i + 1 + 2 * n)) .leaf)))), [], fs.map (fnW T)) := by
        generalize hNN : Tr.app N (Tr.nd (T.lb 32 (i + 1 + 2 * n)) .leaf) = N' at hN1r hN1s ⊢
        have ed : Tr.pn X ++ Tr.pn (Tr.nd (T.lb 36 i) (Tr.nd (T.lb 37 (i + 1)) N')) = ((Tr.pn X ++ Tr.pn N') ++ [(T.lb 37 (i + 1)).nd N']) ++ [(T.lb 36 i).nd (Tr.nd (T.lb 37 (i + 1)) N')] := by
          simp only [Tr.pn, List.append_assoc, List.cons_append, List.nil_append]
        have l1 : Rs.lastN (Tr.pn X ++ Tr.pn (Tr.nd (T.lb 36 i) (Tr.nd (T.lb 37 (i + 1)) N'))) Nd.pl = T.tpl i := by
          rw [ed]; unfold Rs.lastN; rw [List.getLast?_concat]; rfl
        have l2 : (Tr.pn X ++ Tr.pn (Tr.nd (T.lb 36 i) (Tr.nd (T.lb 37 (i + 1)) N'))).dropLast = (Tr.pn X ++ Tr.pn N') ++ [(T.lb 37 (i + 1)).nd N'] := by
          rw [ed, List.dropLast_concat]
        have l3 : Rs.lastN ((Tr.pn X ++ Tr.pn N') ++ [(T.lb 37 (i + 1)).nd N']) Nd.pa = nI (Tr.rt N') := by
          unfold Rs.lastN; rw [List.getLast?_concat]; rfl
        unfold tokC
        rw [st_rot, l1, l2, l3, List.dropLast_concat, ← Tr.pn_app, nadd_pn (-1) (by omega)]
        rfl
      have g3 := g2.trans (GoN.one sC)
      rw [se_no (by decide)] at g3
      exact ⟨n + 1, _, 0, by omega, by omega, hN1.tg, by omega, hk3, c53, c56, g3⟩
    · rw [if_neg c56]
      rw [se_41 (show (tokC T (i + 1 + 2 * n + 1 + 1)).k ≠ 61 from tk_ne hT (j := 56) rfl c56)] at g2
      have hrk : rkM (T.tkd (i + 1 + 2 * n + 1)) = 0 := by rw [c53]; rfl
      have hst2 := hb1 (by omega) hrk
      have hin : Mx.inB T.tkd 0 0 (i + 1 + 2 * n + 1) (lv + 1) [(52, 0, 0, 0, 0)] = .inr (false, (0, 0, 0, 0, i + 1 + 2 * n + 1 + 1, lv, [])) := by
        rw [Mx.inB, if_neg (by decide), if_pos rfl, if_pos c53]; rfl
      rw [hin] at hst2
      have sim := sim_step (sm := sm) hT (roB.ok h52) hI1 hE0
      have hnx := Mx.nx_step hT.kd hI1
      rw [hst2] at sim hnx
      obtain ⟨n', s', k1, k2, k3⟩ := sim
      have k1 : i + 1 + 2 * n + 1 + 1 = i + 1 + 2 * n + 1 + n' := k1
      have : n' = 1 := by omega
      subst this
      have sB0 : (roN T i lv n bl fs X (Tr.app N (Tr.nd (T.lb 32 (i + 1 + 2 * n)) .leaf)) f r 0).stands (tokC T (i + 1 + 2 * n + 1)) sm = some (34, nI lv, 0, nI (lpN bl), fm_0 20 (T.tpl i) (T.twd i), f :: r, Tr.pn X ++ Tr.pn (Tr.nd (T.lb 36 i) (Tr.nd (T.lb 37 (i + 1)) (Tr.app N (Tr.nd (T.lb 32 (i + 1 + 2 * n)) .leaf)))), [], fs.map (fnW T)) := by
        rw [ro_o93 c53]
        refine (aw_rows (f := roF T i n 0) rfl rfl).trans ?_
        have := ro_draft (T := T) (i := i) (X := X) (n := n) (N' := Tr.app N (Tr.nd (T.lb 32 (i + 1 + 2 * n)) .leaf)) (by omega) hN1r
        show some ((34 : Int32), nI (lv + 1) - 1 - 0, (0 : Int32), nI (lpN bl), fm_0 20 (T.tpl i) (T.twd i), f :: r, Rs.nadd (Rs.nadd (Tr.pn X ++ Tr.pn (Tr.app N (Tr.nd (T.lb 32 (i + 1 + 2 * n)) .leaf))) 37 (T.tpl (i + 1)) (-1) (nI n + 1) (T.twd (i + 1))) 36 (T.tpl i) (-1) (0 + 1) (T.twd i), ([] : List Wt), fs.map (fnW T)) = _
        rw [this, nI_p1, Int32.sub_zero]
      rw [nx_one sB0, se_id (Or.inr (Or.inr (Or.inr (Or.inl rfl))))] at k2
      have k2 := Option.some.inj k2
      subst k2
      exact Or.inr ⟨(0, 0, 0, 0, i + 1 + 2 * n + 1 + 1, lv, []), _, Nat.le_refl _, g2, k3, hnx.1, ⟨by show lv = lv + 0 + 0 + 0; omega, fun _ => rfl⟩, run1 hst2 hnx.2 hk1⟩
  · rw [if_neg c53]
    by_cases c54 : T.tkd (i + 1 + 2 * n + 1) = 54
    · rw [if_pos c54]
      have hk2 : i + 1 + 2 * n + 1 + 1 < m := hT.go hk1 (by omega)
      have e2 : i + 1 + 2 * (n + 1) = i + 1 + 2 * n + 1 + 1 := by omega
      have sB : (roN T i lv n bl fs X (Tr.app N (Tr.nd (T.lb 32 (i + 1 + 2 * n)) .leaf)) f r 1).stands (tokC T (i + 1 + 2 * n + 1)) sm = some (roS T i lv (n + 1) bl fs X (Tr.app N (Tr.nd (T.lb 32 (i + 1 + 2 * n)) .leaf)) f r (T.tpl (i + 1)) (T.twd (i + 1)) (if n + 1 < 8 then 1 else 0)) := by
        rw [ro_o44 c54]
        refine (aw_commaT (f := roF T i n 1) rfl rfl).trans ?_
        have e8 : (if nI n + 1 < 8 then (1 : Int32) else 0) = if n + 1 < 8 then 1 else 0 := by
          rw [show nI n + 1 = nI (n + 1) from nI_add' n 1, show (8 : Int32) = nI 8 from rfl]
          simp only [nI_lt' (show n + 1 < 2 ^ 31 by omega) (show 8 < 2 ^ 31 by omega)]
        show some ((30 : Int32), nI (lv + 1), (0 : Int32), nI (lpN bl), ((36, T.tpl i, T.twd i, -1, 0, nI n + 1, T.tpl (i + 1), T.twd (i + 1), 0, 0, 0, (if nI n + 1 < 8 then (1 : Int32) else 0), 0) : Fm), fm_0 20 (T.tpl i) (T.twd i) :: f :: r, _, ([] : List Wt), fs.map (fnW T)) = _
        rw [e8, show nI n + 1 = nI (n + 1) from nI_add' n 1]
        rfl
      have g2 := GoN.one sB
      have hrk : rkM (T.tkd (i + 1 + 2 * n + 1)) = 0 := by rw [c54]; rfl
      have hst2 := hb1 (by omega) hrk
      have hin : Mx.inB T.tkd 0 0 (i + 1 + 2 * n + 1) (lv + 1) [(52, 0, 0, 0, 0)] = .inr (false, (1, 0, 0, 0, i + 1 + 2 * n + 1 + 1, lv + 1, [(52, 0, 0, 0, 0)])) := by
        rw [Mx.inB, if_neg (by decide), if_pos rfl, if_neg c53, if_pos ⟨Or.inl c54, by rw [Nat.add_sub_cancel, h2]; decide, by rw [Nat.add_sub_cancel, h2]; decide⟩]
      rw [hin] at hst2
      have hr2 := run1 (m := m) hst2 (show i + 1 + 2 * n + 1 < i + 1 + 2 * n + 1 + 1 by omega) hk1
      by_cases c8 : n + 1 = 8
      · rw [if_pos c8]
        rw [if_neg (by omega)] at g2
        have hE := ro_start (T := T) (n := n + 1) (lv := lv) (tg := 0) (f := f) (r := r) (bl := bl) (fs := fs) hT h52 hX hlv (by omega) hN1 (fun _ => by rw [show i + 2 * (n + 1) = i + 1 + 2 * n + 1 by omega]; exact c54) (Or.inr ⟨rfl, rfl⟩) (Or.inl rfl) (fun h => by omega)
        unfold roM at hE
        rw [e2] at hE
        exact Or.inr ⟨(1, 0, 0, 0, i + 1 + 2 * n + 1 + 1, lv + 1, [(52, 0, 0, 0, 0)]), _, Nat.le_succ _, g2, hE, by have := roMI (T := T) (m := m) (i := i) (lv := lv) (n := n + 1) (by omega) hlv; rw [e2] at this; exact this, by have := roLv (i := i) (lv := lv) (n := n + 1); unfold roM at this; rw [e2] at this; exact this, hr2⟩
      · rw [if_neg c8]
        rw [if_pos (by omega)] at g2
        have h3 := ih (by omega) (by omega) (by rw [show i + 2 * (n + 1) = i + 1 + 2 * n + 1 by omega]; exact c54) hN1
        unfold roM at h3
        rw [e2] at h3
        exact RoO.pre g2 hr2 h3
    · rw [if_neg c54]
      have ht := tr1 (sm := sm) hT (roB.ok h52) (ro_heq hT c53 c54) hI1 hE0 (NB.md (k := 34) rfl (by decide))
      have hlo := Mx.lo_step (K := T.tkd) hL1
      cases e : Mx.step T.tkd (0, 0, 0, 0, i + 1 + 2 * n + 1, lv + 1, [(52, 0, 0, 0, 0)]) with
      | inl j =>
        rw [e] at ht
        exact Or.inl ⟨j, j, run1n e, (Nat.max_eq_left ht.1).symm, step_lt hT hI1 e, ht.2⟩
      | inr p =>
        rw [e] at ht hlo
        obtain ⟨b, mx⟩ := p
        cases b with
        | true => exact absurd (fin_op e).2.1 (List.cons_ne_nil _ _)
        | false =>
          obtain ⟨k1, k2, s', k3, k4⟩ := ht
          exact Or.inr ⟨mx, s', Nat.le_of_lt k1, k3, k4, k2, hlo, run1 e k1 hk1⟩
end Stm
end
