section
section Stm
variable {T : Tks} {sm : Int32 → Int32 → Int32 → Bool} {m : Nat}
variable {i : Nat} {bl fs : List Nat} {X : Tr Lb} {f : Fm} {r : List Fm}
/-- rows that have turned out to be none but rows -/
theorem rows_fin (hT : TkOK T m) {e : Nat} {mx : Mx} {s0 s' : Rs} (hb : BI T (f :: r) bl i X) (hsz : Tr.sz X + bl.length ≤ i) (hbl : bl.length ≤ 60) (hok : BlOK bl) (hf : fs.length ≤ i) (hf2 : ∀ q ∈ fs, q < i) (h52 : T.tkd i = 52) (g : GoN T sm i mx.ix s0 s') (hE : ER T (roB T i bl fs X f r) i m mx s') (hM : Mx.MS m T.tkd mx) (hL : Mx.Lv bl.length mx) (hr : ∃ fu', m - mx.ix < fu' ∧ rdE T.tkd i bl.length = Mx.run T.tkd fu' mx) (he : e ≤ mx.ix) :
    StR' T sm m i s0 (match stWork T.tkd i bl fs with
      | .inl j => .inl (max j e)
      | .inr x => .inr x) := by
  obtain ⟨w, fr, bh, co, k, lv, op⟩ := mx
  obtain ⟨fu', hfu, hr⟩ := hr
  have hfu : m - k < fu' := hfu
  have he : e ≤ k := he
  have h1 := expr_go (sm := sm) hT (roB.ok h52) hM hE (fu := fu') hL hfu
  unfold stWork
  rw [hr]
  cases e2 : Mx.run T.tkd fu' (w, fr, bh, co, k, lv, op) with
  | inl j =>
    rw [e2] at h1
    have : max j e = j := Nat.max_eq_left (Nat.le_trans he h1.2.1)
    show StR' T sm m i s0 (.inl (max j e))
    rw [this]
    exact ⟨h1.1, g.flt h1.2⟩
  | inr q =>
    obtain ⟨j, lv'⟩ := q
    rw [e2] at h1
    obtain ⟨_, hj, hj48, hjr, t, ρ, s2, hv, hsz2, hgo, hst, hmd⟩ := h1
    have h2 := work_end (sm := sm) (fs := fs) hT hb hsz hbl hok hf hf2 (fun x => by unfold wordK at x; omega) hj hjr hv (rdE_13 (hr.trans e2)) hst hmd
    refine StR'.pre (g.trans hgo) ?_
    show StR' T sm m j s2 (match stWk T.tkd i j bl fs with
      | .inl j => .inl (max j e)
      | .inr x => .inr x)
    cases e3 : stWk T.tkd i j bl fs with
    | inl j' =>
      rw [e3] at h2
      have : max j' e = j' := Nat.max_eq_left (Nat.le_trans (Nat.le_trans he hgo.1) h2.2.1)
      show StR' T sm m j s2 (.inl (max j' e))
      rw [this]
      exact h2
    | inr x => rw [e3] at h2; exact h2
theorem stm_rows (hT : TkOK T m) {s : Rs} (hR : SR T m i bl fs s) (hk : T.tkd i = 52) : StR T sm m i s (stRows T.tkd i bl fs) := by
  obtain ⟨X, f, r, hs, hb, hsz, hbl, hok, hi, hf, hf2⟩ := hR
  subst hs
  have hle := hT.le
  have hw : ¬ wordK (T.tkd i) := fun x => by unfold wordK at x; omega
  have hse : (SRs T bl fs X f r).settle (tokC T i) = (31, nI bl.length, 0, nI (lpN bl), fm_0 20 (T.tpl i) (T.twd i), f :: r, Tr.pn X, [], fs.map (fnW T)) := by
    refine (se_alone hT hw).trans ?_
    rw [if_neg (by omega)]
  refine StR'.to ?_
  rw [hse]
  unfold stRows
  by_cases c60 : bl.length = 60
  · rw [if_pos c60]
    refine ⟨hi, FltN.now ?_⟩
    rw [tokC_of hk, c60]
    exact st_rows60 (Or.inl rfl)
  · rw [if_neg c60]
    have hi1 : i + 1 < m := hT.go hi (by omega)
    have hX : Tr.sz X ≤ i := by omega
    have s1 : Rs.stands (31, nI bl.length, 0, nI (lpN bl), fm_0 20 (T.tpl i) (T.twd i), f :: r, Tr.pn X, [], fs.map (fnW T)) (tokC T i) sm = some (roS T i bl.length 0 bl fs X .leaf f r (T.tpl i) (T.twd i) 1) := by
      rw [tokC_of hk]
      refine (st_rows (Or.inl rfl) (by omega)).trans ?_
      unfold itF roS
      rw [if_pos ⟨rfl, rfl, rfl⟩]
      show _ = some (_, _, _, _, _, _, Tr.pn X ++ [], _, _)
      rw [List.append_nil]
      rfl
    have g1 := GoN.one s1
    have hw1 : Mx.step T.tkd (1, 0, 0, 0, i, bl.length, []) = Mx.opn T.tkd 0 0 bl.length [] 52 i := by
      show Mx.wnt T.tkd 0 0 0 i bl.length [] = _
      unfold Mx.wnt
      rw [if_neg (by omega), if_neg (by omega), if_pos (Or.inr hk), hk]
    by_cases c53 : T.tkd (i + 1) = 53
    · have et : tE T.tkd 9 1 (i + 1) = .inl (i + 1) := by
        rw [tE, if_pos (by omega)]
      rw [et]
      have hop : Mx.opn T.tkd 0 0 bl.length [] 52 i = .inr (false, (0, 0, 0, 0, i + 1, bl.length + 1, [(52, 0, 0, 0, 0)])) := by
        unfold Mx.opn
        rw [if_neg c60, if_pos (Or.inl ⟨rfl, c53⟩)]
      have hse2 : (roS T i bl.length 0 bl fs X .leaf f r (T.tpl i) (T.twd i) 1).settle (tokC T (i + 1)) = (roB T i bl fs X f r).st T 30 (bl.length + 1) 0 [roF T i 0 0] .leaf [] := by
        unfold roS
        rw [se_30 (f := (36, T.tpl i, T.twd i, -1, 0, nI 0, T.tpl i, T.twd i, 0, 0, 0, 1, 0)) (Or.inr (fun x => x.elim (tk_ne hT (j := 2) rfl (by omega)) (tk_ne hT (j := 49) rfl (by omega)))), show (tokC T (i + 1)).k = nI (ck (T.tkd (i + 1))) from rfl, tk_mode hT, if_pos (Or.inr (Or.inl c53))]
        rw [show seF (36, T.tpl i, T.twd i, -1, 0, nI 0, T.tpl i, T.twd i, 0, 0, 0, 1, 0) (tokC T (i + 1)) = roF T i 0 0 from ro_se (T := T) (i := i) (n := 0) (by omega) (Or.inl rfl)]
        rfl
      rw [hse2] at g1
      have hE : ER T (roB T i bl fs X f r) i m (0, 0, 0, 0, i + 1, bl.length + 1, [(52, 0, 0, 0, 0)]) ((roB T i bl fs X f r).st T 30 (bl.length + 1) 0 [roF T i 0 0] .leaf []) := by
        refine ⟨[roF T i 0 0], [[]], [], i + 1, .leaf, hi1, by omega, fun g hg => ?_, fun _ _ => by omega, by omega, Or.inr (Or.inr (Or.inr ⟨rfl, rfl, rfl, rfl, roCH (n := 0) hk rfl (fun h => absurd h (by omega)), ?_, rfl, roF T i 0 0, [], rfl, Or.inr ⟨rfl, rfl, rfl, c53, hk⟩⟩))⟩
        · rcases List.mem_cons.mp hg with rfl | hg
          · rfl
          · exact absurd hg List.not_mem_nil
        · show (Tr.pn X).length + 0 + 0 + 1 ≤ i + 1
          rw [Tr.pn_len]; omega
      exact rows_fin (mx := (0, 0, 0, 0, i + 1, bl.length + 1, [(52, 0, 0, 0, 0)])) hT hb hsz hbl hok hf hf2 hk g1 hE ⟨hi1, by omega, fun _ => by omega, by omega, by omega, by omega, by show 1 + 0 + (0 + 0) ≤ bl.length + 1; omega, fun e he => by
        rcases List.mem_cons.mp he with rfl | he
        · exact ⟨Or.inr (Or.inl rfl), Nat.zero_le _, Nat.zero_le _, Nat.zero_le _⟩
        · exact absurd he List.not_mem_nil⟩ ⟨by show bl.length + 1 = bl.length + 0 + 1 + (0 + 0); omega, fun _ => rfl⟩ (run1 (m := m) (hw1.trans hop) (show i < i + 1 by omega) hi FU (by unfold FU; show m - i < _; omega)) (Nat.le_refl _)
    · have hop : Mx.opn T.tkd 0 0 bl.length [] 52 i = .inr (false, roM i bl.length 0) := by
        unfold Mx.opn
        rw [if_neg c60, if_neg (by omega), if_neg (by omega)]
      have h2 := ro_run (sm := sm) (lv := bl.length) (bl := bl) (fs := fs) (f := f) (r := r) hT hk hX (by omega) 9 0 .leaf (T.tpl i) (T.twd i) (by omega) (by omega) hi1 rfl (fun h => absurd h (by omega)) (Or.inl rfl) (fun _ => c53)
      have hr0 := run1 (m := m) (hw1.trans hop) (show i < i + 1 by omega) hi FU (by unfold FU; show m - i < _; omega)
      obtain ⟨fu1, hfu1, hr0⟩ := hr0
      have hr0 : rdE T.tkd i bl.length = Mx.run T.tkd fu1 (roM i bl.length 0) := hr0
      have h2 : RoO T sm m i bl.length (i + 1) bl fs X f r (roM i bl.length 0) ((roS T i bl.length 0 bl fs X .leaf f r (T.tpl i) (T.twd i) 1).settle (tokC T (i + 1))) (tE T.tkd 9 1 (i + 1)) := h2
      cases e : tE T.tkd 9 1 (i + 1) with
      | inr c =>
        rw [e] at h2
        exact StR'.pre g1 (tgt_run hT hb hsz (by omega) hok hf hf2 hk h2)
      | inl e1 =>
        rw [e] at h2
        rcases h2 with ⟨bad, j, k1, k2, k3, k4⟩ | ⟨mx, s', k1, k2, k3, k4, k5, k6⟩
        · have : stWork T.tkd i bl fs = .inl bad := by
            unfold stWork
            rw [hr0, k1 fu1 hfu1]
          rw [this]
          show StR' T sm m i _ (.inl (max bad e1))
          rw [← k2]
          exact ⟨k3, g1.flt k4⟩
        · refine rows_fin hT hb hsz hbl hok hf hf2 hk (g1.trans k2) k3 k4 k5 ?_ k1
          obtain ⟨fu2, a1, a2⟩ := k6 fu1 hfu1
          exact ⟨fu2, a1, hr0.trans a2⟩
end Stm
end
