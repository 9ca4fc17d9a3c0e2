section
section Stm
variable {T : Tks} {sm : Int32 → Int32 → Int32 → Bool} {m : Nat}
variable {i lv : Nat} {bl fs : List Nat} {X : Tr Lb} {f : Fm} {r : List Fm}
/-- behind a nothing, where only targets can stand -/
theorem ro_q {fu n : Nat} {N : Tr Lb} {k : Nat} {mx0 : Mx} {s : Rs} {bad : Nat} (hT : TkOK T m) (hX : Tr.sz X ≤ i) (hfu : 7 - n < fu) (hn7 : n ≤ 7) (hk : k = i + 1 + 2 * n) (hk1 : k + 1 < m) (hN : NmL T true (i + 1) (n + 1) N)
    (hg : GoN T sm k (k + 1) s (21, nI (lv + 1), 0, nI (lpN bl), svF T i (T.tpl i) (T.twd i) (nI (n + 1)), f :: r, Tr.pn X ++ Tr.pn N, [], fs.map (fnW T)))
    (hbad : ∀ fu, m - k < fu → Mx.run T.tkd fu mx0 = .inl bad) (hb : bad ≤ k + 1) :
    RoO T sm m i lv k bl fs X f r mx0 s (tE2 T.tkd fu (n + 1) (k + 1)) := by
  have e1 : k + 1 = i + 2 * (n + 1) := by omega
  have h1 := q_run (sm := sm) (lv := lv) (bl := bl) (fs := fs) (f := f) (r := r) hT hX fu (n + 1) N (by omega) (by omega) (by omega) hN (by omega)
  have hge := tE2_ge (K := T.tkd) fu (n + 1) (k + 1)
  rw [← e1] at h1
  cases e : tE2 T.tkd fu (n + 1) (k + 1) with
  | inl e2 =>
    rw [e] at h1 hge
    have hge : k + 1 ≤ e2 := hge
    exact Or.inl ⟨bad, e2, hbad, (Nat.max_eq_right (by omega)).symm, h1.1, hg.flt h1.2⟩
  | inr c =>
    rw [e] at h1
    obtain ⟨n', N', ip, k1, k2, k3, k4, k5, k6, k7, k8⟩ := h1
    exact ⟨n', N', ip, k1, k2, k3, k4, k5, k6, k7, hg.trans k8⟩
theorem ro_step9 {n : Nat} (h2 : T.tkd (i + 1 + 2 * n) = 49) : Mx.step T.tkd (roM i lv n) = if lv + 1 = 60 then .inl (i + 1 + 2 * n) else .inr (false, (1, 1, 0, 0, i + 1 + 2 * n + 1, lv + 1 + 1, [(52, 0, 0, 0, 0)])) := by
  show Mx.wnt T.tkd 0 0 0 (i + 1 + 2 * n) (lv + 1) [(52, 0, 0, 0, 0)] = _
  unfold Mx.wnt
  rw [if_neg (by omega), if_pos ⟨Or.inr (Or.inr h2), rfl⟩]
/-- a nothing, or a sign -/
theorem ro_nt (hT : TkOK T m) {n fu : Nat} {N : Tr Lb} {ipl iw : Int32} (h52 : T.tkd i = 52) (hX : Tr.sz X ≤ i) (hlv : lv + 1 ≤ 60) (hfu : 7 - n < fu + 1) (hk : i + 1 + 2 * n < m) (hn7 : n ≤ 7) (hN : NmL T false (i + 1) n N) (hc : 0 < n → T.tkd (i + 2 * n) = 54) (hip : n = 0 ∨ (ipl = T.tpl (i + 1) ∧ iw = T.twd (i + 1))) (h2 : T.tkd (i + 1 + 2 * n) = 49) (hq : 7 - n < fu) :
    RoO T sm m i lv (i + 1 + 2 * n) bl fs X f r (roM i lv n) ((roS T i lv n bl fs X N f r ipl iw 1).settle (tokC T (i + 1 + 2 * n))) (tE2 T.tkd fu (n + 1) (i + 1 + 2 * n + 1)) := by
  have hle := hT.le
  have hNs := hN.sz
  have hk1 : i + 1 + 2 * n + 1 < m := hT.go hk (by omega)
  have hse := ro_set (lv := lv) (bl := bl) (fs := fs) (X := X) (N := N) (f := f) (r := r) (tg := 1) hT hk hip (Or.inr h2) (Or.inr rfl)
  rw [if_pos ⟨rfl, h2⟩] at hse
  have hN5 : NmL T true (i + 1) (n + 1) (Tr.app N (Tr.nd (5, T.tpl (i + 1 + 2 * n), -1, 1, nI (i + 1 + 2 * n)) .leaf)) := ⟨N, hN.tg, fun h => by rw [show i + 1 + 2 * n - 1 = i + 2 * n by omega]; exact hc h, Or.inr ⟨rfl, h2, rfl⟩⟩
  have hd5 : Rs.nadd (Tr.pn X ++ Tr.pn N) 5 (T.tpl (i + 1 + 2 * n)) (-1) 0 1 = Tr.pn X ++ Tr.pn (Tr.app N (Tr.nd (5, T.tpl (i + 1 + 2 * n), -1, 1, nI (i + 1 + 2 * n)) .leaf)) := nadd_lf (nI (i + 1 + 2 * n)) (by rw [Tr.pn_len]; omega)
  have hst := ro_step9 (lv := lv) h2
  by_cases c60 : lv + 1 = 60
  · rw [if_pos c60] at hst
    have s1 : Rs.stands ((roS T i lv n bl fs X N f r ipl iw 1).settle (tokC T (i + 1 + 2 * n))) (tokC T (i + 1 + 2 * n)) sm = some (21, nI (lv + 1), 0, nI (lpN bl), svF T i (T.tpl i) (T.twd i) (nI (n + 1)), f :: r, Tr.pn X ++ Tr.pn (Tr.app N (Tr.nd (5, T.tpl (i + 1 + 2 * n), -1, 1, nI (i + 1 + 2 * n)) .leaf)), [], fs.map (fnW T)) := by
      rw [hse, tokC_of h2, c60]
      refine (st_not60 (f := roF T i n 1) (g := fm_0 20 (T.tpl i) (T.twd i))).trans ?_
      rw [hd5, ← show nI n + 1 = nI (n + 1) from nI_add' n 1]
      rfl
    have g1 := GoN.one s1
    rw [se_no (md := 21) (by decide)] at g1
    exact ro_q hT hX hq hn7 rfl hk1 hN5 g1 (run1n hst) (by omega)
  · rw [if_neg c60] at hst
    have s1 : Rs.stands ((roS T i lv n bl fs X N f r ipl iw 1).settle (tokC T (i + 1 + 2 * n))) (tokC T (i + 1 + 2 * n)) sm = some (42, nI (lv + 1 + 1), 1, nI (lpN bl), roF T i n 1, fm_0 20 (T.tpl i) (T.twd i) :: f :: r, Tr.pn X ++ Tr.pn N, [(7, T.tpl (i + 1 + 2 * n), -1, T.twd (i + 1 + 2 * n))], fs.map (fnW T)) := by
      rw [hse, tokC_of h2]
      exact st_not (by omega)
    have g1 := GoN.one s1
    have hI := roMI (T := T) (n := n) hk hlv
    by_cases c5 : T.tkd (i + 1 + 2 * n + 1) = 53 ∨ T.tkd (i + 1 + 2 * n + 1) = 54
    · have ht : (tokC T (i + 1 + 2 * n + 1)).k = 44 ∨ (tokC T (i + 1 + 2 * n + 1)).k = 93 := by
        rcases c5 with c | c
        · rw [tokC_of c]; exact Or.inr rfl
        · rw [tokC_of c]; exact Or.inl rfl
      rw [se_42' (f := roF T i n 1) (g := fm_0 20 (T.tpl i) (T.twd i)) ht] at g1
      have e0 : ((21 : Int32), nI (lv + 1 + 1) - 1, (roF T i n 1).sg, nI (lpN bl), (((fm_0 20 (T.tpl i) (T.twd i)).s_k 10).s_sec (roF T i n 1).pl).s_ip ((roF T i n 1).ip + 1), f :: r, Rs.nadd (Tr.pn X ++ Tr.pn N) 5 (Wt.pl (7, T.tpl (i + 1 + 2 * n), -1, T.twd (i + 1 + 2 * n))) (-1) 0 1, ([] : List Wt), fs.map (fnW T)) = (21, nI (lv + 1), 0, nI (lpN bl), svF T i (T.tpl i) (T.twd i) (nI (n + 1)), f :: r, Tr.pn X ++ Tr.pn (Tr.app N (Tr.nd (5, T.tpl (i + 1 + 2 * n), -1, 1, nI (i + 1 + 2 * n)) .leaf)), [], fs.map (fnW T)) := by
        rw [nI_p1, show Wt.pl (7, T.tpl (i + 1 + 2 * n), -1, T.twd (i + 1 + 2 * n)) = T.tpl (i + 1 + 2 * n) from rfl, hd5, ← show nI n + 1 = nI (n + 1) from nI_add' n 1]
        rfl
      rw [e0] at g1
      have hst2 : Mx.step T.tkd (1, 1, 0, 0, i + 1 + 2 * n + 1, lv + 1 + 1, [(52, 0, 0, 0, 0)]) = .inl (i + 1 + 2 * n + 1) := by
        show Mx.wnt T.tkd 1 0 0 (i + 1 + 2 * n + 1) (lv + 1 + 1) [(52, 0, 0, 0, 0)] = _
        unfold Mx.wnt
        rw [if_neg (by omega), if_neg (by omega), if_neg (by omega), if_neg (by omega), if_neg (by omega), if_neg (by omega)]
      refine ro_q hT hX hq hn7 rfl hk1 hN5 g1 (bad := i + 1 + 2 * n + 1) (fun fu2 hf => ?_) (by omega)
      obtain ⟨fu3, a1, a2⟩ := run1 (m := m) hst (show i + 1 + 2 * n < i + 1 + 2 * n + 1 by omega) hk fu2 hf
      rw [a2]
      exact run1n hst2 fu3 a1
    · have n53 : T.tkd (i + 1 + 2 * n + 1) ≠ 53 := fun x => c5 (Or.inl x)
      have n54 : T.tkd (i + 1 + 2 * n + 1) ≠ 54 := fun x => c5 (Or.inr x)
      have e1 : tE2 T.tkd fu (n + 1) (i + 1 + 2 * n + 1) = .inl (i + 1 + 2 * n + 1) := by
        unfold tE2
        rw [if_neg n53, if_neg n54]
      rw [e1]
      rw [se_42 (show (tokC T (i + 1 + 2 * n + 1)).k ≠ 44 from tk_ne hT (j := 54) rfl n54) (show (tokC T (i + 1 + 2 * n + 1)).k ≠ 93 from tk_ne hT (j := 53) rfl n53), roF_tg] at g1
      have hE := ro_start (f := f) (r := r) (bl := bl) (fs := fs) hT h52 hX hlv hk hN hc hip (tg := 0) (Or.inl rfl) (fun h => by rw [show i + 1 = i + 1 + 2 * n by omega]; omega)
      have sim := sim_step (sm := sm) hT (roB.ok h52) hI hE
      have hnx := Mx.nx_step hT.kd hI
      have hlo := Mx.lo_step (K := T.tkd) (roLv (i := i) (lv := lv) (n := n))
      rw [show ((1, 0, 0, 0, i + 1 + 2 * n, lv + 1, [(52, 0, 0, 0, 0)]) : Mx) = roM i lv n from rfl] at sim hnx hlo
      rw [hst] at sim hnx hlo
      obtain ⟨n', s', k1, k2, k3⟩ := sim
      have k1 : i + 1 + 2 * n + 1 = i + 1 + 2 * n + n' := k1
      have : n' = 1 := by omega
      subst this
      have hse0 := ro_set (lv := lv) (bl := bl) (fs := fs) (X := X) (N := N) (f := f) (r := r) (tg := 0) hT hk hip (Or.inr h2) (Or.inl rfl)
      rw [if_neg (fun x => absurd x.1 (by decide))] at hse0
      have s0 : Rs.stands ((roS T i lv n bl fs X N f r ipl iw 0).settle (tokC T (i + 1 + 2 * n))) (tokC T (i + 1 + 2 * n)) sm = some (31, nI (lv + 1 + 1), 1, nI (lpN bl), roF T i n 0, fm_0 20 (T.tpl i) (T.twd i) :: f :: r, Tr.pn X ++ Tr.pn N, [(7, T.tpl (i + 1 + 2 * n), -1, T.twd (i + 1 + 2 * n))], fs.map (fnW T)) := by
        rw [hse0, tokC_of h2]
        exact st_sign (fr := 0) (Or.inr (Or.inr rfl)) (by omega)
      rw [nx_one s0, se_id (Or.inl rfl)] at k2
      have k2 := Option.some.inj k2
      subst k2
      exact Or.inr ⟨(1, 1, 0, 0, i + 1 + 2 * n + 1, lv + 1 + 1, [(52, 0, 0, 0, 0)]), _, Nat.le_refl _, g1, k3, hnx.1, hlo, run1 hst hnx.2 hk⟩
/-- rows that may be targets -/
theorem ro_run (hT : TkOK T m) (h52 : T.tkd i = 52) (hX : Tr.sz X ≤ i) (hlv : lv + 1 ≤ 60) : ∀ (fu n : Nat) (N : Tr Lb) (ipl iw : Int32), 8 - n < fu → n ≤ 7 → i + 1 + 2 * n < m → NmL T false (i + 1) n N → (0 < n → T.tkd (i + 2 * n) = 54) → (n = 0 ∨ (ipl = T.tpl (i + 1) ∧ iw = T.twd (i + 1))) → (n = 0 → T.tkd (i + 1) ≠ 53) → RoO T sm m i lv (i + 1 + 2 * n) bl fs X f r (roM i lv n) ((roS T i lv n bl fs X N f r ipl iw 1).settle (tokC T (i + 1 + 2 * n))) (tE T.tkd fu (n + 1) (i + 1 + 2 * n))
  | 0, n, N, ipl, iw, h, _, _, _, _, _, _ => by omega
  | fu + 1, n, N, ipl, iw, hfu, hn7, hk, hN, hc, hip, h53 => by
    by_cases c2 : T.tkd (i + 1 + 2 * n) = 2
    · rw [tE_eq (Or.inl c2)]
      exact ro_nm hT h52 hX hlv hk hn7 hN hc hip c2 (fun a1 a2 a3 a4 => ro_run hT h52 hX hlv fu (n + 1) _ _ _ (by omega) a1 a2 a4 (fun _ => a3) (Or.inr ⟨rfl, rfl⟩) (fun h => by omega))
    · by_cases c49 : T.tkd (i + 1 + 2 * n) = 49
      · rw [tE_eq (Or.inr c49)]
        exact ro_nt hT h52 hX hlv (by omega) hk hn7 hN hc hip c49 (by omega)
      · rw [tE, if_pos ⟨c2, c49⟩]
        exact Or.inr ⟨roM i lv n, _, Nat.le_refl _, GoN.rfl, ro_start hT h52 hX hlv hk hN hc hip (Or.inr ⟨c2, c49⟩) h53, roMI (T := T) hk hlv, roLv, fun fu hf => ⟨fu, hf, rfl⟩⟩
end Stm
end
