section
/-- the reference behind targets whose bracket closes at c -/
def stTgt (K : Nat → Nat) (c : Nat) (bl fs : List Nat) : Sum Nat (Nat × List Nat × List Nat) :=
  if K (c + 2) ≠ 2 then .inl (c + 2)
  else if K (c + 3) ≠ 50 then .inl (c + 3)
  else if K (c + 4) = 51 then (if K (c + 5) = 55 then .inr (c + 6, bl, fs) else .inl (c + 5))
  else match rdSev K FU 0 (c + 4) (bl.length + 1) with
    | .inl j => .inl j
    | .inr (j, _) => if K j = 51 then (if K (j + 1) = 55 then .inr (j + 2, bl, fs) else .inl (j + 1)) else .inl j
/-- the reference's reading of a statement that begins with a bracket of rows -/
def stRows (K : Nat → Nat) (i : Nat) (bl fs : List Nat) : Sum Nat (Nat × List Nat × List Nat) :=
  if bl.length = 60 then .inl i
  else match tE K 9 1 (i + 1) with
    | .inr c => stTgt K c bl fs
    | .inl e => match stWork K i bl fs with
      | .inl j => .inl (max j e)
      | .inr x => .inr x
section St
variable {l lp : Int32} {f g : Fm} {r : List Fm} {d : List Nd} {fn : List Wt} {p v : Int32} {sm : Int32 → Int32 → Int32 → Bool}
theorem st_23 : Rs.stands (23, l, 0, lp, f, r, d, [], fn) (2, p, v) sm = some (24, l, 0, lp, fm_0 52 p v, f :: r, d, [], fn) := rfl
theorem st_23no {k : Int32} (h : k ≠ 2) : Rs.stands (23, l, 0, lp, f, r, d, [], fn) (k, p, v) sm = none := by
  show (if k = 2 then _ else none) = none
  rw [if_neg h]
theorem st_24 {lv : Nat} (h : lv < 60) : Rs.stands (24, nI lv, 0, lp, f, r, d, [], fn) (40, p, v) sm = some (30, nI (lv + 1), 0, lp, f.s_sec p, r, d, [], fn) := by
  show (if nI lv < 60 then some ((30 : Int32), nI lv + 1, (0 : Int32), lp, f.s_sec p, r, d, ([] : List Wt), fn) else none) = _
  rw [if_pos (nI_lt60 h), show nI lv + 1 = nI (lv + 1) from nI_add' lv 1]
theorem st_24no {k : Int32} (h : k ≠ 40) : Rs.stands (24, l, 0, lp, f, r, d, [], fn) (k, p, v) sm = none := by
  show (if k = 40 then _ else none) = none
  rw [if_neg h]
theorem st_25 : Rs.stands (25, l, 0, lp, f, g :: r, d, [], fn) (59, p, v) sm = some (0, l, f.sg, lp, g.s_ip (g.ip + 1), r, Rs.nadd d 10 f.pl f.sec 2 f.wd, [], fn) := rfl
theorem st_25no {k : Int32} (h : k ≠ 59) : Rs.stands (25, l, 0, lp, f, r, d, [], fn) (k, p, v) sm = none := by
  show (if k = 59 then _ else none) = none
  rw [if_neg h]
theorem st_emp52 {sg : Int32} (h : f.k = 52) (h2 : f.pa = 0) : Rs.stands (30, l, sg, lp, f, g :: r, d, [], fn) (41, p, v) sm = some (25, l - 1 - f.sg, 0, lp, g, r, Rs.nadd d 33 f.pl f.sec 0 f.wd, [], fn) := by
  show (if Rs.isCallK f.k = true then (if f.pa = 0 then some ((if f.k = 52 then (25 : Int32) else 34), l - 1 - f.sg, (0 : Int32), lp, g, r, Rs.nadd d 33 f.pl f.sec f.pa f.wd, ([] : List Wt), fn) else none) else none) = _
  rw [if_pos (by rw [h]; rfl), if_pos h2, if_pos h, h2]
theorem aw_52 {md sg : Int32} {w : List Wt} (h : f.k = 52) : Rs.afterW (md, l, sg, lp, f, g :: r, d, w, fn) (41, p, v) 0 = some (25, l - 1 - f.sg, 0, lp, g, r, Rs.nadd d 33 f.pl f.sec (f.pa + 1) f.wd, w, fn) := by
  show (if f.k = 33 then _ else if f.k = 50 then _ else if f.k = 51 then _ else if f.k = 52 then some ((if f.k = 52 then (25 : Int32) else 34), l - 1 - f.sg, (0 : Int32), lp, g, r, Rs.nadd d 33 f.pl f.sec (f.pa + 1) f.wd, w, fn) else none) = _
  rw [if_neg (by rw [h]; decide), if_neg (by rw [h]; decide), if_neg (by rw [h]; decide), if_pos h, if_pos h]
end St
section Stm
variable {T : Tks} {sm : Int32 → Int32 → Int32 → Bool} {m : Nat}
variable {i : Nat} {bl fs : List Nat} {X : Tr Lb} {f : Fm} {r : List Fm}
/-- the end of a statement with targets -/
theorem tgt_end (hT : TkOK T m) {n c j : Nat} {N l2 : Tr Lb} {ip : Int32} (hb : BI T (f :: r) bl i X) (hsz : Tr.sz X + bl.length ≤ i) (hbl : bl.length ≤ 60) (hok : BlOK bl) (hf : fs.length ≤ i) (hf2 : ∀ q ∈ fs, q < i) (h52 : T.tkd i = 52) (hn0 : 0 < n) (hN : NmL T true (i + 1) n N) (hc : c = i + 2 * n) (h53 : T.tkd c = 53) (h56 : T.tkd (c + 1) = 56) (h2 : T.tkd (c + 2) = 2) (h50 : T.tkd (c + 3) = 50) (hl : (j = c + 4 ∧ l2 = .leaf) ∨ VV T 2 0 (c + 4) j l2) (h51 : T.tkd j = 51) (hj : j + 1 < m) :
    StR' T sm m (j + 1) (25, nI bl.length, 0, nI (lpN bl), svF T i (T.tpl (c + 1)) (T.twd (c + 1)) ip, f :: r, Tr.pn (Tr.app X (Tr.app (Tr.nd (T.nms i) N) (Tr.nd (33, T.tpl (c + 2), T.tpl (c + 3), T.twd (c + 2), nI (c + 2)) l2))), [], fs.map (fnW T)) (if T.tkd (j + 1) = 55 then .inr (j + 2, bl, fs) else .inl (j + 1)) := by
  have hle := hT.le
  have hNs := hN.sz
  have hl2 : Tr.sz l2 + (c + 4) ≤ j := by
    rcases hl with ⟨a1, a2⟩ | a
    · subst a2; simp only [Tr.sz]; omega
    · exact a.szle (by decide)
  by_cases c55 : T.tkd (j + 1) = 55
  · rw [if_pos c55]
    have hj1 : j + 1 + 1 < m := hT.go hj (by omega)
    have s1 : Rs.stands (25, nI bl.length, 0, nI (lpN bl), svF T i (T.tpl (c + 1)) (T.twd (c + 1)) ip, f :: r, Tr.pn (Tr.app X (Tr.app (Tr.nd (T.nms i) N) (Tr.nd (33, T.tpl (c + 2), T.tpl (c + 3), T.twd (c + 2), nI (c + 2)) l2))), [], fs.map (fnW T)) (tokC T (j + 1)) sm = some (SRs T bl fs (Tr.app X (Tr.nd (10, T.tpl (c + 1), T.tpl i, T.twd (c + 1), nI (c + 1)) (Tr.app (Tr.nd (T.nms i) N) (Tr.nd (33, T.tpl (c + 2), T.tpl (c + 3), T.twd (c + 2), nI (c + 2)) l2)))) (f.s_ip (f.ip + 1)) r) := by
      rw [tokC_of c55]
      refine (st_25 (f := svF T i (T.tpl (c + 1)) (T.twd (c + 1)) ip)).trans ?_
      have hn := nadd_pn (x := X) (y := Tr.app (Tr.nd (T.nms i) N) (Tr.nd (33, T.tpl (c + 2), T.tpl (c + 3), T.twd (c + 2), nI (c + 2)) l2)) (k := 10) (pl := T.tpl (c + 1)) (sec := T.tpl i) (wd := T.twd (c + 1)) (nI (c + 1)) (by rw [Tr.sz_app]; simp only [Tr.sz]; omega)
      rw [show nI (Tr.rt (Tr.app (Tr.nd (T.nms i) N) (Tr.nd (33, T.tpl (c + 2), T.tpl (c + 3), T.twd (c + 2), nI (c + 2)) l2))) = (2 : Int32) from by rw [Tr.rt_app]; rfl] at hn
      show some ((0 : Int32), nI bl.length, (0 : Int32), nI (lpN bl), f.s_ip (f.ip + 1), r, Rs.nadd (Tr.pn (Tr.app X (Tr.app (Tr.nd (T.nms i) N) (Tr.nd (33, T.tpl (c + 2), T.tpl (c + 3), T.twd (c + 2), nI (c + 2)) l2)))) 10 (T.tpl (c + 1)) (T.tpl i) 2 (T.twd (c + 1)), ([] : List Wt), fs.map (fnW T)) = _
      rw [hn]
      rfl
    refine ⟨_, GoS.one s1, SR.next hb hsz hbl hok hf hf2 hj1 ?_ rfl ?_⟩
    · exact SV.mk (Or.inr (Or.inr (Or.inr (Or.inr (Or.inl ⟨n, N, c + 1, j, l2, h52, hn0, hN, by rw [← hc]; exact h53, by omega, h56, h2, h50, hl, h51, c55, rfl, rfl⟩)))))
    · simp only [Tr.sz]; rw [Tr.sz_app]; simp only [Tr.sz]; omega
  · rw [if_neg c55]
    exact ⟨hj, FltN.now (st_25no (tk_ne hT (j := 55) rfl c55))⟩
/-- behind the targets -/
theorem tgt_run (hT : TkOK T m) {k c : Nat} {s : Rs} (hb : BI T (f :: r) bl i X) (hsz : Tr.sz X + bl.length ≤ i) (hbl : bl.length < 60) (hok : BlOK bl) (hf : fs.length ≤ i) (hf2 : ∀ q ∈ fs, q < i) (h52 : T.tkd i = 52) (h : TgD T sm m i bl.length k bl fs X f r s c) : StR' T sm m k s (stTgt T.tkd c bl fs) := by
  have hle := hT.le
  obtain ⟨n, N, ip, hn0, hn8, hN, hc, hcm, h53, h56, g⟩ := h
  have hNs := hN.sz
  refine StR'.pre g ?_
  unfold stTgt
  by_cases c2 : T.tkd (c + 2) = 2
  · rw [if_neg (fun x => x c2)]
    have h3 : c + 2 + 1 < m := hT.go hcm (by omega)
    have s1 : Rs.stands (23, nI bl.length, 0, nI (lpN bl), svF T i (T.tpl (c + 1)) (T.twd (c + 1)) ip, f :: r, Tr.pn (Tr.app X (Tr.nd (T.nms i) N)), [], fs.map (fnW T)) (tokC T (c + 2)) sm = some (24, nI bl.length, 0, nI (lpN bl), fm_0 52 (T.tpl (c + 2)) (T.twd (c + 2)), svF T i (T.tpl (c + 1)) (T.twd (c + 1)) ip :: f :: r, Tr.pn (Tr.app X (Tr.nd (T.nms i) N)), [], fs.map (fnW T)) := by
      rw [tokC_of c2]; exact st_23
    have g1 := GoN.one s1
    rw [se_no (md := 24) (by decide)] at g1
    by_cases c3 : T.tkd (c + 3) = 50
    · rw [if_neg (fun x => x c3)]
      have h4 : c + 3 + 1 < m := hT.go h3 (by omega)
      have s2 : Rs.stands (24, nI bl.length, 0, nI (lpN bl), fm_0 52 (T.tpl (c + 2)) (T.twd (c + 2)), svF T i (T.tpl (c + 1)) (T.twd (c + 1)) ip :: f :: r, Tr.pn (Tr.app X (Tr.nd (T.nms i) N)), [], fs.map (fnW T)) (tokC T (c + 3)) sm = some (30, nI (bl.length + 1), 0, nI (lpN bl), (52, T.tpl (c + 2), T.twd (c + 2), T.tpl (c + 3), 0, 0, T.tpl (c + 2), T.twd (c + 2), 0, 0, 0, 0, 0), svF T i (T.tpl (c + 1)) (T.twd (c + 1)) ip :: f :: r, Tr.pn (Tr.app X (Tr.nd (T.nms i) N)), [], fs.map (fnW T)) := by
        rw [tokC_of c3]; exact st_24 hbl
      have g2 := g1.trans (GoN.one s2)
      rw [se_30 (f := (52, T.tpl (c + 2), T.twd (c + 2), T.tpl (c + 3), 0, 0, T.tpl (c + 2), T.twd (c + 2), 0, 0, 0, 0, 0)) (Or.inl rfl), show (tokC T (c + 3 + 1)).k = nI (ck (T.tkd (c + 3 + 1))) from rfl, tk_mode hT, seF_base (show (52 : Int32) ≠ 36 by decide) rfl] at g2
      have g2 : GoN T sm (c + 2) (c + 4) _ ((if T.tkd (c + 4) = 51 ∨ T.tkd (c + 4) = 53 ∨ T.tkd (c + 4) = 38 then 30 else 31), nI (bl.length + 1), 0, nI (lpN bl), (52, T.tpl (c + 2), T.twd (c + 2), T.tpl (c + 3), 0, 0, T.tpl (c + 2), T.twd (c + 2), 0, 0, 0, 0, 0), svF T i (T.tpl (c + 1)) (T.twd (c + 1)) ip :: f :: r, Tr.pn (Tr.app X (Tr.nd (T.nms i) N)), [], fs.map (fnW T)) := g2
      refine StR'.pre g2 ?_
      have hsX : Tr.sz (Tr.app X (Tr.nd (T.nms i) N)) ≤ c + 4 := by rw [Tr.sz_app]; simp only [Tr.sz]; omega
      by_cases c51 : T.tkd (c + 4) = 51
      · rw [if_pos c51, if_pos (Or.inl c51)]
        have h5 : c + 4 + 1 < m := hT.go h4 (by omega)
        have s3 : Rs.stands (30, nI (bl.length + 1), 0, nI (lpN bl), (52, T.tpl (c + 2), T.twd (c + 2), T.tpl (c + 3), 0, 0, T.tpl (c + 2), T.twd (c + 2), 0, 0, 0, 0, 0), svF T i (T.tpl (c + 1)) (T.twd (c + 1)) ip :: f :: r, Tr.pn (Tr.app X (Tr.nd (T.nms i) N)), [], fs.map (fnW T)) (tokC T (c + 4)) sm = some (25, nI bl.length, 0, nI (lpN bl), svF T i (T.tpl (c + 1)) (T.twd (c + 1)) ip, f :: r, Tr.pn (Tr.app X (Tr.app (Tr.nd (T.nms i) N) (Tr.nd (33, T.tpl (c + 2), T.tpl (c + 3), T.twd (c + 2), nI (c + 2)) .leaf))), [], fs.map (fnW T)) := by
          rw [tokC_of c51]
          refine (st_emp52 (f := (52, T.tpl (c + 2), T.twd (c + 2), T.tpl (c + 3), 0, 0, T.tpl (c + 2), T.twd (c + 2), 0, 0, 0, 0, 0)) rfl rfl).trans ?_
          show some ((25 : Int32), nI (bl.length + 1) - 1 - 0, (0 : Int32), nI (lpN bl), svF T i (T.tpl (c + 1)) (T.twd (c + 1)) ip, f :: r, Rs.nadd (Tr.pn (Tr.app X (Tr.nd (T.nms i) N))) 33 (T.tpl (c + 2)) (T.tpl (c + 3)) 0 (T.twd (c + 2)), ([] : List Wt), fs.map (fnW T)) = _
          rw [nI_p1, Int32.sub_zero, nadd_leaf (nI (c + 2)) (by omega), Tr.app_assoc]
        have g3 := GoN.one s3
        rw [se_no (md := 25) (by decide)] at g3
        refine StR'.pre g3 ?_
        exact tgt_end hT hb hsz (by omega) hok hf hf2 h52 hn0 hN hc h53 h56 c2 c3 (Or.inl ⟨rfl, rfl⟩) c51 h5
      · rw [if_neg c51]
        have h1 := sev_run (sm := sm) (lp := nI (lpN bl)) (bs := svF T i (T.tpl (c + 1)) (T.twd (c + 1)) ip :: f :: r) (fn := fs.map (fnW T)) (D0 := Tr.pn (Tr.app X (Tr.nd (T.nms i) N))) (a0 := c + 4) (lv := bl.length + 1) hT (by omega) FU 0 (c + 4) .leaf (52, T.tpl (c + 2), T.twd (c + 2), T.tpl (c + 3), 0, 0, T.tpl (c + 2), T.twd (c + 2), 0, 0, 0, 0, 0) (by unfold FU; omega) h4 rfl rfl rfl (Or.inr (Or.inr rfl)) rfl (by omega) (Or.inl ⟨rfl, rfl, rfl⟩) rfl (by rw [Tr.pn_len]; exact hsX) (fun _ _ => c51)
        have e0 : Bs.st (nI (lpN bl), (52, T.tpl (c + 2), T.twd (c + 2), T.tpl (c + 3), 0, 0, T.tpl (c + 2), T.twd (c + 2), 0, 0, 0, 0, 0), svF T i (T.tpl (c + 1)) (T.twd (c + 1)) ip :: f :: r, Tr.pn (Tr.app X (Tr.nd (T.nms i) N)) ++ Tr.pn .leaf, fs.map (fnW T)) T (if T.tkd (c + 4) = 51 ∨ T.tkd (c + 4) = 53 ∨ T.tkd (c + 4) = 38 then 30 else 31) (bl.length + 1) 0 [] .leaf [] = ((if T.tkd (c + 4) = 51 ∨ T.tkd (c + 4) = 53 ∨ T.tkd (c + 4) = 38 then 30 else 31), nI (bl.length + 1), 0, nI (lpN bl), (52, T.tpl (c + 2), T.twd (c + 2), T.tpl (c + 3), 0, 0, T.tpl (c + 2), T.twd (c + 2), 0, 0, 0, 0, 0), svF T i (T.tpl (c + 1)) (T.twd (c + 1)) ip :: f :: r, Tr.pn (Tr.app X (Tr.nd (T.nms i) N)), [], fs.map (fnW T)) := by
          show (_, _, _, _, _, _, (Tr.pn (Tr.app X (Tr.nd (T.nms i) N)) ++ []) ++ [], ([] : List Wt), _) = _
          rw [List.append_nil, List.append_nil]
          rfl
        rw [e0] at h1
        cases e : rdSev T.tkd FU 0 (c + 4) (bl.length + 1) with
        | inl j => rw [e] at h1; exact h1
        | inr q =>
          obtain ⟨j, lv'⟩ := q
          rw [e] at h1
          obtain ⟨_, hj, hj48, hjr, hj54, n', A', s', hn', hA, hv, hszA, hgo, hst, hmd⟩ := h1
          have hvz := hv.szle (by decide)
          have hvl := hv.lt
          refine StR'.pre hgo ?_
          show StR' T sm m j s' (if T.tkd j = 51 then (if T.tkd (j + 1) = 55 then .inr (j + 2, bl, fs) else .inl (j + 1)) else .inl j)
          by_cases d51 : T.tkd j = 51
          · rw [if_pos d51]
            have h5 : j + 1 < m := hT.go hj (by omega)
            have s3 : s'.stands (tokC T j) sm = some (25, nI bl.length, 0, nI (lpN bl), svF T i (T.tpl (c + 1)) (T.twd (c + 1)) ip, f :: r, Tr.pn (Tr.app X (Tr.app (Tr.nd (T.nms i) N) (Tr.nd (33, T.tpl (c + 2), T.tpl (c + 3), T.twd (c + 2), nI (c + 2)) A'))), [], fs.map (fnW T)) := by
              rw [hst, tokC_of d51]
              refine (aw_52 (f := (52, T.tpl (c + 2), T.twd (c + 2), T.tpl (c + 3), nI n', 0, T.tpl (c + 2), T.twd (c + 2), 0, 0, 0, 0, 0)) rfl).trans ?_
              show some ((25 : Int32), nI (bl.length + 1) - 1 - 0, (0 : Int32), nI (lpN bl), svF T i (T.tpl (c + 1)) (T.twd (c + 1)) ip, f :: r, Rs.nadd (Tr.pn (Tr.app X (Tr.nd (T.nms i) N)) ++ Tr.pn A') 33 (T.tpl (c + 2)) (T.tpl (c + 3)) (nI n' + 1) (T.twd (c + 2)), ([] : List Wt), fs.map (fnW T)) = _
              rw [nI_p1, Int32.sub_zero, ← Tr.pn_app, show nI n' + 1 = nI (Tr.rt A') from by rw [hA]; exact nI_add' n' 1, nadd_pn (nI (c + 2)) (by rw [Tr.sz_app]; simp only [Tr.sz]; omega), Tr.app_assoc]
            have g3 := GoN.one s3
            rw [se_no (md := 25) (by decide)] at g3
            refine StR'.pre g3 ?_
            exact tgt_end hT hb hsz (by omega) hok hf hf2 h52 hn0 hN hc h53 h56 c2 c3 (Or.inr hv) d51 h5
          · rw [if_neg d51]
            refine ⟨hj, FltN.now ?_ (NB.md hmd (by decide))⟩
            rw [hst]
            exact aw_noB (show (52 : Int32) ≠ 33 by decide) (show (52 : Int32) ≠ 50 by decide) (show (52 : Int32) ≠ 36 by decide) (tk_ne hT (j := 38) rfl (rank_colon hjr)) (Or.inl (tk_ne hT (j := 51) rfl d51)) (Or.inl (tk_ne hT (j := 54) rfl hj54)) (Or.inr ⟨show (52 : Int32) ≠ 18 by decide, show (52 : Int32) ≠ 19 by decide, show (52 : Int32) ≠ 20 by decide, show (52 : Int32) ≠ 21 by decide⟩) (Or.inr (show (52 : Int32) ≠ 20 by decide))
    · rw [if_pos c3]
      exact ⟨h3, g1.flt (FltN.now (st_24no (tk_ne hT (j := 50) rfl c3)))⟩
  · rw [if_pos c2]
    exact ⟨hcm, FltN.now (st_23no (tk_ne hT (j := 2) rfl c2))⟩
end Stm
end
