section
theorem tE_ge {K : Nat → Nat} : ∀ (fu n k : Nat), match tE K fu n k with | .inl e => k ≤ e | .inr c => k ≤ c
  | 0, n, k => Nat.le_refl k
  | fu + 1, n, k => by
    rw [tE]
    by_cases a : K k ≠ 2 ∧ K k ≠ 49
    · rw [if_pos a]; exact Nat.le_refl k
    · rw [if_neg a]
      by_cases b : K (k + 1) = 53
      · rw [if_pos b]
        by_cases c : K (k + 2) = 56
        · rw [if_pos c]; exact Nat.le_succ k
        · rw [if_neg c]; exact Nat.le_add_right k 2
      · rw [if_neg b]
        by_cases c : K (k + 1) = 54
        · rw [if_pos c]
          by_cases d : n = 8
          · rw [if_pos d]; exact Nat.le_succ k
          · rw [if_neg d]
            have := tE_ge (K := K) fu (n + 1) (k + 2)
            cases e : tE K fu (n + 1) (k + 2) with
            | inl e2 => rw [e] at this; exact Nat.le_trans (Nat.le_add_right k 2) this
            | inr e2 => rw [e] at this; exact Nat.le_trans (Nat.le_add_right k 2) this
        · rw [if_neg c]; exact Nat.le_succ k
theorem tE2_ge {K : Nat → Nat} (fu n q : Nat) : match tE2 K fu n q with | .inl e => q ≤ e | .inr c => q ≤ c := by
  unfold tE2
  by_cases a : K q = 53
  · rw [if_pos a]
    by_cases b : K (q + 1) = 56
    · rw [if_pos b]; exact Nat.le_refl q
    · rw [if_neg b]; exact Nat.le_succ q
  · rw [if_neg a]
    by_cases b : K q = 54
    · rw [if_pos b]
      by_cases c : n = 8
      · rw [if_pos c]; exact Nat.le_refl q
      · rw [if_neg c]
        have := tE_ge (K := K) fu (n + 1) (q + 1)
        cases e : tE K fu (n + 1) (q + 1) with
        | inl e2 => rw [e] at this; exact Nat.le_trans (Nat.le_succ q) this
        | inr e2 => rw [e] at this; exact Nat.le_trans (Nat.le_succ q) this
    · rw [if_neg b]; exact Nat.le_refl q
section Aw
variable {md l sg lp : Int32} {f g : Fm} {r : List Fm} {d : List Nd} {w fn : List Wt} {p v : Int32}
theorem aw_rows1 (h : f.k = 36) (h2 : f.tg = 1) : Rs.afterW (md, l, sg, lp, f, g :: r, d, w, fn) (93, p, v) 0 = some (41, l - 1 - f.sg, 0, lp, g, r, Rs.nadd (Rs.nadd d 37 f.ipl (-1) (f.ip + 1) f.iw) 36 f.pl (-1) (f.pa + 1) f.wd, w, fn) := by
  show (if f.k = 36 then some ((if f.tg ≠ 0 then (41 : Int32) else 34), l - 1 - f.sg, (0 : Int32), lp, g, r, Rs.nadd (Rs.nadd d 37 f.ipl (-1) (f.ip + 1) f.iw) 36 f.pl (-1) (f.pa + 1) f.wd, w, fn) else none) = _
  rw [if_pos h, if_pos (by rw [h2]; decide)]
theorem aw_commaT (h : f.k = 36) (h2 : f.tg = 1) : Rs.afterW (md, l, sg, lp, f, r, d, w, fn) (44, p, v) 0 = some (30, l, sg, lp, (f.s_ip (f.ip + 1)).s_tg (if f.ip + 1 < 8 then 1 else 0), r, d, w, fn) := by
  show (if f.k = 36 then some ((30 : Int32), l, sg, lp, (f.s_ip (f.ip + 1)).s_tg (if f.tg ≠ 0 ∧ f.ip + 1 < 8 then 1 else 0), r, d, w, fn) else _) = _
  rw [if_pos h]
  have e : (if f.tg ≠ 0 ∧ f.ip + 1 < 8 then (1 : Int32) else 0) = if f.ip + 1 < 8 then 1 else 0 := by
    by_cases c : f.ip + 1 < 8
    · rw [if_pos ⟨by rw [h2]; decide, c⟩, if_pos c]
    · rw [if_neg (fun x => c x.2), if_neg c]
  rw [e]
theorem se_41 {t : Tok} (h : t.k ≠ 61) : Rs.settle (41, l, sg, lp, f, r, d, w, fn) t = (34, l, sg, lp, f, r, d, w, fn) := by
  unfold Rs.settle Rs.settle2
  rw [if_neg (show ¬ ((41 : Int32) = 0 ∧ Rs.isWordK t.k = false) from fun x => absurd x.1 (by decide))]
  rw [if_neg (show ¬ (41 : Int32) = 30 by decide), if_neg (show ¬ ((41 : Int32) = 40 ∧ t.k ≠ 40) from fun x => absurd x.1 (by decide)), if_pos (show (41 : Int32) = 41 ∧ t.k ≠ 61 from ⟨rfl, h⟩)]
theorem se_41' {t : Tok} (h : t.k = 61) : Rs.settle (41, l, sg, lp, f, r, d, w, fn) t = (41, l, sg, lp, f, r, d, w, fn) := by
  unfold Rs.settle Rs.settle2
  rw [if_neg (show ¬ ((41 : Int32) = 0 ∧ Rs.isWordK t.k = false) from fun x => absurd x.1 (by decide))]
  rw [if_neg (show ¬ (41 : Int32) = 30 by decide), if_neg (show ¬ ((41 : Int32) = 40 ∧ t.k ≠ 40) from fun x => absurd x.1 (by decide)), if_neg (show ¬ ((41 : Int32) = 41 ∧ t.k ≠ 61) from fun x => x.2 h), if_neg (show ¬ ((41 : Int32) = 42 ∧ t.k ≠ 44 ∧ t.k ≠ 93) from fun x => absurd x.1 (by decide)), if_neg (show ¬ (41 : Int32) = 42 by decide)]
theorem se_42 {t : Tok} (h : t.k ≠ 44) (h2 : t.k ≠ 93) : Rs.settle (42, l, sg, lp, f, r, d, w, fn) t = (31, l, sg, lp, f.s_tg 0, r, d, w, fn) := by
  unfold Rs.settle Rs.settle2
  rw [if_neg (show ¬ ((42 : Int32) = 0 ∧ Rs.isWordK t.k = false) from fun x => absurd x.1 (by decide))]
  rw [if_neg (show ¬ (42 : Int32) = 30 by decide), if_neg (show ¬ ((42 : Int32) = 40 ∧ t.k ≠ 40) from fun x => absurd x.1 (by decide)), if_neg (show ¬ ((42 : Int32) = 41 ∧ t.k ≠ 61) from fun x => absurd x.1 (by decide)), if_pos (show (42 : Int32) = 42 ∧ t.k ≠ 44 ∧ t.k ≠ 93 from ⟨rfl, h, h2⟩)]
/-- a nothing, where only targets can stand -/
theorem se_42' {t : Tok} {w0 : Wt} (h : t.k = 44 ∨ t.k = 93) : Rs.settle (42, l, sg, lp, f, g :: r, d, [w0], fn) t = (21, l - sg, f.sg, lp, ((g.s_k 10).s_sec f.pl).s_ip (f.ip + 1), r, Rs.nadd d 5 w0.pl (-1) 0 1, [], fn) := by
  unfold Rs.settle Rs.settle2
  rw [if_neg (show ¬ ((42 : Int32) = 0 ∧ Rs.isWordK t.k = false) from fun x => absurd x.1 (by decide))]
  rw [if_neg (show ¬ (42 : Int32) = 30 by decide), if_neg (show ¬ ((42 : Int32) = 40 ∧ t.k ≠ 40) from fun x => absurd x.1 (by decide)), if_neg (show ¬ ((42 : Int32) = 41 ∧ t.k ≠ 61) from fun x => absurd x.1 (by decide)), if_neg (show ¬ ((42 : Int32) = 42 ∧ t.k ≠ 44 ∧ t.k ≠ 93) from fun x => h.elim x.2.1 x.2.2), if_pos (show (42 : Int32) = 42 from rfl)]
  rfl
theorem ew_nil {md x : Int32} : Rs.endWaiting (md, l, sg, lp, f, r, d, [], fn) x = (md, l, sg, lp, f, r, d, [], fn) := rfl
theorem st_o93 {sm : Int32 → Int32 → Int32 → Bool} : Rs.stands (34, l, sg, lp, f, r, d, [], fn) (93, p, v) sm = Rs.afterW (34, l, sg, lp, f, r, d, [], fn) (93, p, v) 0 := by
  rw [st_op (by decide), if_pos (show (93 : Int32) = 44 ∨ (93 : Int32) = 93 from Or.inr rfl), ew_nil, show Rs.rankOf 93 = 0 from by decide]
theorem st_o44 {sm : Int32 → Int32 → Int32 → Bool} : Rs.stands (34, l, sg, lp, f, r, d, [], fn) (44, p, v) sm = Rs.afterW (34, l, sg, lp, f, r, d, [], fn) (44, p, v) 0 := by
  rw [st_op (by decide), if_pos (show (44 : Int32) = 44 ∨ (44 : Int32) = 93 from Or.inl rfl), ew_nil, show Rs.rankOf 44 = 0 from by decide]
/-- where no target goes on, it is alike whether one could stand -/
theorem st_tg {sm : Int32 → Int32 → Int32 → Bool} {k : Int32} {f f' : Fm} (h44 : k ≠ 44) (h93 : k ≠ 93) (h : f.s_tg 0 = f'.s_tg 0) : Rs.stands (34, l, sg, lp, f, r, d, w, fn) (k, p, v) sm = Rs.stands (34, l, sg, lp, f', r, d, w, fn) (k, p, v) sm := by
  by_cases c : k = 39
  · subst c
    rw [st_turn, st_turn, h]
  · rw [st_op c, st_op c, if_neg (show ¬ (k = 44 ∨ k = 93) from fun x => x.elim h44 h93), if_neg (show ¬ (k = 44 ∨ k = 93) from fun x => x.elim h44 h93), h]
theorem st_a40 {sm : Int32 → Int32 → Int32 → Bool} {f f' : Fm} (h : f.s_tg 0 = f'.s_tg 0) : Rs.stands (40, l, sg, lp, f, r, d, w, fn) (40, p, v) sm = Rs.stands (40, l, sg, lp, f', r, d, w, fn) (40, p, v) sm := by
  have key : ∀ g : Fm, Rs.stands (40, l, sg, lp, g, r, d, w, fn) (40, p, v) sm = if l < 60 then some (30, l + 1, 0, lp, ((33, Rs.lastN d Nd.pl, Rs.lastN d Nd.wd, p, 0, 0, p, v, sg, nI w.length, 0, 0, 0) : Fm), g.s_tg 0 :: r, d.dropLast, w, fn) else none := fun g => rfl
  rw [key, key, h]
theorem st_not {lv : Nat} {sm : Int32 → Int32 → Int32 → Bool} (h : lv < 60) : Rs.stands (30, nI lv, 0, lp, f, r, d, [], fn) (126, p, v) sm = some (42, nI (lv + 1), 1, lp, f, r, d, [(7, p, -1, v)], fn) := by
  have e : Rs.takeSign (30, nI lv, 0, lp, f, r, d, [], fn) (126, p, v) = some (31, nI (lv + 1), 1, lp, f, r, d, [(7, p, -1, v)], fn) := by
    unfold Rs.takeSign Rs.goDeeper
    rw [if_pos (show nI lv < 60 from nI_lt60 h), ← show nI lv + 1 = nI (lv + 1) from nI_add' lv 1]
    rfl
  show (match Rs.takeSign (30, nI lv, 0, lp, f, r, d, [], fn) (126, p, v) with
    | some s1 => some (s1.goOn 42)
    | none => some _) = _
  rw [e]
  rfl
theorem st_not60 {sm : Int32 → Int32 → Int32 → Bool} : Rs.stands (30, nI 60, 0, lp, f, g :: r, d, [], fn) (126, p, v) sm = some (21, nI 60, f.sg, lp, ((g.s_k 10).s_sec f.pl).s_ip (f.ip + 1), r, Rs.nadd d 5 p (-1) 0 1, [], fn) := rfl
theorem st_rot {sm : Int32 → Int32 → Int32 → Bool} {k : Int32} : Rs.stands (41, l, sg, lp, f, r, d, w, fn) (k, p, v) sm = some (23, l, sg, lp, (((f.s_k 10).s_sec (Rs.lastN d Nd.pl)).s_pl p).s_wd v, r, Rs.nadd d.dropLast.dropLast 2 (Rs.lastN d Nd.pl) (-1) (Rs.lastN d.dropLast Nd.pa) 0, w, fn) := rfl
end Aw
section Stm
variable {T : Tks} {sm : Int32 → Int32 → Int32 → Bool} {m : Nat}
variable {i lv : Nat} {bl fs : List Nat} {X : Tr Lb} {f : Fm} {r : List Fm}
/-- a turn that fails does so at a token -/
theorem step_lt (hT : TkOK T m) {w fr bh co k lv j : Nat} {op : List Ent} (hI : Mx.MI m T.tkd w fr bh co k lv op) (e : Mx.step T.tkd (w, fr, bh, co, k, lv, op) = .inl j) : j < m := by
  have hres := RE17 hT.kd (n2 := 27) (b2 := fun i => nI (rkL.getD i 0)) ⟨rfl, fun _ _ => rfl⟩ (q1 := 0) (q2 := 0) (q3 := 0) (q4 := 0) (q5 := 0) (q6 := 0) (q7 := 0) (bad := 0) (fu := 0) (N := 600) (b := fun i => (Mx.flat op).getD i 0) hI ⟨by rw [Mx.flat_len]; have := hI.sum; have := hI.lv'; omega, by omega, by omega, fun i hi => by
    show (Mx.flat op).getD i 0 = _
    rw [List.getD_eq_getElem?_getD, List.getElem?_eq_getElem hi]; rfl⟩ (Nat.le_refl _)
  rw [e] at hres
  exact hres.1
/-- two states that stand alike from the next token on -/
theorem tr2 {k n : Nat} {s s0 s1 s01 s' : Rs} (h1 : Rs.nx T sm k s = some s1) (h2 : Rs.nx T sm k s0 = some s01) (heq : s1.stands (tokC T (k + 1)) sm = s01.stands (tokC T (k + 1)) sm) (hn : 2 ≤ n) (h : Rs.nxs T sm n k s0 = some s') : Rs.nxs T sm n k s = some s' := by
  match n, hn, h with
  | n + 2, _, h =>
    have e1 : Rs.nxs T sm (n + 2) k s = (Rs.nx T sm k s).bind fun z => (Rs.nx T sm (k + 1) z).bind (Rs.nxs T sm n (k + 1 + 1)) := rfl
    have e2 : Rs.nxs T sm (n + 2) k s0 = (Rs.nx T sm k s0).bind fun z => (Rs.nx T sm (k + 1) z).bind (Rs.nxs T sm n (k + 1 + 1)) := rfl
    rw [e2, h2, Option.bind_some] at h
    rw [e1, h1, Option.bind_some]
    have e : Rs.nx T sm (k + 1) s1 = Rs.nx T sm (k + 1) s01 := by unfold Rs.nx; rw [heq]
    rw [e]
    exact h
theorem nx_of {k : Nat} {s s1 : Rs} (h : s.stands (tokC T k) sm = some s1) : Rs.nx T sm k s = some (s1.settle (tokC T (k + 1))) := by
  unfold Rs.nx; rw [h]; rfl
end Stm
end

section
theorem Mx.opn_ge {K : Nat → Nat} {fr co lv c a : Nat} {op : List Ent} : match Mx.opn K fr co lv op c a with | .inl j => a ≤ j | .inr (b, mx) => b = false ∧ a + 1 ≤ mx.ix := by
  unfold Mx.opn
  by_cases h1 : lv = 60
  · rw [if_pos h1]; exact Nat.le_refl a
  · rw [if_neg h1]
    by_cases h2 : (c = 52 ∧ K (a + 1) = 53) ∨ (c = 2 ∧ K (a + 1) = 51)
    · rw [if_pos h2]; exact ⟨rfl, Nat.le_refl _⟩
    · rw [if_neg h2]
      by_cases h3 : c = 2 ∧ K (a + 1) = 38
      · rw [if_pos h3]
        by_cases h4 : K (a + 2) = 54 ∨ K (a + 2) = 51
        · rw [if_pos h4]; exact ⟨rfl, Nat.le_succ _⟩
        · rw [if_neg h4]; exact Nat.le_add_right a 2
      · rw [if_neg h3]; exact ⟨rfl, Nat.le_refl _⟩
section Stm
variable {T : Tks} {sm : Int32 → Int32 → Int32 → Bool} {m : Nat}
variable {i lv : Nat} {bl fs : List Nat} {X : Tr Lb} {f : Fm} {r : List Fm}
/-- behind a name, where targets may still stand -/
def roN (T : Tks) (i lv n : Nat) (bl fs : List Nat) (X N : Tr Lb) (f : Fm) (r : List Fm) (tg : Int32) : Rs := (34, nI (lv + 1), 0, nI (lpN bl), roF T i n tg, fm_0 20 (T.tpl i) (T.twd i) :: f :: r, Tr.pn X ++ Tr.pn N, [], fs.map (fnW T))
theorem roF_tg {n : Nat} {tg : Int32} : (roF T i n tg).s_tg 0 = roF T i n 0 := rfl
/-- the start settled, where a name or a nothing comes -/
theorem ro_set (hT : TkOK T m) {n : Nat} {N : Tr Lb} {ipl iw : Int32} {tg : Int32} (hk : i + 1 + 2 * n < m) (hip : n = 0 ∨ (ipl = T.tpl (i + 1) ∧ iw = T.twd (i + 1))) (h2 : T.tkd (i + 1 + 2 * n) = 2 ∨ T.tkd (i + 1 + 2 * n) = 49) (htg : tg = 0 ∨ tg = 1) :
    (roS T i lv n bl fs X N f r ipl iw tg).settle (tokC T (i + 1 + 2 * n)) = ((if tg = 1 ∧ T.tkd (i + 1 + 2 * n) = 49 then 30 else 31), nI (lv + 1), 0, nI (lpN bl), roF T i n tg, fm_0 20 (T.tpl i) (T.twd i) :: f :: r, Tr.pn X ++ Tr.pn N, [], fs.map (fnW T)) := by
  have hle := hT.le
  unfold roS
  rcases htg with rfl | rfl
  · rw [se_30 (f := (36, T.tpl i, T.twd i, -1, 0, nI n, ipl, iw, 0, 0, 0, 0, 0)) (Or.inl rfl), show (tokC T (i + 1 + 2 * n)).k = nI (ck (T.tkd (i + 1 + 2 * n))) from rfl, tk_mode hT, if_neg (by omega), if_neg (fun x => absurd x.1 (by decide))]
    rw [show seF (36, T.tpl i, T.twd i, -1, 0, nI n, ipl, iw, 0, 0, 0, 0, 0) (tokC T (i + 1 + 2 * n)) = roF T i n 0 from ro_se (by omega) hip]
  · rcases h2 with h2 | h2
    · rw [if_neg (by omega), tokC_of h2]
      have := se_30n (l := nI (lv + 1)) (sg := 0) (lp := nI (lpN bl)) (g := (36, T.tpl i, T.twd i, -1, 0, nI n, ipl, iw, 0, 0, 0, 1, 0)) (rr := fm_0 20 (T.tpl i) (T.twd i) :: f :: r) (d := Tr.pn X ++ Tr.pn N) (w := []) (fn := fs.map (fnW T)) (k := 2) (p := T.tpl (i + 1 + 2 * n)) (v := T.twd (i + 1 + 2 * n)) rfl (Or.inl rfl)
      rw [ro_se (by omega) hip] at this
      exact this
    · rw [if_pos ⟨rfl, h2⟩, tokC_of h2]
      have := se_30n (l := nI (lv + 1)) (sg := 0) (lp := nI (lpN bl)) (g := (36, T.tpl i, T.twd i, -1, 0, nI n, ipl, iw, 0, 0, 0, 1, 0)) (rr := fm_0 20 (T.tpl i) (T.twd i) :: f :: r) (d := Tr.pn X ++ Tr.pn N) (w := []) (fn := fs.map (fnW T)) (k := 126) (p := T.tpl (i + 1 + 2 * n)) (v := T.twd (i + 1 + 2 * n)) rfl (Or.inr rfl)
      rw [ro_se (by omega) hip] at this
      exact this
theorem ro_name (hT : TkOK T m) {n : Nat} {N : Tr Lb} {ipl iw : Int32} {tg : Int32} (hX : Tr.sz X ≤ i) (hk : i + 1 + 2 * n < m) (hN : NmL T false (i + 1) n N) (hip : n = 0 ∨ (ipl = T.tpl (i + 1) ∧ iw = T.twd (i + 1))) (h2 : T.tkd (i + 1 + 2 * n) = 2) (htg : tg = 0 ∨ tg = 1) :
    Rs.stands ((roS T i lv n bl fs X N f r ipl iw tg).settle (tokC T (i + 1 + 2 * n))) (tokC T (i + 1 + 2 * n)) sm = some (40, nI (lv + 1), 0, nI (lpN bl), roF T i n tg, fm_0 20 (T.tpl i) (T.twd i) :: f :: r, Tr.pn X ++ Tr.pn (Tr.app N (Tr.nd (T.lb 32 (i + 1 + 2 * n)) .leaf)), [], fs.map (fnW T)) := by
  have hle := hT.le
  have hNs := hN.sz
  rw [ro_set hT hk hip (Or.inl h2) htg, if_neg (by omega), tokC_of h2]
  refine (st_name (Or.inl rfl)).trans ?_
  rw [nadd_lf (nI (i + 1 + 2 * n)) (by rw [Tr.pn_len]; omega)]
  rfl
/-- behind a name, no targets -/
theorem ro_er (hT : TkOK T m) {n : Nat} {N : Tr Lb} (h52 : T.tkd i = 52) (hX : Tr.sz X ≤ i) (hlv : lv + 1 ≤ 60) (hk : i + 1 + 2 * n < m) (hN : NmL T false (i + 1) n N) (hc : 0 < n → T.tkd (i + 2 * n) = 54) (h2 : T.tkd (i + 1 + 2 * n) = 2) : ER T (roB T i bl fs X f r) i m (0, 0, 0, 0, i + 1 + 2 * n + 1, lv + 1, [(52, 0, 0, 0, 0)]) (roN T i lv n bl fs X (Tr.app N (Tr.nd (T.lb 32 (i + 1 + 2 * n)) .leaf)) f r 0) := by
  have hNs := hN.sz
  have := ER.item (T := T) (B := roB T i bl fs X f r) (a := i) (m := m) (fr := 0) (i := i + 1 + 2 * n) (lv := lv + 1) (c := i + 1 + 2 * n) (op := [(52, 0, 0, 0, 0)]) (es := [roF T i n 0]) (Ws := [[]]) (W := []) (X := N) (Y := .leaf) hT hk hlv (fun g hg => by
    rcases List.mem_cons.mp hg with rfl | hg
    · rfl
    · exact absurd hg List.not_mem_nil) (by omega) (roCH h52 hN hc) ⟨rfl, rfl⟩ (by
    show (Tr.pn X).length + Tr.sz N + 0 + 0 + 1 ≤ i + 1 + 2 * n
    rw [Tr.pn_len]; omega) (k := 32) (Or.inl h2) (VV.leaf ⟨rfl, Or.inl ⟨h2, rfl⟩⟩) (Nat.zero_le _) (bh' := 0)
  exact this
theorem roI1 {n : Nat} (hk : i + 1 + 2 * n + 1 < m) (hlv : lv + 1 ≤ 60) : Mx.MI m T.tkd 0 0 0 0 (i + 1 + 2 * n + 1) (lv + 1) [(52, 0, 0, 0, 0)] :=
  ⟨hk, by omega, fun _ => by omega, by omega, by omega, hlv, by show 1 + 0 + (0 + 0) ≤ lv + 1; omega, fun e he => by
    rcases List.mem_cons.mp he with rfl | he
    · exact ⟨Or.inr (Or.inl rfl), Nat.zero_le _, Nat.zero_le _, Nat.zero_le _⟩
    · exact absurd he List.not_mem_nil⟩
theorem ro_step1 {n : Nat} (h2 : T.tkd (i + 1 + 2 * n) = 2) : Mx.step T.tkd (roM i lv n) = if T.tkd (i + 1 + 2 * n + 1) = 50 then Mx.opn T.tkd 0 0 (lv + 1) [(52, 0, 0, 0, 0)] 2 (i + 1 + 2 * n + 1) else .inr (false, (0, 0, 0, 0, i + 1 + 2 * n + 1, lv + 1, [(52, 0, 0, 0, 0)])) := by
  show Mx.wnt T.tkd 0 0 0 (i + 1 + 2 * n) (lv + 1) [(52, 0, 0, 0, 0)] = _
  unfold Mx.wnt
  rw [if_neg (by omega), if_neg (by omega), if_neg (by omega)]
  by_cases c : T.tkd (i + 1 + 2 * n + 1) = 50
  · rw [if_pos ⟨h2, c⟩, if_pos c]
  · rw [if_neg (fun x => c x.2), if_neg c, if_pos (Or.inl h2)]
    rfl
theorem ro_o93 {k : Nat} {n : Nat} {N : Tr Lb} {tg : Int32} (h : T.tkd k = 53) : (roN T i lv n bl fs X N f r tg).stands (tokC T k) sm = Rs.afterW (34, nI (lv + 1), 0, nI (lpN bl), roF T i n tg, fm_0 20 (T.tpl i) (T.twd i) :: f :: r, Tr.pn X ++ Tr.pn N, [], fs.map (fnW T)) (93, T.tpl k, T.twd k) 0 := by
  rw [tokC_of h]
  exact st_o93
theorem ro_o44 {k : Nat} {n : Nat} {N : Tr Lb} {tg : Int32} (h : T.tkd k = 54) : (roN T i lv n bl fs X N f r tg).stands (tokC T k) sm = Rs.afterW (34, nI (lv + 1), 0, nI (lpN bl), roF T i n tg, fm_0 20 (T.tpl i) (T.twd i) :: f :: r, Tr.pn X ++ Tr.pn N, [], fs.map (fnW T)) (44, T.tpl k, T.twd k) 0 := by
  rw [tokC_of h]
  exact st_o44
theorem ro_heq (hT : TkOK T m) {k : Nat} {n : Nat} {N : Tr Lb} (h : T.tkd k ≠ 53) (h2 : T.tkd k ≠ 54) : (roN T i lv n bl fs X N f r 1).stands (tokC T k) sm = (roN T i lv n bl fs X N f r 0).stands (tokC T k) sm := by
  have n44 : nI (ck (T.tkd k)) ≠ (44 : Int32) := tk_ne hT (j := 54) rfl h2
  have n93 : nI (ck (T.tkd k)) ≠ (93 : Int32) := tk_ne hT (j := 53) rfl h
  unfold roN tokC
  rw [st_tg n44 n93 (roF_tg.trans (roF_tg (tg := 0)).symm)]
/-- the draft with the rows' two nodes -/
theorem ro_draft {N' : Tr Lb} {n : Nat} (h : Tr.sz X + Tr.sz N' + 2 < 16385) (hr : Tr.rt N' = n + 1) : Rs.nadd (Rs.nadd (Tr.pn X ++ Tr.pn N') 37 (T.tpl (i + 1)) (-1) (nI n + 1) (T.twd (i + 1))) 36 (T.tpl i) (-1) (0 + 1) (T.twd i) = Tr.pn X ++ Tr.pn (Tr.nd (T.lb 36 i) (Tr.nd (T.lb 37 (i + 1)) N')) := by
  have h1 := nadd_pn2 (D := Tr.pn X) (x := .leaf) (y := N') (k := 37) (pl := T.tpl (i + 1)) (sec := -1) (wd := T.twd (i + 1)) (m := nI n + 1) (nI (i + 1)) (by rw [Tr.pn_len]; simp only [Tr.sz]; omega) (by rw [hr]; exact nI_add' n 1)
  have h2 := nadd_pn2 (D := Tr.pn X) (x := .leaf) (y := Tr.nd (T.lb 37 (i + 1)) N') (k := 36) (pl := T.tpl i) (sec := -1) (wd := T.twd i) (m := 0 + 1) (nI i) (by rw [Tr.pn_len]; simp only [Tr.sz]; omega) rfl
  exact (congrArg (fun z => Rs.nadd z 36 (T.tpl i) (-1) (0 + 1) (T.twd i)) h1).trans h2
end Stm
end
