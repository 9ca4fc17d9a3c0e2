section
theorem a_takeEquals {s : Rs} {t : Tok} {c : Rw} {fa nx : Int32} (h : RV s c) : (∃ s', (s.takeEquals t) = some s' ∧ F_Rd_takeEquals s.mode s.levels s.signs s.loops t.k fa (nI s.draft.length) c.nD c.bD s.top.k s.top.pl s.top.wd s.top.sec s.top.pa s.top.ip s.top.ipl s.top.iw s.top.sg s.top.wb s.top.lim s.top.tg s.top.lb nx t.k t.pl t.wd = some (1, s'.mode, s'.top.k, s'.top.pl, s'.top.wd, s'.top.sec) ∧ RV s' c ∧ s'.levels = s.levels ∧ s'.signs = s.signs ∧ s'.loops = s.loops ∧ s'.rest = s.rest ∧ s'.top.pa = s.top.pa ∧ s'.top.ip = s.top.ip ∧ s'.top.ipl = s.top.ipl ∧ s'.top.iw = s.top.iw ∧ s'.top.sg = s.top.sg ∧ s'.top.wb = s.top.wb ∧ s'.top.lim = s.top.lim ∧ s'.top.tg = s.top.tg ∧ s'.top.lb = s.top.lb ∧ s'.draft = s.draft ∧ s'.wait = s.wait ∧ s'.funs = s.funs) ∨ ((s.takeEquals t) = none ∧ ∃ y1 y2 y3 y4 y5, F_Rd_takeEquals s.mode s.levels s.signs s.loops t.k fa (nI s.draft.length) c.nD c.bD s.top.k s.top.pl s.top.wd s.top.sec s.top.pa s.top.ip s.top.ipl s.top.iw s.top.sg s.top.wb s.top.lim s.top.tg s.top.lb nx t.k t.pl t.wd = some (0, y1, y2, y3, y4, y5) ∧ RVd c s.rest.length) := by
  have l0 : F_Nd_last 0 (nI s.draft.length) c.nD c.bD = some (Rs.lastN s.draft Nd.k) := Nd_lastT h.2.2.1.1 (j := 0) (by omega) (g := Nd.k) (fun _ => rfl)
  have l1 : F_Nd_last 1 (nI s.draft.length) c.nD c.bD = some (Rs.lastN s.draft Nd.pl) := Nd_lastT h.2.2.1.1 (j := 1) (by omega) (g := Nd.pl) (fun _ => rfl)
  have l3 : F_Nd_last 3 (nI s.draft.length) c.nD c.bD = some (Rs.lastN s.draft Nd.pa) := Nd_lastT h.2.2.1.1 (j := 3) (by omega) (g := Nd.pa) (fun _ => rfl)
  have e : F_Rd_takeEquals s.mode s.levels s.signs s.loops t.k fa (nI s.draft.length) c.nD c.bD s.top.k s.top.pl s.top.wd s.top.sec s.top.pa s.top.ip s.top.ipl s.top.iw s.top.sg s.top.wb s.top.lim s.top.tg s.top.lb nx t.k t.pl t.wd = F_Rd_takeEquals_45 s.mode (nI s.draft.length) c.nD c.bD s.top.k s.top.pl s.top.wd s.top.sec t.pl t.wd (Rs.lastN s.draft Nd.pa) (Rs.lastN s.draft Nd.k) (if s.canGive = true then 1 else 0) := by
    unfold F_Rd_takeEquals Rs.canGive
    rw [l0, Option.bind_some, l3, Option.bind_some]
    by_cases a : Rs.lastN s.draft Nd.k = 32
    · rw [if_pos a, if_pos a, if_pos rfl]
    · rw [if_neg a, if_neg a]
      by_cases b : Rs.lastN s.draft Nd.k = 33
      · rw [if_pos b, if_pos b]
        by_cases d : Rs.lastN s.draft Nd.pa < 1
        · rw [if_pos d, if_pos d]; rfl
        · rw [if_neg d, if_neg d]
          by_cases e : 2 < Rs.lastN s.draft Nd.pa
          · rw [if_pos e, if_pos e]; rfl
          · rw [if_neg e, if_neg e, if_pos rfl]
      · rw [if_neg b, if_neg b]; rfl
  rw [e]
  unfold F_Rd_takeEquals_45 Rs.takeEquals
  by_cases a : s.top.k = 20
  · rw [if_pos a, if_pos a]
    by_cases b : s.canGive = true
    · rw [if_pos b, if_pos b, if_neg (show ¬ (1 : Int32) = 0 by decide), l1, Option.bind_some]
      by_cases d : Rs.lastN s.draft Nd.pl = s.top.pl
      · rw [if_pos d, if_pos d]
        exact Or.inl ⟨_, rfl, rfl, h, ⟨rfl, rfl, rfl, rfl, rfl, rfl, rfl, rfl, rfl, rfl, rfl, rfl, rfl, rfl, rfl, rfl⟩⟩
      · rw [if_neg d, if_neg d]
        exact Or.inr ⟨rfl, _, _, _, _, _, rfl, h.dead⟩
    · rw [if_neg b, if_neg b, if_pos rfl]
      exact Or.inr ⟨rfl, _, _, _, _, _, rfl, h.dead⟩
  · rw [if_neg a, if_neg a]
    exact Or.inr ⟨rfl, _, _, _, _, _, rfl, h.dead⟩
theorem a_takeSemicolon {s : Rs} {t : Tok} {c : Rw} {fa nx : Int32} (h : RV s c) (hm : Sm s.top.pa) (hm2 : Sm s.top.ip) : (∃ s', s.takeSemicolon = some s' ∧ ∃ fn' cf' nD' bD' k_ sl_, F_Rd_takeSemicolon c.fn s.rest.length c.cf s.mode s.levels s.signs s.loops t.k fa s.top.k s.top.pl s.top.wd s.top.sec s.top.pa s.top.ip s.top.ipl s.top.iw s.top.sg s.top.wb s.top.lim s.top.tg s.top.lb (nI s.draft.length) c.nD c.bD = some ((fn', s'.rest.length, cf', 1, s'.mode, s'.signs, s'.top.k, s'.top.pl, s'.top.wd, s'.top.sec, s'.top.pa, s'.top.ip, s'.top.ipl, s'.top.iw, s'.top.sg, s'.top.wb, s'.top.lim, s'.top.tg, s'.top.lb, nI s'.draft.length, nD', bD'), k_, sl_) ∧ RV s' ((((c.s_fn fn').s_cf cf').s_nD nD').s_bD bD') ∧ Gw c ((((c.s_fn fn').s_cf cf').s_nD nD').s_bD bD') k_ sl_ ∧ s'.levels = s.levels ∧ s'.loops = s.loops ∧ s'.wait = s.wait ∧ s'.funs = s.funs) ∨ (s.takeSemicolon = none ∧ ∃ y0 y1 y2 y4 y5 y6 y7 y8 y9 y10 y11 y12 y13 y14 y15 y16 y17 y18 y19 y20 y21 k_ sl_, F_Rd_takeSemicolon c.fn s.rest.length c.cf s.mode s.levels s.signs s.loops t.k fa s.top.k s.top.pl s.top.wd s.top.sec s.top.pa s.top.ip s.top.ipl s.top.iw s.top.sg s.top.wb s.top.lim s.top.tg s.top.lb (nI s.draft.length) c.nD c.bD = some ((y0, y1, y2, 0, y4, y5, y6, y7, y8, y9, y10, y11, y12, y13, y14, y15, y16, y17, y18, y19, y20, y21), k_, sl_) ∧ RVd ((((c.s_fn y0).s_cf y2).s_nD y20).s_bD y21) y1 ∧ Gw c ((((c.s_fn y0).s_cf y2).s_nD y20).s_bD y21) k_ sl_) := by
  unfold F_Rd_takeSemicolon Rs.takeSemicolon
  by_cases x0 : s.top.k = 18
  · rw [if_pos x0, if_pos x0]
    obtain ⟨fn1, cf1, nD1, bD1, k1, sl1, e1, hv, g1⟩ := a_endPlain h (t := t) (fa := fa) (nx := nx) (p1 := s.top.pa + 1) hm.succ
    exact Or.inl ⟨_, rfl, fn1, cf1, nD1, bD1, _, _, bw_ok (c' := 0) (s' := 0) e1 rfl, hv, g1, ⟨rfl, rfl, rfl, rfl⟩⟩
  · rw [if_neg x0, if_neg x0]
    by_cases x1 : s.top.k = 19
    · rw [if_pos x1, if_pos x1]
      obtain ⟨fn1, cf1, nD1, bD1, k1, sl1, e1, hv, g1⟩ := a_endPlain h (t := t) (fa := fa) (nx := nx) (p1 := s.top.pa + 1) hm.succ
      exact Or.inl ⟨_, rfl, fn1, cf1, nD1, bD1, _, _, bw_ok (c' := 0) (s' := 0) e1 rfl, hv, g1, ⟨rfl, rfl, rfl, rfl⟩⟩
    · rw [if_neg x1, if_neg x1]
      by_cases x2 : s.top.k = 20
      · rw [if_pos x2, if_pos x2]
        obtain ⟨fn1, cf1, nD1, bD1, k1, sl1, e1, hv, g1⟩ := a_endPlain h (t := t) (fa := fa) (nx := nx) (p1 := 1) (by decide)
        exact Or.inl ⟨_, rfl, fn1, cf1, nD1, bD1, _, _, bw_ok (c' := 0) (s' := 0) e1 rfl, hv, g1, ⟨rfl, rfl, rfl, rfl⟩⟩
      · rw [if_neg x2, if_neg x2]
        by_cases x3 : s.top.k = 21
        · rw [if_pos x3, if_pos x3]
          obtain ⟨fn1, cf1, nD1, bD1, k1, sl1, e1, hv, g1⟩ := a_endPlain h (t := t) (fa := fa) (nx := nx) (p1 := 2) (by decide)
          exact Or.inl ⟨_, rfl, fn1, cf1, nD1, bD1, _, _, bw_ok (c' := 0) (s' := 0) e1 rfl, hv, g1, ⟨rfl, rfl, rfl, rfl⟩⟩
        · rw [if_neg x3, if_neg x3]
          by_cases x4 : s.top.k = 36
          · rw [if_pos x4, if_pos x4]
            obtain ⟨nD1, bD1, k1, sl1, e1, hv, g1⟩ := a_endRow h (t := t) (fa := fa) (nx := nx) hm2
            exact Or.inl ⟨_, rfl, c.fn, c.cf, nD1, bD1, _, _, bw_ok (c' := 0) (s' := 0) e1 rfl, hv, g1, ⟨rfl, rfl, rfl, rfl⟩⟩
          · rw [if_neg x4, if_neg x4]
            exact Or.inr ⟨rfl, _, _, _, _, _, _, _, _, _, _, _, _, _, _, _, _, _, _, _, _, _, _, _, rfl, h.dead, Gw.rfl rfl rfl rfl rfl⟩
theorem a_closeBracket {s : Rs} {t : Tok} {c : Rw} {fa nx : Int32} (h : RV s c) (hm : Sm (s.top.pa + 1)) : (∃ s', (s.closeBracket t) = some s' ∧ ∃ fn' cf' nD' bD' k_ sl_, F_Rd_closeBracket c.fn s.rest.length c.cf s.mode s.levels s.signs s.loops t.k fa s.top.k s.top.pl s.top.wd s.top.sec s.top.pa s.top.ip s.top.ipl s.top.iw s.top.sg s.top.wb s.top.lim s.top.tg s.top.lb (nI s.draft.length) c.nD c.bD nx t.k t.pl t.wd = some ((fn', s'.rest.length, cf', 1, s'.mode, s'.levels, s'.signs, s'.top.k, s'.top.pl, s'.top.wd, s'.top.sec, s'.top.pa, s'.top.ip, s'.top.ipl, s'.top.iw, s'.top.sg, s'.top.wb, s'.top.lim, s'.top.tg, s'.top.lb, nI s'.draft.length, nD', bD'), k_, sl_) ∧ RV s' ((((c.s_fn fn').s_cf cf').s_nD nD').s_bD bD') ∧ Gw c ((((c.s_fn fn').s_cf cf').s_nD nD').s_bD bD') k_ sl_ ∧ s'.loops = s.loops ∧ s'.wait = s.wait ∧ s'.funs = s.funs) ∨ ((s.closeBracket t) = none ∧ ∃ y0 y1 y2 y4 y5 y6 y7 y8 y9 y10 y11 y12 y13 y14 y15 y16 y17 y18 y19 y20 y21 y22 k_ sl_, F_Rd_closeBracket c.fn s.rest.length c.cf s.mode s.levels s.signs s.loops t.k fa s.top.k s.top.pl s.top.wd s.top.sec s.top.pa s.top.ip s.top.ipl s.top.iw s.top.sg s.top.wb s.top.lim s.top.tg s.top.lb (nI s.draft.length) c.nD c.bD nx t.k t.pl t.wd = some ((y0, y1, y2, 0, y4, y5, y6, y7, y8, y9, y10, y11, y12, y13, y14, y15, y16, y17, y18, y19, y20, y21, y22), k_, sl_) ∧ RVd ((((c.s_fn y0).s_cf y2).s_nD y21).s_bD y22) y1 ∧ Gw c ((((c.s_fn y0).s_cf y2).s_nD y21).s_bD y22) k_ sl_) := by
  unfold F_Rd_closeBracket Rs.closeBracket
  by_cases x0 : s.top.k = 33
  · rw [if_pos x0, if_pos x0]
    obtain ⟨fn1, cf1, nD1, bD1, k1, sl1, e1, hv, g1⟩ := a_closeCall (s := (s.s_top (s.top.s_pa (s.top.pa + 1)))) h (t := t) (fa := fa) (nx := nx) hm
    exact Or.inl ⟨_, rfl, fn1, cf1, nD1, bD1, _, _, bw_ok (c' := 0) (s' := 0) e1 rfl, hv, g1, ⟨rfl, rfl, rfl⟩⟩
  · rw [if_neg x0, if_neg x0]
    by_cases x1 : s.top.k = 50
    · rw [if_pos x1, if_pos x1]
      obtain ⟨fn1, cf1, e1, hv, g1⟩ := a_closeItem h (t := t) (fa := fa) (nx := nx)
      exact Or.inl ⟨_, rfl, fn1, cf1, c.nD, c.bD, 0, 0, bnd_ok e1 rfl, hv, g1, ⟨rfl, rfl, rfl⟩⟩
    · rw [if_neg x1, if_neg x1]
      by_cases x2 : s.top.k = 51
      · rw [if_pos x2, if_pos x2]
        obtain ⟨fn1, cf1, e1, hv, g1⟩ := a_endHead h (t := t) (fa := fa) (nx := nx)
        exact Or.inl ⟨_, rfl, fn1, cf1, c.nD, c.bD, 0, 0, bnd_ok e1 rfl, hv, g1, ⟨rfl, rfl, rfl⟩⟩
      · rw [if_neg x2, if_neg x2]
        by_cases x3 : s.top.k = 52
        · rw [if_pos x3, if_pos x3]
          obtain ⟨fn1, cf1, nD1, bD1, k1, sl1, e1, hv, g1⟩ := a_closeCall (s := (s.s_top (s.top.s_pa (s.top.pa + 1)))) h (t := t) (fa := fa) (nx := nx) hm
          exact Or.inl ⟨_, rfl, fn1, cf1, nD1, bD1, _, _, bw_ok (c' := 0) (s' := 0) e1 rfl, hv, g1, ⟨rfl, rfl, rfl⟩⟩
        · rw [if_neg x3, if_neg x3]
          exact Or.inr ⟨rfl, _, _, _, _, _, _, _, _, _, _, _, _, _, _, _, _, _, _, _, _, _, _, _, _, rfl, h.dead, Gw.rfl rfl rfl rfl rfl⟩
end

section
theorem nm_ok {α β : Type} {a b : α} {f : α → β} {r : β} (h : a = b) (h2 : f b = r) : nm a f = r := by rw [h]; exact h2
theorem a_takeAtStart {s : Rs} {t : Tok} {c : Rw} {fa nx : Int32} (h : RV s c) (hm : Sm s.top.pa) : (∃ s', (s.takeAtStart t) = some s' ∧ ∃ fn' cf' nD' bD' nW' bW' k_ sl_, F_Rd_takeAtStart c.fn s.rest.length c.cf s.mode s.levels s.signs s.loops t.k fa s.top.k s.top.pl s.top.wd s.top.sec s.top.pa s.top.ip s.top.ipl s.top.iw s.top.sg s.top.wb s.top.lim s.top.tg s.top.lb (nI s.draft.length) c.nD c.bD nx t.k t.pl t.wd (nI s.wait.length) c.nW c.bW = some ((fn', s'.rest.length, cf', 1, s'.mode, s'.levels, s'.signs, s'.top.k, s'.top.pl, s'.top.wd, s'.top.sec, s'.top.pa, s'.top.ip, s'.top.ipl, s'.top.iw, s'.top.sg, s'.top.wb, s'.top.lim, s'.top.tg, s'.top.lb, nI s'.draft.length, nI s'.wait.length, nD', bD', nW', bW'), k_, sl_) ∧ RV s' ((((((c.s_fn fn').s_cf cf').s_nD nD').s_bD bD').s_nW nW').s_bW bW') ∧ Gw c ((((((c.s_fn fn').s_cf cf').s_nD nD').s_bD bD').s_nW nW').s_bW bW') k_ sl_ ∧ s'.loops = s.loops ∧ s'.funs = s.funs) ∨ ((s.takeAtStart t) = none ∧ ∃ y0 y1 y2 y4 y5 y6 y7 y8 y9 y10 y11 y12 y13 y14 y15 y16 y17 y18 y19 y20 y21 y22 y23 y24 y25 k_ sl_, F_Rd_takeAtStart c.fn s.rest.length c.cf s.mode s.levels s.signs s.loops t.k fa s.top.k s.top.pl s.top.wd s.top.sec s.top.pa s.top.ip s.top.ipl s.top.iw s.top.sg s.top.wb s.top.lim s.top.tg s.top.lb (nI s.draft.length) c.nD c.bD nx t.k t.pl t.wd (nI s.wait.length) c.nW c.bW = some ((y0, y1, y2, 0, y4, y5, y6, y7, y8, y9, y10, y11, y12, y13, y14, y15, y16, y17, y18, y19, y20, y21, y22, y23, y24, y25), k_, sl_) ∧ RVd ((((((c.s_fn y0).s_cf y2).s_nD y22).s_bD y23).s_nW y24).s_bW y25) y1 ∧ Gw c ((((((c.s_fn y0).s_cf y2).s_nD y22).s_bD y23).s_nW y24).s_bW y25) k_ sl_) := by
  unfold F_Rd_takeAtStart Rs.takeAtStart
  by_cases x0 : t.k = 41
  · rw [if_pos x0, if_pos x0]
    rw [isCall_eq]
    unfold nm
    dsimp only
    by_cases b : Rs.isCallK s.top.k = true
    · rw [if_pos b, if_pos b, if_neg (show ¬ (1 : Int32) = 0 by decide)]
      by_cases d : s.top.pa = 0
      · rw [if_pos d, if_pos d]
        obtain ⟨fn1, cf1, nD1, bD1, k1, sl1, e1, hv, g1⟩ := a_closeCall h (t := t) (fa := fa) (nx := nx) hm
        exact Or.inl ⟨_, rfl, fn1, cf1, nD1, bD1, c.nW, c.bW, _, _, bw_ok (c' := 0) (s' := 0) e1 rfl, hv, g1, ⟨rfl, rfl⟩⟩
      · rw [if_neg d, if_neg d]
        exact Or.inr ⟨rfl, _, _, _, _, _, _, _, _, _, _, _, _, _, _, _, _, _, _, _, _, _, _, _, _, _, _, _, rfl, h.dead, Gw.rfl rfl rfl rfl rfl⟩
    · rw [if_neg b, if_neg b, if_pos rfl]
      exact Or.inr ⟨rfl, _, _, _, _, _, _, _, _, _, _, _, _, _, _, _, _, _, _, _, _, _, _, _, _, _, _, _, rfl, h.dead, Gw.rfl rfl rfl rfl rfl⟩
  · rw [if_neg x0, if_neg x0]
    by_cases x1 : t.k = 58
    · rw [if_pos x1, if_pos x1]
      by_cases b : s.top.k = 33
      · rw [if_pos b, if_pos b]
        by_cases d : s.top.pa < 2
        · rw [if_pos d, if_neg (i32_nle.mpr d)]
          obtain ⟨nD1, bD1, k1, sl1, e1, hv, g1⟩ := a_addAll h (t := t) (fa := fa) (nx := nx)
          exact Or.inl ⟨_, rfl, c.fn, c.cf, nD1, bD1, c.nW, c.bW, _, _, bw_ok (c' := 0) (s' := 0) e1 rfl, hv, g1, ⟨rfl, rfl⟩⟩
        · rw [if_neg d, if_pos (i32_nlt.mp d)]
          exact Or.inr ⟨rfl, _, _, _, _, _, _, _, _, _, _, _, _, _, _, _, _, _, _, _, _, _, _, _, _, _, _, _, rfl, h.dead, Gw.rfl rfl rfl rfl rfl⟩
      · rw [if_neg b, if_neg b]
        exact Or.inr ⟨rfl, _, _, _, _, _, _, _, _, _, _, _, _, _, _, _, _, _, _, _, _, _, _, _, _, _, _, _, rfl, h.dead, Gw.rfl rfl rfl rfl rfl⟩
    · rw [if_neg x1, if_neg x1]
      by_cases x2 : t.k = 93
      · rw [if_pos x2, if_pos x2]
        by_cases b : s.top.k = 36
        · rw [if_pos b, if_pos b]
          by_cases d : s.top.pa = 0
          · rw [if_pos d, if_pos d]
            by_cases e : s.top.ip = 0
            · rw [if_pos e, if_pos e]
              obtain ⟨fn1, cf1, nD1, bD1, k1, sl1, e1, hv, g1⟩ := a_closeRows h (t := t) (fa := fa) (nx := nx) hm
              exact Or.inl ⟨_, rfl, fn1, cf1, nD1, bD1, c.nW, c.bW, _, _, bw_ok (c' := 0) (s' := 0) e1 rfl, hv, g1, ⟨rfl, rfl⟩⟩
            · rw [if_neg e, if_neg e]
              exact Or.inr ⟨rfl, _, _, _, _, _, _, _, _, _, _, _, _, _, _, _, _, _, _, _, _, _, _, _, _, _, _, _, rfl, h.dead, Gw.rfl rfl rfl rfl rfl⟩
          · rw [if_neg d, if_neg d]
            exact Or.inr ⟨rfl, _, _, _, _, _, _, _, _, _, _, _, _, _, _, _, _, _, _, _, _, _, _, _, _, _, _, _, rfl, h.dead, Gw.rfl rfl rfl rfl rfl⟩
        · rw [if_neg b, if_neg b]
          exact Or.inr ⟨rfl, _, _, _, _, _, _, _, _, _, _, _, _, _, _, _, _, _, _, _, _, _, _, _, _, _, _, _, rfl, h.dead, Gw.rfl rfl rfl rfl rfl⟩
      · rw [if_neg x2, if_neg x2]
        by_cases x3 : t.k = 126
        · rw [if_pos x3, if_pos x3]
          rcases a_takeSign h (t := t) (fa := fa) (nx := nx) with ⟨s', hs, nW1, bW1, k1, sl1, e1, hv, g1, z0, z1, z2, z3, z4⟩ | ⟨hs, y1, y2, y3, y4, y5, y6, k1, sl1, e1, hd, g1⟩
          · rw [hs]
            refine Or.inl ⟨s'.goOn 42, rfl, c.fn, c.cf, c.nD, c.bD, nW1, bW1, _, _, ?_, hv.cg s'.rest s'.draft s'.wait s'.funs rfl rfl rfl rfl rfl rfl rfl rfl, g1, ⟨z0, z4⟩⟩
            refine bw_ok (c' := 0) (s' := 0) e1 ((if_neg (show ¬ (1 : Int32) = 0 by decide)).trans ?_)
            show _ = some ((c.fn, s'.rest.length, c.cf, 1, 42, s'.levels, s'.signs, s'.top.k, s'.top.pl, s'.top.wd, s'.top.sec, s'.top.pa, s'.top.ip, s'.top.ipl, s'.top.iw, s'.top.sg, s'.top.wb, s'.top.lim, s'.top.tg, s'.top.lb, nI s'.draft.length, nI s'.wait.length, c.nD, c.bD, nW1, bW1), 0, 0)
            simp only [z0, z1, z2, z3, z4]
          · have c0 : ¬ s.levels < 60 := by
              intro x
              unfold Rs.takeSign Rs.goDeeper at hs
              rw [if_pos x] at hs
              exact absurd hs (by simp)
            have e0 : F_Rd_takeSign s.mode s.levels s.signs s.loops t.k fa nx t.k t.pl t.wd (nI s.wait.length) c.nW c.bW = some ((0, s.mode, s.levels, s.signs, nI s.wait.length, c.nW, c.bW), 0, 0) := by
              unfold F_Rd_takeSign F_Rd_goDeeper
              rw [if_neg c0]
              rfl
            rw [hs]
            obtain ⟨fn1, cf1, nD1, bD1, k2, sl2, e2, hv2, g2⟩ := a_becomeTargets h (t := t) (p1 := t.pl) (fa := fa) (nx := nx)
            refine Or.inl ⟨_, rfl, fn1, cf1, nD1, bD1, c.nW, c.bW, 0 + (k2 + 0), 0 + (sl2 + 0), ?_, hv2, ?_, ⟨rfl, rfl⟩⟩
            · exact bw_ok e0 ((if_pos rfl).trans (bw_ok (c' := 0) (s' := 0) e2 rfl))
            · rw [Nat.zero_add, Nat.zero_add]; exact g2
        · rw [if_neg x3, if_neg x3]
          exact Or.inr ⟨rfl, _, _, _, _, _, _, _, _, _, _, _, _, _, _, _, _, _, _, _, _, _, _, _, _, _, _, _, rfl, h.dead, Gw.rfl rfl rfl rfl rfl⟩
theorem a_takeOperand {s : Rs} {t : Tok} {c : Rw} {fa nx : Int32} (h : RV s c) : (∃ s', (s.takeOperand t) = some s' ∧ ∃ fn' cf' nD' bD' nW' bW' k_ sl_, F_Rd_takeOperand c.fn s.rest.length c.cf s.mode s.levels s.signs s.loops t.k fa s.top.k s.top.pl s.top.wd s.top.sec s.top.pa s.top.ip s.top.ipl s.top.iw s.top.sg s.top.wb s.top.lim s.top.tg s.top.lb nx t.k t.pl t.wd (nI s.draft.length) c.nD c.bD (nI s.wait.length) c.nW c.bW = some ((fn', s'.rest.length, cf', 1, s'.mode, s'.levels, s'.signs, s'.top.k, s'.top.pl, s'.top.wd, s'.top.sec, s'.top.pa, s'.top.ip, s'.top.ipl, s'.top.iw, s'.top.sg, s'.top.wb, s'.top.lim, s'.top.tg, s'.top.lb, nI s'.draft.length, nI s'.wait.length, nD', bD', nW', bW'), k_, sl_) ∧ RV s' ((((((c.s_fn fn').s_cf cf').s_nD nD').s_bD bD').s_nW nW').s_bW bW') ∧ Gw c ((((((c.s_fn fn').s_cf cf').s_nD nD').s_bD bD').s_nW nW').s_bW bW') k_ sl_ ∧ s'.loops = s.loops ∧ s'.funs = s.funs) ∨ ((s.takeOperand t) = none ∧ ∃ y0 y1 y2 y4 y5 y6 y7 y8 y9 y10 y11 y12 y13 y14 y15 y16 y17 y18 y19 y20 y21 y22 y23 y24 y25 k_ sl_, F_Rd_takeOperand c.fn s.rest.length c.cf s.mode s.levels s.signs s.loops t.k fa s.top.k s.top.pl s.top.wd s.top.sec s.top.pa s.top.ip s.top.ipl s.top.iw s.top.sg s.top.wb s.top.lim s.top.tg s.top.lb nx t.k t.pl t.wd (nI s.draft.length) c.nD c.bD (nI s.wait.length) c.nW c.bW = some ((y0, y1, y2, 0, y4, y5, y6, y7, y8, y9, y10, y11, y12, y13, y14, y15, y16, y17, y18, y19, y20, y21, y22, y23, y24, y25), k_, sl_) ∧ RVd ((((((c.s_fn y0).s_cf y2).s_nD y22).s_bD y23).s_nW y24).s_bW y25) y1 ∧ Gw c ((((((c.s_fn y0).s_cf y2).s_nD y22).s_bD y23).s_nW y24).s_bW y25) k_ sl_) := by
  unfold F_Rd_takeOperand Rs.takeOperand
  by_cases x0 : t.k = 2
  · rw [if_pos x0, if_pos x0]
    obtain ⟨nD1, bD1, k1, sl1, e1, hv, g1⟩ := a_addName h (t := t) (fa := fa) (nx := nx) (p1 := 40)
    exact Or.inl ⟨_, rfl, c.fn, c.cf, nD1, bD1, c.nW, c.bW, _, _, bw_ok (c' := 0) (s' := 0) e1 rfl, hv, g1, ⟨rfl, rfl⟩⟩
  · rw [if_neg x0, if_neg x0]
    by_cases x1 : t.k = 3
    · rw [if_pos x1, if_pos x1]
      obtain ⟨nD1, bD1, k1, sl1, e1, hv, g1⟩ := a_addItem h (t := t) (fa := fa) (nx := nx) (p1 := 30)
      exact Or.inl ⟨_, rfl, c.fn, c.cf, nD1, bD1, c.nW, c.bW, _, _, bw_ok (c' := 0) (s' := 0) e1 rfl, hv, g1, ⟨rfl, rfl⟩⟩
    · rw [if_neg x1, if_neg x1]
      by_cases x2 : t.k = 4
      · rw [if_pos x2, if_pos x2]
        obtain ⟨nD1, bD1, k1, sl1, e1, hv, g1⟩ := a_addItem h (t := t) (fa := fa) (nx := nx) (p1 := 31)
        exact Or.inl ⟨_, rfl, c.fn, c.cf, nD1, bD1, c.nW, c.bW, _, _, bw_ok (c' := 0) (s' := 0) e1 rfl, hv, g1, ⟨rfl, rfl⟩⟩
      · rw [if_neg x2, if_neg x2]
        by_cases x3 : t.k = 8
        · rw [if_pos x3, if_pos x3]
          obtain ⟨cf1, e1, hv1, z1, z2⟩ := a_limit h (t := t) (fa := fa) (nx := nx)
          unfold Rs.endArg
          by_cases b : (Rs.limit s.top s.rest).1 = true
          · rw [if_pos b] at e1 ⊢
            obtain ⟨nD1, bD1, k2, sl2, e2, hv2, g2⟩ := a_addItem hv1 (t := t) (p1 := 35) (fa := fa) (nx := nx)
            refine Or.inl ⟨_, rfl, c.fn, cf1, nD1, bD1, c.nW, c.bW, k2 + 0, sl2 + 0, ?_, hv2, g2, ⟨rfl, rfl⟩⟩
            refine bnd_ok e1 ((if_neg (show ¬ (1 : Int32) = 0 by decide)).trans (bw_ok (c' := 0) (s' := 0) e2 ?_))
            have q1 : (((s.s_top (Rs.limit s.top s.rest).2.1).s_rest (Rs.limit s.top s.rest).2.2).addItem t 35).rest.length = s.rest.length := z2
            have q2 : (((s.s_top (Rs.limit s.top s.rest).2.1).s_rest (Rs.limit s.top s.rest).2.2).addItem t 35).top = s.top.s_lim (Rs.limit s.top s.rest).2.1.lim := z1
            rw [q1, q2]
            rfl
          · rw [if_neg b] at e1 ⊢
            refine Or.inr ⟨rfl, _, _, _, _, _, _, _, _, _, _, _, _, _, _, _, _, _, _, _, _, _, _, _, _, _, 0, 0, bnd_ok e1 ((if_pos rfl).trans rfl), ?_, Gw.rfl rfl rfl rfl rfl⟩
            exact h.dead
        · rw [if_neg x3, if_neg x3]
          by_cases x4 : t.k = 40
          · rw [if_pos x4, if_pos x4]
            unfold Rs.openI F_Rd_goDeeper
            by_cases b : s.levels < 60
            · rw [if_pos b, if_pos b]
              unfold nm
              dsimp only
              rw [if_neg (show ¬ (1 : Int32) = 0 by decide)]
              obtain ⟨fn1, cf1, k1, sl1, e1, hv, g1⟩ := a_openItem (s := (s.s_levels (s.levels + 1))) h (t := t) (fa := fa) (nx := nx) (p1 := 50)
              exact Or.inl ⟨_, rfl, fn1, cf1, c.nD, c.bD, c.nW, c.bW, _, _, bw_ok (c' := 0) (s' := 0) e1 rfl, hv, g1, ⟨rfl, rfl⟩⟩
            · rw [if_neg b, if_neg b]
              unfold nm
              dsimp only
              rw [if_pos rfl]
              exact Or.inr ⟨rfl, _, _, _, _, _, _, _, _, _, _, _, _, _, _, _, _, _, _, _, _, _, _, _, _, _, _, _, rfl, h.dead, Gw.rfl rfl rfl rfl rfl⟩
          · rw [if_neg x4, if_neg x4]
            by_cases x5 : t.k = 43
            · rw [if_pos x5, if_pos x5]
              unfold Rs.sign
              by_cases b : s.mode = 31
              · rw [if_pos b, if_pos b]
                rcases a_takeSign h (t := t) (fa := fa) (nx := nx) with ⟨s', hs, nW1, bW1, k1, sl1, e1, hv, g1, z0, z1, z2, z3, z4⟩ | ⟨hs, y1, y2, y3, y4, y5, y6, k1, sl1, e1, hd, g1⟩
                · refine Or.inl ⟨s', hs, c.fn, c.cf, c.nD, c.bD, nW1, bW1, _, _, ?_, hv, g1, ⟨z0, z4⟩⟩
                  simp only [z0, z1, z2, z3, z4]
                  exact bw_ok (c' := 0) (s' := 0) e1 rfl
                · exact Or.inr ⟨hs, _, _, _, _, _, _, _, _, _, _, _, _, _, _, _, _, _, _, _, _, _, _, _, _, _, _, _, bw_ok (c' := 0) (s' := 0) e1 rfl, hd, g1⟩
              · rw [if_neg b, if_neg b]
                rcases a_takePowerSign h (t := t) (fa := fa) (nx := nx) with ⟨s', hs, nW1, bW1, k1, sl1, e1, hv, g1, z0, z1, z2, z3, z4, z5, z6⟩ | ⟨hs, y1, y2, y3, y4, k1, sl1, e1, hd, g1⟩
                · refine Or.inl ⟨s', hs, c.fn, c.cf, c.nD, c.bD, nW1, bW1, _, _, ?_, hv, g1, ⟨z2, z6⟩⟩
                  simp only [z0, z1, z2, z3, z4, z5, z6]
                  exact bw_ok (c' := 0) (s' := 0) e1 rfl
                · exact Or.inr ⟨hs, _, _, _, _, _, _, _, _, _, _, _, _, _, _, _, _, _, _, _, _, _, _, _, _, _, _, _, bw_ok (c' := 0) (s' := 0) e1 rfl, hd, g1⟩
            · rw [if_neg x5, if_neg x5]
              by_cases x6 : t.k = 45
              · rw [if_pos x6, if_pos x6]
                unfold Rs.sign
                by_cases b : s.mode = 31
                · rw [if_pos b, if_pos b]
                  rcases a_takeSign h (t := t) (fa := fa) (nx := nx) with ⟨s', hs, nW1, bW1, k1, sl1, e1, hv, g1, z0, z1, z2, z3, z4⟩ | ⟨hs, y1, y2, y3, y4, y5, y6, k1, sl1, e1, hd, g1⟩
                  · refine Or.inl ⟨s', hs, c.fn, c.cf, c.nD, c.bD, nW1, bW1, _, _, ?_, hv, g1, ⟨z0, z4⟩⟩
                    simp only [z0, z1, z2, z3, z4]
                    exact bw_ok (c' := 0) (s' := 0) e1 rfl
                  · exact Or.inr ⟨hs, _, _, _, _, _, _, _, _, _, _, _, _, _, _, _, _, _, _, _, _, _, _, _, _, _, _, _, bw_ok (c' := 0) (s' := 0) e1 rfl, hd, g1⟩
                · rw [if_neg b, if_neg b]
                  rcases a_takePowerSign h (t := t) (fa := fa) (nx := nx) with ⟨s', hs, nW1, bW1, k1, sl1, e1, hv, g1, z0, z1, z2, z3, z4, z5, z6⟩ | ⟨hs, y1, y2, y3, y4, k1, sl1, e1, hd, g1⟩
                  · refine Or.inl ⟨s', hs, c.fn, c.cf, c.nD, c.bD, nW1, bW1, _, _, ?_, hv, g1, ⟨z2, z6⟩⟩
                    simp only [z0, z1, z2, z3, z4, z5, z6]
                    exact bw_ok (c' := 0) (s' := 0) e1 rfl
                  · exact Or.inr ⟨hs, _, _, _, _, _, _, _, _, _, _, _, _, _, _, _, _, _, _, _, _, _, _, _, _, _, _, _, bw_ok (c' := 0) (s' := 0) e1 rfl, hd, g1⟩
              · rw [if_neg x6, if_neg x6]
                by_cases x7 : t.k = 91
                · rw [if_pos x7, if_pos x7]
                  unfold Rs.openI F_Rd_goDeeper
                  by_cases b : s.levels < 60
                  · rw [if_pos b, if_pos b]
                    unfold nm
                    dsimp only
                    rw [if_neg (show ¬ (1 : Int32) = 0 by decide)]
                    obtain ⟨fn1, cf1, k1, sl1, e1, hv, g1⟩ := a_openItem (s := (s.s_levels (s.levels + 1))) h (t := t) (fa := fa) (nx := nx) (p1 := 36)
                    exact Or.inl ⟨_, rfl, fn1, cf1, c.nD, c.bD, c.nW, c.bW, _, _, bw_ok (c' := 0) (s' := 0) e1 rfl, hv, g1, ⟨rfl, rfl⟩⟩
                  · rw [if_neg b, if_neg b]
                    unfold nm
                    dsimp only
                    rw [if_pos rfl]
                    exact Or.inr ⟨rfl, _, _, _, _, _, _, _, _, _, _, _, _, _, _, _, _, _, _, _, _, _, _, _, _, _, _, _, rfl, h.dead, Gw.rfl rfl rfl rfl rfl⟩
                · rw [if_neg x7, if_neg x7]
                  by_cases x8 : t.k = 126
                  · rw [if_pos x8, if_pos x8]
                    unfold Rs.sign
                    by_cases b : s.mode = 31
                    · rw [if_pos b, if_pos b]
                      rcases a_takeSign h (t := t) (fa := fa) (nx := nx) with ⟨s', hs, nW1, bW1, k1, sl1, e1, hv, g1, z0, z1, z2, z3, z4⟩ | ⟨hs, y1, y2, y3, y4, y5, y6, k1, sl1, e1, hd, g1⟩
                      · refine Or.inl ⟨s', hs, c.fn, c.cf, c.nD, c.bD, nW1, bW1, _, _, ?_, hv, g1, ⟨z0, z4⟩⟩
                        simp only [z0, z1, z2, z3, z4]
                        exact bw_ok (c' := 0) (s' := 0) e1 rfl
                      · exact Or.inr ⟨hs, _, _, _, _, _, _, _, _, _, _, _, _, _, _, _, _, _, _, _, _, _, _, _, _, _, _, _, bw_ok (c' := 0) (s' := 0) e1 rfl, hd, g1⟩
                    · rw [if_neg b, if_neg b]
                      rcases a_takePowerSign h (t := t) (fa := fa) (nx := nx) with ⟨s', hs, nW1, bW1, k1, sl1, e1, hv, g1, z0, z1, z2, z3, z4, z5, z6⟩ | ⟨hs, y1, y2, y3, y4, k1, sl1, e1, hd, g1⟩
                      · refine Or.inl ⟨s', hs, c.fn, c.cf, c.nD, c.bD, nW1, bW1, _, _, ?_, hv, g1, ⟨z2, z6⟩⟩
                        simp only [z0, z1, z2, z3, z4, z5, z6]
                        exact bw_ok (c' := 0) (s' := 0) e1 rfl
                      · exact Or.inr ⟨hs, _, _, _, _, _, _, _, _, _, _, _, _, _, _, _, _, _, _, _, _, _, _, _, _, _, _, _, bw_ok (c' := 0) (s' := 0) e1 rfl, hd, g1⟩
                  · rw [if_neg x8, if_neg x8]
                    exact Or.inr ⟨rfl, _, _, _, _, _, _, _, _, _, _, _, _, _, _, _, _, _, _, _, _, _, _, _, _, _, _, _, rfl, h.dead, Gw.rfl rfl rfl rfl rfl⟩
end

section
theorem al_ok {α : Type} {m : Option (α × Nat × Nat)} {a : α} {k s k' s' : Nat} (h : m = some (a, k', s')) : al k s m = some (a, k + k', s + s') := by rw [h]; rfl
theorem lt_ite {a b c : Int32} {p : Prop} [Decidable p] (h1 : a < b) (h2 : a < c) : a < if p then b else c := by
  by_cases x : p
  · rw [if_pos x]; exact h1
  · rw [if_neg x]; exact h2
theorem rank_nn (k : Int32) : (-1 : Int32) < Rs.rankOf k := by
  unfold Rs.rankOf F_Rk_of
  repeat (first | refine lt_ite (by decide) ?_)
  decide
theorem a_op81 {s : Rs} {t : Tok} {c : Rw} {fa nx : Int32} (h : RV s c) {r r0 : Int32} (hr : (-1 : Int32) < r0) (hm : Sm s.top.pa) (hm1 : Sm (s.top.pa + 1)) (hm2 : Sm s.top.ip) : (∃ s', ((s.endWaiting r0).afterW t r) = some s' ∧ ∃ fn' cf' nD' bD' nW' bW' k_ sl_, F_Rd_takeOperator_81 s.mode s.levels s.signs s.loops t.k fa s.top.k s.top.pl s.top.wd s.top.sec s.top.pa s.top.ip s.top.ipl s.top.iw s.top.sg s.top.wb s.top.lim s.top.lb nx t.k t.pl t.wd (nI s.draft.length) c.nD c.bD (nI s.wait.length) c.nW c.bW r r0 c.fn s.rest.length c.cf s.top.tg = some ((fn', s'.rest.length, cf', 1, s'.mode, s'.levels, s'.signs, s'.top.k, s'.top.pl, s'.top.wd, s'.top.sec, s'.top.pa, s'.top.ip, s'.top.ipl, s'.top.iw, s'.top.sg, s'.top.wb, s'.top.lim, s'.top.tg, s'.top.lb, nI s'.draft.length, nI s'.wait.length, nD', bD', nW', bW'), k_, sl_) ∧ RV s' ((((((c.s_fn fn').s_cf cf').s_nD nD').s_bD bD').s_nW nW').s_bW bW') ∧ Gw c ((((((c.s_fn fn').s_cf cf').s_nD nD').s_bD bD').s_nW nW').s_bW bW') k_ sl_ ∧ s'.loops = s.loops ∧ s'.funs = s.funs) ∨ (((s.endWaiting r0).afterW t r) = none ∧ ∃ y0 y1 y2 y4 y5 y6 y7 y8 y9 y10 y11 y12 y13 y14 y15 y16 y17 y18 y19 y20 y21 y22 y23 y24 y25 k_ sl_, F_Rd_takeOperator_81 s.mode s.levels s.signs s.loops t.k fa s.top.k s.top.pl s.top.wd s.top.sec s.top.pa s.top.ip s.top.ipl s.top.iw s.top.sg s.top.wb s.top.lim s.top.lb nx t.k t.pl t.wd (nI s.draft.length) c.nD c.bD (nI s.wait.length) c.nW c.bW r r0 c.fn s.rest.length c.cf s.top.tg = some ((y0, y1, y2, 0, y4, y5, y6, y7, y8, y9, y10, y11, y12, y13, y14, y15, y16, y17, y18, y19, y20, y21, y22, y23, y24, y25), k_, sl_) ∧ RVd ((((((c.s_fn y0).s_cf y2).s_nD y22).s_bD y23).s_nW y24).s_bW y25) y1 ∧ Gw c ((((((c.s_fn y0).s_cf y2).s_nD y22).s_bD y23).s_nW y24).s_bW y25) k_ sl_) := by
  obtain ⟨nD0, bD0, k0, sl0, e0, hv0, g0⟩ := a_endWaiting h (t := t) (p1 := r0) (fa := fa) (nx := nx) hr
  unfold F_Rd_takeOperator_81 Rs.afterW
  rw [e0, bw_some]
  dsimp only
  have q1 : (s.endWaiting r0).top = s.top := rfl
  rw [q1]
  by_cases x0 : t.k = 41
  · rw [if_pos x0, if_pos x0]
    rcases a_closeBracket (s := s.endWaiting r0) hv0 (t := t) (fa := fa) (nx := nx) hm1 with ⟨s', hs, fn1, cf1, nD1, bD1, k1, sl1, e1, hv, g1, z0, z1, z2⟩ | ⟨hs, y0, y1, y2, y4, y5, y6, y7, y8, y9, y10, y11, y12, y13, y14, y15, y16, y17, y18, y19, y20, y21, y22, k1, sl1, e1, hd, g1⟩
    · refine Or.inl ⟨s', hs, fn1, cf1, nD1, bD1, c.nW, c.bW, _, _, ?_, hv, g0.trans (g1), ⟨z0, z2⟩⟩
      simp only [z0, z1, z2]
      exact al_ok (bw_ok (c' := 0) (s' := 0) e1 rfl)
    · exact Or.inr ⟨hs, _, _, _, _, _, _, _, _, _, _, _, _, _, _, _, _, _, _, _, _, _, _, _, _, _, _, _, al_ok (bw_ok (c' := 0) (s' := 0) e1 rfl), hd, g0.trans (g1)⟩
  · rw [if_neg x0, if_neg x0]
    by_cases x1 : t.k = 44
    · rw [if_pos x1, if_pos x1]
      rcases a_takeComma (s := s.endWaiting r0) hv0 (t := t) (fa := fa) (nx := nx) with ⟨s', hs, e1, hv, z0, z1, z2, z3, z4, z5, z6, z7, z8, z9, z10, z11, z12, z13, z14, z15, z16⟩ | ⟨hs, y1, y2, y3, y4, e1, hd⟩
      · refine Or.inl ⟨s', hs, c.fn, c.cf, nD0, bD0, c.nW, c.bW, _, _, ?_, hv, g0, ⟨z2, z16⟩⟩
        simp only [z0, z1, z2, z3, z4, z5, z6, z7, z8, z9, z10, z11, z12, z13, z14, z15, z16]
        exact al_ok (k' := 0) (s' := 0) (nm_ok e1 rfl)
      · exact Or.inr ⟨hs, _, _, _, _, _, _, _, _, _, _, _, _, _, _, _, _, _, _, _, _, _, _, _, _, _, _, _, al_ok (k' := 0) (s' := 0) (nm_ok e1 rfl), hd, g0⟩
    · rw [if_neg x1, if_neg x1]
      by_cases x2 : t.k = 58
      · rw [if_pos x2, if_pos x2]
        rcases a_takeColon (s := s.endWaiting r0) hv0 (t := t) (fa := fa) (nx := nx) with ⟨s', hs, nW1, bW1, k1, sl1, e1, hv, g1, z0, z1, z2, z3, z4, z5, z6⟩ | ⟨hs, y1, y2, y3, y4, k1, sl1, e1, hd, g1⟩
        · refine Or.inl ⟨s', hs, c.fn, c.cf, nD0, bD0, nW1, bW1, _, _, ?_, hv, g0.trans (g1), ⟨z2, z6⟩⟩
          simp only [z0, z1, z2, z3, z4, z5, z6]
          exact al_ok (bw_ok (c' := 0) (s' := 0) e1 rfl)
        · exact Or.inr ⟨hs, _, _, _, _, _, _, _, _, _, _, _, _, _, _, _, _, _, _, _, _, _, _, _, _, _, _, _, al_ok (bw_ok (c' := 0) (s' := 0) e1 rfl), hd, g0.trans (g1)⟩
      · rw [if_neg x2, if_neg x2]
        by_cases x3 : t.k = 59
        · rw [if_pos x3, if_pos x3]
          rcases a_takeSemicolon (s := s.endWaiting r0) hv0 (t := t) (fa := fa) (nx := nx) hm hm2 with ⟨s', hs, fn1, cf1, nD1, bD1, k1, sl1, e1, hv, g1, z0, z1, z2, z3⟩ | ⟨hs, y0, y1, y2, y4, y5, y6, y7, y8, y9, y10, y11, y12, y13, y14, y15, y16, y17, y18, y19, y20, y21, k1, sl1, e1, hd, g1⟩
          · refine Or.inl ⟨s', hs, fn1, cf1, nD1, bD1, c.nW, c.bW, _, _, ?_, hv, g0.trans (g1), ⟨z1, z3⟩⟩
            simp only [z0, z1, z2, z3]
            exact al_ok (bw_ok (c' := 0) (s' := 0) e1 rfl)
          · exact Or.inr ⟨hs, _, _, _, _, _, _, _, _, _, _, _, _, _, _, _, _, _, _, _, _, _, _, _, _, _, _, _, al_ok (bw_ok (c' := 0) (s' := 0) e1 rfl), hd, g0.trans (g1)⟩
        · rw [if_neg x3, if_neg x3]
          by_cases x4 : t.k = 61
          · rw [if_pos x4, if_pos x4]
            rcases a_takeEquals (s := s.endWaiting r0) hv0 (t := t) (fa := fa) (nx := nx) with ⟨s', hs, e1, hv, z0, z1, z2, z3, z4, z5, z6, z7, z8, z9, z10, z11, z12, z13, z14, z15⟩ | ⟨hs, y1, y2, y3, y4, y5, e1, hd⟩
            · refine Or.inl ⟨s', hs, c.fn, c.cf, nD0, bD0, c.nW, c.bW, _, _, ?_, hv, g0, ⟨z2, z15⟩⟩
              simp only [z0, z1, z2, z3, z4, z5, z6, z7, z8, z9, z10, z11, z12, z13, z14, z15]
              exact al_ok (k' := 0) (s' := 0) (bnd_ok e1 rfl)
            · exact Or.inr ⟨hs, _, _, _, _, _, _, _, _, _, _, _, _, _, _, _, _, _, _, _, _, _, _, _, _, _, _, _, al_ok (k' := 0) (s' := 0) (bnd_ok e1 rfl), hd, g0⟩
          · rw [if_neg x4, if_neg x4]
            by_cases x5 : t.k = 93
            · rw [if_pos x5, if_pos x5]
              by_cases b : s.top.k = 36
              · rw [if_pos b, if_pos b]
                obtain ⟨nD1, bD1, k1, sl1, e1, hv1, g1⟩ := a_endRow (s := s.endWaiting r0) hv0 (t := t) (fa := fa) (nx := nx) hm2
                obtain ⟨fn2, cf2, nD2, bD2, k2, sl2, e2, hv2, g2⟩ := a_closeRows (s := (s.endWaiting r0).endRow) hv1 (t := t) (fa := fa) (nx := nx) hm1
                exact Or.inl ⟨_, rfl, fn2, cf2, nD2, bD2, c.nW, c.bW, _, _, al_ok (bw_ok e1 (bw_ok (c' := 0) (s' := 0) e2 rfl)), hv2, g0.trans (g1.trans g2), ⟨rfl, rfl⟩⟩
              · rw [if_neg b, if_neg b]
                exact Or.inr ⟨rfl, _, _, _, _, _, _, _, _, _, _, _, _, _, _, _, _, _, _, _, _, _, _, _, _, _, _, _, al_ok rfl, hv0.dead, g0⟩
            · rw [if_neg x5, if_neg x5]
              by_cases b : r = 0
              · rw [if_pos b, if_pos b]
                exact Or.inr ⟨rfl, _, _, _, _, _, _, _, _, _, _, _, _, _, _, _, _, _, _, _, _, _, _, _, _, _, _, _, al_ok rfl, hv0.dead, g0⟩
              · rw [if_neg b, if_neg b]
                obtain ⟨nW1, bW1, k1, sl1, e1, hv, g1⟩ := a_takeOperation (s := s.endWaiting r0) hv0 (t := t) (fa := fa) (nx := nx) (p1 := r)
                exact Or.inl ⟨_, rfl, c.fn, c.cf, nD0, bD0, nW1, bW1, _, _, al_ok (bw_ok (c' := 0) (s' := 0) e1 rfl), hv, g0.trans (g1), ⟨rfl, rfl⟩⟩
theorem a_op26 {s : Rs} {t : Tok} {c : Rw} {fa nx : Int32} (h : RV s c) (hm : Sm s.top.pa) (hm1 : Sm (s.top.pa + 1)) (hm2 : Sm s.top.ip) : (∃ s', (s.operator2 t) = some s' ∧ ∃ fn' cf' nD' bD' nW' bW' k_ sl_, F_Rd_takeOperator_26 s.mode s.levels s.signs s.loops t.k fa s.top.k s.top.pl s.top.wd s.top.sec s.top.pa s.top.ip s.top.ipl s.top.iw s.top.sg s.top.wb s.top.lim s.top.lb nx t.k t.pl t.wd (nI s.draft.length) c.nD c.bD (nI s.wait.length) c.nW c.bW c.fn s.rest.length c.cf s.top.tg = some ((fn', s'.rest.length, cf', 1, s'.mode, s'.levels, s'.signs, s'.top.k, s'.top.pl, s'.top.wd, s'.top.sec, s'.top.pa, s'.top.ip, s'.top.ipl, s'.top.iw, s'.top.sg, s'.top.wb, s'.top.lim, s'.top.tg, s'.top.lb, nI s'.draft.length, nI s'.wait.length, nD', bD', nW', bW'), k_, sl_) ∧ RV s' ((((((c.s_fn fn').s_cf cf').s_nD nD').s_bD bD').s_nW nW').s_bW bW') ∧ Gw c ((((((c.s_fn fn').s_cf cf').s_nD nD').s_bD bD').s_nW nW').s_bW bW') k_ sl_ ∧ s'.loops = s.loops ∧ s'.funs = s.funs) ∨ ((s.operator2 t) = none ∧ ∃ y0 y1 y2 y4 y5 y6 y7 y8 y9 y10 y11 y12 y13 y14 y15 y16 y17 y18 y19 y20 y21 y22 y23 y24 y25 k_ sl_, F_Rd_takeOperator_26 s.mode s.levels s.signs s.loops t.k fa s.top.k s.top.pl s.top.wd s.top.sec s.top.pa s.top.ip s.top.ipl s.top.iw s.top.sg s.top.wb s.top.lim s.top.lb nx t.k t.pl t.wd (nI s.draft.length) c.nD c.bD (nI s.wait.length) c.nW c.bW c.fn s.rest.length c.cf s.top.tg = some ((y0, y1, y2, 0, y4, y5, y6, y7, y8, y9, y10, y11, y12, y13, y14, y15, y16, y17, y18, y19, y20, y21, y22, y23, y24, y25), k_, sl_) ∧ RVd ((((((c.s_fn y0).s_cf y2).s_nD y22).s_bD y23).s_nW y24).s_bW y25) y1 ∧ Gw c ((((((c.s_fn y0).s_cf y2).s_nD y22).s_bD y23).s_nW y24).s_bW y25) k_ sl_) := by
  unfold F_Rd_takeOperator_26 Rs.operator2
  by_cases a : t.k = 39
  · rw [if_pos a, if_pos a]
    obtain ⟨nD1, bD1, k1, sl1, e1, hv, g1⟩ := a_add h (k := 38) (p := t.pl) (q := -1) (m := 1) (w := t.wd) (by decide)
    exact Or.inl ⟨_, rfl, c.fn, c.cf, nD1, bD1, c.nW, c.bW, _, _, bw_ok (c' := 0) (s' := 0) e1 rfl, hv, g1, ⟨rfl, rfl⟩⟩
  · rw [if_neg a, if_neg a]
    unfold nm
    dsimp only
    have q : F_Rk_of t.k = Rs.rankOf t.k := rfl
    rw [q]
    by_cases b : Rs.rankOf t.k = 4
    · rw [if_pos b, if_pos b]
      exact a_op81 h (by decide) hm hm1 hm2
    · rw [if_neg b, if_neg b]
      exact a_op81 h (rank_nn _) hm hm1 hm2
theorem a_takeOperator {s : Rs} {t : Tok} {c : Rw} {fa nx : Int32} (h : RV s c) (hm : Sm s.top.pa) (hm1 : Sm (s.top.pa + 1)) (hm2 : Sm s.top.ip) : (∃ s', (s.takeOperator t) = some s' ∧ ∃ fn' cf' nD' bD' nW' bW' k_ sl_, F_Rd_takeOperator c.fn s.rest.length c.cf s.mode s.levels s.signs s.loops t.k fa s.top.k s.top.pl s.top.wd s.top.sec s.top.pa s.top.ip s.top.ipl s.top.iw s.top.sg s.top.wb s.top.lim s.top.tg s.top.lb nx t.k t.pl t.wd (nI s.draft.length) c.nD c.bD (nI s.wait.length) c.nW c.bW = some ((fn', s'.rest.length, cf', 1, s'.mode, s'.levels, s'.signs, s'.top.k, s'.top.pl, s'.top.wd, s'.top.sec, s'.top.pa, s'.top.ip, s'.top.ipl, s'.top.iw, s'.top.sg, s'.top.wb, s'.top.lim, s'.top.tg, s'.top.lb, nI s'.draft.length, nI s'.wait.length, nD', bD', nW', bW'), k_, sl_) ∧ RV s' ((((((c.s_fn fn').s_cf cf').s_nD nD').s_bD bD').s_nW nW').s_bW bW') ∧ Gw c ((((((c.s_fn fn').s_cf cf').s_nD nD').s_bD bD').s_nW nW').s_bW bW') k_ sl_ ∧ s'.loops = s.loops ∧ s'.funs = s.funs) ∨ ((s.takeOperator t) = none ∧ ∃ y0 y1 y2 y4 y5 y6 y7 y8 y9 y10 y11 y12 y13 y14 y15 y16 y17 y18 y19 y20 y21 y22 y23 y24 y25 k_ sl_, F_Rd_takeOperator c.fn s.rest.length c.cf s.mode s.levels s.signs s.loops t.k fa s.top.k s.top.pl s.top.wd s.top.sec s.top.pa s.top.ip s.top.ipl s.top.iw s.top.sg s.top.wb s.top.lim s.top.tg s.top.lb nx t.k t.pl t.wd (nI s.draft.length) c.nD c.bD (nI s.wait.length) c.nW c.bW = some ((y0, y1, y2, 0, y4, y5, y6, y7, y8, y9, y10, y11, y12, y13, y14, y15, y16, y17, y18, y19, y20, y21, y22, y23, y24, y25), k_, sl_) ∧ RVd ((((((c.s_fn y0).s_cf y2).s_nD y22).s_bD y23).s_nW y24).s_bW y25) y1 ∧ Gw c ((((((c.s_fn y0).s_cf y2).s_nD y22).s_bD y23).s_nW y24).s_bW y25) k_ sl_) := by
  unfold F_Rd_takeOperator Rs.takeOperator
  by_cases a : t.k = 44
  · rw [if_pos a, if_pos a]
    exact a_op26 h hm hm1 hm2
  · rw [if_neg a, if_neg a]
    by_cases b : t.k = 93
    · rw [if_pos b, if_pos b]
      exact a_op26 h hm hm1 hm2
    · rw [if_neg b, if_neg b]
      exact a_op26 (s := s.s_top (s.top.s_tg 0)) h hm hm1 hm2
end

section
theorem room_eq {a1 a2 a3 a4 a5 a6 b1 b2 b3 b4 b5 b7 b8 b9 b10 b11 b12 b13 x : Int32} : F_Rd_hasRoomForName a1 a2 a3 a4 a5 a6 b1 b2 b3 b4 b5 x b7 b8 b9 b10 b11 b12 b13 = if x < 8 then 1 else 0 := by
  unfold F_Rd_hasRoomForName
  by_cases a : x < 8
  · rw [if_pos a]; first | rw [if_pos a] | rw [if_neg (i32_nle.mpr a)]
  · rw [if_neg a]; first | rw [if_neg a] | rw [if_pos (i32_nlt.mp a)]
theorem a_beginStatement {s : Rs} {t : Tok} {c : Rw} {fa nx : Int32} (h : RV s c) (hm : Sm s.top.ip) (hm2 : Sm s.top.pa) : (∃ s', (s.beginStatement t) = some s' ∧ ∃ fn' cf' nD' bD' k_ sl_, F_Rd_beginStatement c.fn s.rest.length c.cf s.mode s.levels s.signs s.loops t.k fa s.top.k s.top.pl s.top.wd s.top.sec s.top.pa s.top.ip s.top.ipl s.top.iw s.top.sg s.top.wb s.top.lim s.top.tg s.top.lb nx t.k t.pl t.wd (nI s.wait.length) (nI s.draft.length) c.nD c.bD = some ((fn', s'.rest.length, cf', 1, s'.mode, s'.levels, s'.signs, s'.loops, s'.top.k, s'.top.pl, s'.top.wd, s'.top.sec, s'.top.pa, s'.top.ip, s'.top.ipl, s'.top.iw, s'.top.sg, s'.top.wb, s'.top.lim, s'.top.tg, s'.top.lb, nI s'.draft.length, nD', bD'), k_, sl_) ∧ RV s' ((((c.s_fn fn').s_cf cf').s_nD nD').s_bD bD') ∧ Gw c ((((c.s_fn fn').s_cf cf').s_nD nD').s_bD bD') k_ sl_ ∧ s'.wait = s.wait ∧ s'.funs = s.funs) ∨ ((s.beginStatement t) = none ∧ ∃ y0 y1 y2 y4 y5 y6 y7 y8 y9 y10 y11 y12 y13 y14 y15 y16 y17 y18 y19 y20 y21 y22 y23 k_ sl_, F_Rd_beginStatement c.fn s.rest.length c.cf s.mode s.levels s.signs s.loops t.k fa s.top.k s.top.pl s.top.wd s.top.sec s.top.pa s.top.ip s.top.ipl s.top.iw s.top.sg s.top.wb s.top.lim s.top.tg s.top.lb nx t.k t.pl t.wd (nI s.wait.length) (nI s.draft.length) c.nD c.bD = some ((y0, y1, y2, 0, y4, y5, y6, y7, y8, y9, y10, y11, y12, y13, y14, y15, y16, y17, y18, y19, y20, y21, y22, y23), k_, sl_) ∧ RVd ((((c.s_fn y0).s_cf y2).s_nD y22).s_bD y23) y1 ∧ Gw c ((((c.s_fn y0).s_cf y2).s_nD y22).s_bD y23) k_ sl_) := by
  unfold F_Rd_beginStatement Rs.beginStatement
  by_cases x0 : t.k = 5
  · rw [if_pos x0, if_pos x0]
    rcases a_openBlocks h (t := t) (fa := fa) (nx := nx) (p1 := 11) (p2 := 2) with ⟨s', hs, fn1, cf1, k1, sl1, e1, hv, g1, z0, z1, z2⟩ | ⟨hs, y0, y1, y2, y4, y5, y6, y7, y8, y9, y10, y11, y12, y13, y14, y15, y16, y17, y18, y19, y20, k1, sl1, e1, hd, g1⟩
    · refine Or.inl ⟨s', hs, fn1, cf1, c.nD, c.bD, _, _, ?_, hv, g1, ⟨z1, z2⟩⟩
      simp only [z0, z1, z2]
      exact bw_ok (c' := 0) (s' := 0) e1 rfl
    · exact Or.inr ⟨hs, _, _, _, _, _, _, _, _, _, _, _, _, _, _, _, _, _, _, _, _, _, _, _, _, _, bw_ok (c' := 0) (s' := 0) e1 rfl, hd, g1⟩
  · rw [if_neg x0, if_neg x0]
    by_cases x1 : t.k = 6
    · rw [if_pos x1, if_pos x1]
      rcases a_nextBlock h (t := t) (fa := fa) (nx := nx) (p1 := 11) (p2 := 0) (p3 := 2) hm with ⟨s', hs, nD1, bD1, k1, sl1, e1, hv, g1, z0, z1, z2, z3, z4, z5, z6, z7, z8, z9, z10, z11, z12, z13, z14⟩ | ⟨hs, y1, y2, y3, y4, y5, y6, y7, y8, k1, sl1, e1, hd, g1⟩
      · refine Or.inl ⟨s', hs, c.fn, c.cf, nD1, bD1, _, _, ?_, hv, g1, ⟨z13, z14⟩⟩
        simp only [z0, z1, z2, z3, z4, z5, z6, z7, z8, z9, z10, z11, z12, z13, z14]
        exact bw_ok (c' := 0) (s' := 0) e1 rfl
      · exact Or.inr ⟨hs, _, _, _, _, _, _, _, _, _, _, _, _, _, _, _, _, _, _, _, _, _, _, _, _, _, bw_ok (c' := 0) (s' := 0) e1 rfl, hd, g1⟩
    · rw [if_neg x1, if_neg x1]
      by_cases x2 : t.k = 7
      · rw [if_pos x2, if_pos x2]
        rcases a_nextBlock h (t := t) (fa := fa) (nx := nx) (p1 := 11) (p2 := 1) (p3 := 0) hm with ⟨s', hs, nD1, bD1, k1, sl1, e1, hv, g1, z0, z1, z2, z3, z4, z5, z6, z7, z8, z9, z10, z11, z12, z13, z14⟩ | ⟨hs, y1, y2, y3, y4, y5, y6, y7, y8, k1, sl1, e1, hd, g1⟩
        · refine Or.inl ⟨s', hs, c.fn, c.cf, nD1, bD1, _, _, ?_, hv, g1, ⟨z13, z14⟩⟩
          simp only [z0, z1, z2, z3, z4, z5, z6, z7, z8, z9, z10, z11, z12, z13, z14]
          exact bw_ok (c' := 0) (s' := 0) e1 rfl
        · exact Or.inr ⟨hs, _, _, _, _, _, _, _, _, _, _, _, _, _, _, _, _, _, _, _, _, _, _, _, _, _, bw_ok (c' := 0) (s' := 0) e1 rfl, hd, g1⟩
      · rw [if_neg x2, if_neg x2]
        by_cases x3 : t.k = 8
        · rw [if_pos x3, if_pos x3]
          rcases a_endBlocks h (t := t) (fa := fa) (nx := nx) hm hm2 with ⟨s', hs, fn1, cf1, nD1, bD1, k1, sl1, e1, hv, g1, z0, z1⟩ | ⟨hs, y0, y1, y2, y4, y5, y6, y7, y8, y9, y10, y11, y12, y13, y14, y15, y16, y17, y18, y19, y20, y21, y22, y23, k1, sl1, e1, hd, g1⟩
          · refine Or.inl ⟨s', hs, fn1, cf1, nD1, bD1, _, _, ?_, hv, g1, ⟨z0, z1⟩⟩
            simp only [z0, z1]
            exact bw_ok (c' := 0) (s' := 0) e1 rfl
          · exact Or.inr ⟨hs, _, _, _, _, _, _, _, _, _, _, _, _, _, _, _, _, _, _, _, _, _, _, _, _, _, bw_ok (c' := 0) (s' := 0) e1 rfl, hd, g1⟩
        · rw [if_neg x3, if_neg x3]
          by_cases x4 : t.k = 9
          · rw [if_pos x4, if_pos x4]
            rcases a_openBlocks h (t := t) (fa := fa) (nx := nx) (p1 := 12) (p2 := 2) with ⟨s', hs, fn1, cf1, k1, sl1, e1, hv, g1, z0, z1, z2⟩ | ⟨hs, y0, y1, y2, y4, y5, y6, y7, y8, y9, y10, y11, y12, y13, y14, y15, y16, y17, y18, y19, y20, k1, sl1, e1, hd, g1⟩
            · refine Or.inl ⟨s', hs, fn1, cf1, c.nD, c.bD, _, _, ?_, hv, g1, ⟨z1, z2⟩⟩
              simp only [z0, z1, z2]
              exact bw_ok (c' := 0) (s' := 0) e1 rfl
            · exact Or.inr ⟨hs, _, _, _, _, _, _, _, _, _, _, _, _, _, _, _, _, _, _, _, _, _, _, _, _, _, bw_ok (c' := 0) (s' := 0) e1 rfl, hd, g1⟩
          · rw [if_neg x4, if_neg x4]
            by_cases x5 : t.k = 10
            · rw [if_pos x5, if_pos x5]
              rcases a_openBlocks h (t := t) (fa := fa) (nx := nx) (p1 := 13) (p2 := 2) with ⟨s', hs, fn1, cf1, k1, sl1, e1, hv, g1, z0, z1, z2⟩ | ⟨hs, y0, y1, y2, y4, y5, y6, y7, y8, y9, y10, y11, y12, y13, y14, y15, y16, y17, y18, y19, y20, k1, sl1, e1, hd, g1⟩
              · refine Or.inl ⟨s', hs, fn1, cf1, c.nD, c.bD, _, _, ?_, hv, g1, ⟨z1, z2⟩⟩
                simp only [z0, z1, z2]
                exact bw_ok (c' := 0) (s' := 0) e1 rfl
              · exact Or.inr ⟨hs, _, _, _, _, _, _, _, _, _, _, _, _, _, _, _, _, _, _, _, _, _, _, _, _, _, bw_ok (c' := 0) (s' := 0) e1 rfl, hd, g1⟩
            · rw [if_neg x5, if_neg x5]
              by_cases x6 : t.k = 11
              · rw [if_pos x6, if_pos x6]
                by_cases b : s.loops ≤ 0
                · rw [if_pos b, if_pos b]
                  exact Or.inr ⟨rfl, _, _, _, _, _, _, _, _, _, _, _, _, _, _, _, _, _, _, _, _, _, _, _, _, _, rfl, h.dead, Gw.rfl rfl rfl rfl rfl⟩
                · rw [if_neg b, if_neg b]
                  obtain ⟨nD1, bD1, k1, sl1, e1, hv, g1⟩ := a_addWord h (t := t) (fa := fa) (nx := nx) (p1 := 15)
                  exact Or.inl ⟨_, rfl, c.fn, c.cf, nD1, bD1, _, _, bw_ok (c' := 0) (s' := 0) e1 rfl, hv, g1, ⟨rfl, rfl⟩⟩
              · rw [if_neg x6, if_neg x6]
                by_cases x7 : t.k = 12
                · rw [if_pos x7, if_pos x7]
                  by_cases b : s.loops ≤ 0
                  · rw [if_pos b, if_pos b]
                    exact Or.inr ⟨rfl, _, _, _, _, _, _, _, _, _, _, _, _, _, _, _, _, _, _, _, _, _, _, _, _, _, rfl, h.dead, Gw.rfl rfl rfl rfl rfl⟩
                  · rw [if_neg b, if_neg b]
                    obtain ⟨nD1, bD1, k1, sl1, e1, hv, g1⟩ := a_addWord h (t := t) (fa := fa) (nx := nx) (p1 := 16)
                    exact Or.inl ⟨_, rfl, c.fn, c.cf, nD1, bD1, _, _, bw_ok (c' := 0) (s' := 0) e1 rfl, hv, g1, ⟨rfl, rfl⟩⟩
                · rw [if_neg x7, if_neg x7]
                  by_cases x8 : t.k = 13
                  · rw [if_pos x8, if_pos x8]
                    obtain ⟨nD1, bD1, k1, sl1, e1, hv, g1⟩ := a_addWord h (t := t) (fa := fa) (nx := nx) (p1 := 17)
                    exact Or.inl ⟨_, rfl, c.fn, c.cf, nD1, bD1, _, _, bw_ok (c' := 0) (s' := 0) e1 rfl, hv, g1, ⟨rfl, rfl⟩⟩
                  · rw [if_neg x8, if_neg x8]
                    by_cases x9 : t.k = 14
                    · rw [if_pos x9, if_pos x9]
                      by_cases b : s.top.k = 0
                      · rw [if_pos b, if_pos b]
                        rcases a_openBlocks h (t := t) (fa := fa) (nx := nx) (p1 := 1) (p2 := 10) with ⟨s', hs, fn1, cf1, k1, sl1, e1, hv, g1, z0, z1, z2⟩ | ⟨hs, y0, y1, y2, y4, y5, y6, y7, y8, y9, y10, y11, y12, y13, y14, y15, y16, y17, y18, y19, y20, k1, sl1, e1, hd, g1⟩
                        · refine Or.inl ⟨s', hs, fn1, cf1, c.nD, c.bD, _, _, ?_, hv, g1, ⟨z1, z2⟩⟩
                          simp only [z0, z1, z2]
                          exact bw_ok (c' := 0) (s' := 0) e1 (if_neg (show ¬ (1 : Int32) = 0 by decide))
                        · exact Or.inr ⟨hs, _, _, _, _, _, _, _, _, _, _, _, _, _, _, _, _, _, _, _, _, _, _, _, _, _, bw_ok (c' := 0) (s' := 0) e1 (if_pos rfl), hd, g1⟩
                      · rw [if_neg b, if_neg b]
                        exact Or.inr ⟨rfl, _, _, _, _, _, _, _, _, _, _, _, _, _, _, _, _, _, _, _, _, _, _, _, _, _, rfl, h.dead, Gw.rfl rfl rfl rfl rfl⟩
                    · rw [if_neg x9, if_neg x9]
                      by_cases x10 : t.k = 15
                      · rw [if_pos x10, if_pos x10]
                        obtain ⟨fn1, cf1, k1, sl1, e1, hv, g1⟩ := a_openValues h (t := t) (fa := fa) (nx := nx) (p1 := 18)
                        exact Or.inl ⟨_, rfl, fn1, cf1, c.nD, c.bD, _, _, bw_ok (c' := 0) (s' := 0) e1 rfl, hv, g1, ⟨rfl, rfl⟩⟩
                      · rw [if_neg x10, if_neg x10]
                        by_cases x11 : t.k = 16
                        · rw [if_pos x11, if_pos x11]
                          obtain ⟨fn1, cf1, k1, sl1, e1, hv, g1⟩ := a_openValues h (t := t) (fa := fa) (nx := nx) (p1 := 19)
                          exact Or.inl ⟨_, rfl, fn1, cf1, c.nD, c.bD, _, _, bw_ok (c' := 0) (s' := 0) e1 rfl, hv, g1, ⟨rfl, rfl⟩⟩
                        · rw [if_neg x11, if_neg x11]
                          by_cases x12 : t.k = 17
                          · rw [if_pos x12, if_pos x12]
                            rcases a_openBlocks h (t := t) (fa := fa) (nx := nx) (p1 := 14) (p2 := 0) with ⟨s', hs, fn1, cf1, k1, sl1, e1, hv, g1, z0, z1, z2⟩ | ⟨hs, y0, y1, y2, y4, y5, y6, y7, y8, y9, y10, y11, y12, y13, y14, y15, y16, y17, y18, y19, y20, k1, sl1, e1, hd, g1⟩
                            · refine Or.inl ⟨s', hs, fn1, cf1, c.nD, c.bD, _, _, ?_, hv, g1, ⟨z1, z2⟩⟩
                              simp only [z0, z1, z2]
                              exact bw_ok (c' := 0) (s' := 0) e1 rfl
                            · exact Or.inr ⟨hs, _, _, _, _, _, _, _, _, _, _, _, _, _, _, _, _, _, _, _, _, _, _, _, _, _, bw_ok (c' := 0) (s' := 0) e1 rfl, hd, g1⟩
                          · rw [if_neg x12, if_neg x12]
                            by_cases x13 : t.k = 18
                            · rw [if_pos x13, if_pos x13]
                              rcases a_nextBlock h (t := t) (fa := fa) (nx := nx) (p1 := 14) (p2 := 1) (p3 := 0) hm with ⟨s', hs, nD1, bD1, k1, sl1, e1, hv, g1, z0, z1, z2, z3, z4, z5, z6, z7, z8, z9, z10, z11, z12, z13, z14⟩ | ⟨hs, y1, y2, y3, y4, y5, y6, y7, y8, k1, sl1, e1, hd, g1⟩
                              · refine Or.inl ⟨s', hs, c.fn, c.cf, nD1, bD1, _, _, ?_, hv, g1, ⟨z13, z14⟩⟩
                                simp only [z0, z1, z2, z3, z4, z5, z6, z7, z8, z9, z10, z11, z12, z13, z14]
                                exact bw_ok (c' := 0) (s' := 0) e1 rfl
                              · exact Or.inr ⟨hs, _, _, _, _, _, _, _, _, _, _, _, _, _, _, _, _, _, _, _, _, _, _, _, _, _, bw_ok (c' := 0) (s' := 0) e1 rfl, hd, g1⟩
                            · rw [if_neg x13, if_neg x13]
                              exact Or.inr ⟨rfl, _, _, _, _, _, _, _, _, _, _, _, _, _, _, _, _, _, _, _, _, _, _, _, _, _, rfl, h.dead, Gw.rfl rfl rfl rfl rfl⟩
theorem a_standsInStatement {s : Rs} {t : Tok} {c : Rw} {fa nx : Int32} (h : RV s c) (hm : Sm s.top.ip) (hm2 : Sm s.top.pa) : (∃ s', (s.standsInStatement t) = some s' ∧ ∃ fn' cf' nD' bD' k_ sl_, F_Rd_standsInStatement c.fn s.rest.length c.cf s.mode s.levels s.signs s.loops t.k fa s.top.k s.top.pl s.top.wd s.top.sec s.top.pa s.top.ip s.top.ipl s.top.iw s.top.sg s.top.wb s.top.lim s.top.tg s.top.lb nx t.k t.pl t.wd (nI s.wait.length) (nI s.draft.length) c.nD c.bD = some ((fn', s'.rest.length, cf', 1, s'.mode, s'.levels, s'.signs, s'.loops, s'.top.k, s'.top.pl, s'.top.wd, s'.top.sec, s'.top.pa, s'.top.ip, s'.top.ipl, s'.top.iw, s'.top.sg, s'.top.wb, s'.top.lim, s'.top.tg, s'.top.lb, nI s'.draft.length, nD', bD'), k_, sl_) ∧ RV s' ((((c.s_fn fn').s_cf cf').s_nD nD').s_bD bD') ∧ Gw c ((((c.s_fn fn').s_cf cf').s_nD nD').s_bD bD') k_ sl_ ∧ s'.wait = s.wait ∧ s'.funs = s.funs) ∨ ((s.standsInStatement t) = none ∧ ∃ y0 y1 y2 y4 y5 y6 y7 y8 y9 y10 y11 y12 y13 y14 y15 y16 y17 y18 y19 y20 y21 y22 y23 k_ sl_, F_Rd_standsInStatement c.fn s.rest.length c.cf s.mode s.levels s.signs s.loops t.k fa s.top.k s.top.pl s.top.wd s.top.sec s.top.pa s.top.ip s.top.ipl s.top.iw s.top.sg s.top.wb s.top.lim s.top.tg s.top.lb nx t.k t.pl t.wd (nI s.wait.length) (nI s.draft.length) c.nD c.bD = some ((y0, y1, y2, 0, y4, y5, y6, y7, y8, y9, y10, y11, y12, y13, y14, y15, y16, y17, y18, y19, y20, y21, y22, y23), k_, sl_) ∧ RVd ((((c.s_fn y0).s_cf y2).s_nD y22).s_bD y23) y1 ∧ Gw c ((((c.s_fn y0).s_cf y2).s_nD y22).s_bD y23) k_ sl_) := by
  unfold F_Rd_standsInStatement Rs.standsInStatement
  by_cases x0 : s.mode = 0
  · rw [if_pos x0, if_pos x0]
    rcases a_beginStatement h (t := t) (fa := fa) (nx := nx) hm hm2 with ⟨s', hs, fn1, cf1, nD1, bD1, k1, sl1, e1, hv, g1, z0, z1⟩ | ⟨hs, y0, y1, y2, y4, y5, y6, y7, y8, y9, y10, y11, y12, y13, y14, y15, y16, y17, y18, y19, y20, y21, y22, y23, k1, sl1, e1, hd, g1⟩
    · refine Or.inl ⟨s', hs, fn1, cf1, nD1, bD1, _, _, ?_, hv, g1, ⟨z0, z1⟩⟩
      simp only [z0, z1]
      exact bw_ok (c' := 0) (s' := 0) e1 rfl
    · exact Or.inr ⟨hs, _, _, _, _, _, _, _, _, _, _, _, _, _, _, _, _, _, _, _, _, _, _, _, _, _, bw_ok (c' := 0) (s' := 0) e1 rfl, hd, g1⟩
  · rw [if_neg x0, if_neg x0]
    by_cases x1 : s.mode = 1
    · rw [if_pos x1, if_pos x1]
      by_cases x100 : t.k = 59
      · rw [if_pos x100, if_pos x100]
        exact Or.inl ⟨_, rfl, c.fn, c.cf, c.nD, c.bD, 0, 0, rfl, h.cg s.rest s.draft s.wait s.funs rfl rfl rfl rfl rfl rfl rfl rfl, Gw.rfl rfl rfl rfl rfl, ⟨rfl, rfl⟩⟩
      · rw [if_neg x100, if_neg x100]
        exact Or.inr ⟨rfl, _, _, _, _, _, _, _, _, _, _, _, _, _, _, _, _, _, _, _, _, _, _, _, _, _, rfl, h.dead, Gw.rfl rfl rfl rfl rfl⟩
    · rw [if_neg x1, if_neg x1]
      by_cases x2 : s.mode = 2
      · rw [if_pos x2, if_pos x2]
        by_cases x100 : t.k = 40
        · rw [if_pos x100, if_pos x100]
          unfold Rs.openHd F_Rd_goDeeper
          by_cases b : s.levels < 60
          · rw [if_pos b, if_pos b]
            unfold nm
            dsimp only
            rw [if_neg (show ¬ (1 : Int32) = 0 by decide)]
            obtain ⟨fn1, cf1, k1, sl1, e1, hv, g1⟩ := a_openHead (s := (s.s_levels (s.levels + 1))) h (t := t) (fa := fa) (nx := nx)
            exact Or.inl ⟨_, rfl, fn1, cf1, c.nD, c.bD, _, _, bw_ok (c' := 0) (s' := 0) e1 rfl, hv, g1, ⟨rfl, rfl⟩⟩
          · rw [if_neg b, if_neg b]
            unfold nm
            dsimp only
            rw [if_pos rfl]
            exact Or.inr ⟨rfl, _, _, _, _, _, _, _, _, _, _, _, _, _, _, _, _, _, _, _, _, _, _, _, _, _, rfl, h.dead, Gw.rfl rfl rfl rfl rfl⟩
        · rw [if_neg x100, if_neg x100]
          exact Or.inr ⟨rfl, _, _, _, _, _, _, _, _, _, _, _, _, _, _, _, _, _, _, _, _, _, _, _, _, _, rfl, h.dead, Gw.rfl rfl rfl rfl rfl⟩
      · rw [if_neg x2, if_neg x2]
        by_cases x3 : s.mode = 3
        · rw [if_pos x3, if_pos x3]
          by_cases x100 : t.k = 2
          · rw [if_pos x100, if_pos x100]
            obtain ⟨nD1, bD1, k1, sl1, e1, hv, g1⟩ := a_addName h (t := t) (fa := fa) (nx := nx) (p1 := 4)
            exact Or.inl ⟨_, rfl, c.fn, c.cf, nD1, bD1, _, _, bw_ok (c' := 0) (s' := 0) e1 rfl, hv, g1, ⟨rfl, rfl⟩⟩
          · rw [if_neg x100, if_neg x100]
            exact Or.inr ⟨rfl, _, _, _, _, _, _, _, _, _, _, _, _, _, _, _, _, _, _, _, _, _, _, _, _, _, rfl, h.dead, Gw.rfl rfl rfl rfl rfl⟩
        · rw [if_neg x3, if_neg x3]
          by_cases x4 : s.mode = 4
          · rw [if_pos x4, if_pos x4]
            by_cases x100 : t.k = 61
            · rw [if_pos x100, if_pos x100]
              exact Or.inl ⟨_, rfl, c.fn, c.cf, c.nD, c.bD, 0, 0, rfl, h.cg s.rest s.draft s.wait s.funs rfl rfl rfl rfl rfl rfl rfl rfl, Gw.rfl rfl rfl rfl rfl, ⟨rfl, rfl⟩⟩
            · rw [if_neg x100, if_neg x100]
              exact Or.inr ⟨rfl, _, _, _, _, _, _, _, _, _, _, _, _, _, _, _, _, _, _, _, _, _, _, _, _, _, rfl, h.dead, Gw.rfl rfl rfl rfl rfl⟩
          · rw [if_neg x4, if_neg x4]
            exact Or.inr ⟨rfl, _, _, _, _, _, _, _, _, _, _, _, _, _, _, _, _, _, _, _, _, _, _, _, _, _, rfl, h.dead, Gw.rfl rfl rfl rfl rfl⟩
theorem a_standsInSeveral {s : Rs} {t : Tok} {c : Rw} {fa nx : Int32} (h : RV s c) (hm : Sm s.top.ip) : (∃ s', (s.standsInSeveral t) = some s' ∧ ∃ fn' cf' nD' bD' k_ sl_, F_Rd_standsInSeveral c.fn s.rest.length c.cf s.mode s.levels s.signs s.loops t.k fa s.top.k s.top.pl s.top.wd s.top.sec s.top.pa s.top.ip s.top.ipl s.top.iw s.top.sg s.top.wb s.top.lim s.top.tg s.top.lb nx t.k t.pl t.wd (nI s.draft.length) c.nD c.bD (nI s.wait.length) = some ((fn', s'.rest.length, cf', 1, s'.mode, s'.levels, s'.signs, s'.top.k, s'.top.pl, s'.top.wd, s'.top.sec, s'.top.pa, s'.top.ip, s'.top.ipl, s'.top.iw, s'.top.sg, s'.top.wb, s'.top.lim, s'.top.tg, s'.top.lb, nI s'.draft.length, nD', bD'), k_, sl_) ∧ RV s' ((((c.s_fn fn').s_cf cf').s_nD nD').s_bD bD') ∧ Gw c ((((c.s_fn fn').s_cf cf').s_nD nD').s_bD bD') k_ sl_ ∧ s'.loops = s.loops ∧ s'.wait = s.wait ∧ s'.funs = s.funs) ∨ ((s.standsInSeveral t) = none ∧ ∃ y0 y1 y2 y4 y5 y6 y7 y8 y9 y10 y11 y12 y13 y14 y15 y16 y17 y18 y19 y20 y21 y22 k_ sl_, F_Rd_standsInSeveral c.fn s.rest.length c.cf s.mode s.levels s.signs s.loops t.k fa s.top.k s.top.pl s.top.wd s.top.sec s.top.pa s.top.ip s.top.ipl s.top.iw s.top.sg s.top.wb s.top.lim s.top.tg s.top.lb nx t.k t.pl t.wd (nI s.draft.length) c.nD c.bD (nI s.wait.length) = some ((y0, y1, y2, 0, y4, y5, y6, y7, y8, y9, y10, y11, y12, y13, y14, y15, y16, y17, y18, y19, y20, y21, y22), k_, sl_) ∧ RVd ((((c.s_fn y0).s_cf y2).s_nD y21).s_bD y22) y1 ∧ Gw c ((((c.s_fn y0).s_cf y2).s_nD y21).s_bD y22) k_ sl_) := by
  unfold F_Rd_standsInSeveral Rs.standsInSeveral
  by_cases x0 : s.mode = 20
  · rw [if_pos x0, if_pos x0]
    by_cases x100 : t.k = 126
    · rw [if_pos x100, if_pos x100]
      obtain ⟨nD1, bD1, k1, sl1, e1, hv, g1⟩ := a_addNothing h (t := t) (fa := fa) (nx := nx) (p1 := t.pl)
      exact Or.inl ⟨_, rfl, c.fn, c.cf, nD1, bD1, _, _, bw_ok (c' := 0) (s' := 0) e1 rfl, hv, g1, ⟨rfl, rfl, rfl⟩⟩
    · rw [if_neg x100, if_neg x100]
      by_cases x101 : t.k = 2
      · rw [if_pos x101, if_pos x101]
        obtain ⟨nD1, bD1, k1, sl1, e1, hv, g1⟩ := a_addTarget h (t := t) (fa := fa) (nx := nx)
        exact Or.inl ⟨_, rfl, c.fn, c.cf, nD1, bD1, _, _, bw_ok (c' := 0) (s' := 0) e1 rfl, hv, g1, ⟨rfl, rfl, rfl⟩⟩
      · rw [if_neg x101, if_neg x101]
        exact Or.inr ⟨rfl, _, _, _, _, _, _, _, _, _, _, _, _, _, _, _, _, _, _, _, _, _, _, _, _, rfl, h.dead, Gw.rfl rfl rfl rfl rfl⟩
  · rw [if_neg x0, if_neg x0]
    by_cases x1 : s.mode = 21
    · rw [if_pos x1, if_pos x1]
      by_cases x100 : t.k = 93
      · rw [if_pos x100, if_pos x100]
        obtain ⟨nD1, bD1, k1, sl1, e1, hv, g1⟩ := a_endTargets h (t := t) (fa := fa) (nx := nx) hm
        exact Or.inl ⟨_, rfl, c.fn, c.cf, nD1, bD1, _, _, bw_ok (c' := 0) (s' := 0) e1 rfl, hv, g1, ⟨rfl, rfl, rfl⟩⟩
      · rw [if_neg x100, if_neg x100]
        by_cases x101 : t.k = 44
        · rw [if_pos x101, if_pos x101]
          unfold Rs.roomTo
          rw [room_eq]
          unfold nm
          dsimp only
          by_cases b : s.top.ip < 8
          · rw [if_pos b, if_pos b, if_neg (show ¬ (1 : Int32) = 0 by decide)]
            exact Or.inl ⟨_, rfl, c.fn, c.cf, c.nD, c.bD, 0, 0, rfl, h.cg s.rest s.draft s.wait s.funs rfl rfl rfl rfl rfl rfl rfl rfl, Gw.rfl rfl rfl rfl rfl, ⟨rfl, rfl, rfl⟩⟩
          · rw [if_neg b, if_neg b, if_pos rfl]
            exact Or.inr ⟨rfl, _, _, _, _, _, _, _, _, _, _, _, _, _, _, _, _, _, _, _, _, _, _, _, _, rfl, h.dead, Gw.rfl rfl rfl rfl rfl⟩
        · rw [if_neg x101, if_neg x101]
          exact Or.inr ⟨rfl, _, _, _, _, _, _, _, _, _, _, _, _, _, _, _, _, _, _, _, _, _, _, _, _, rfl, h.dead, Gw.rfl rfl rfl rfl rfl⟩
    · rw [if_neg x1, if_neg x1]
      by_cases x2 : s.mode = 22
      · rw [if_pos x2, if_pos x2]
        by_cases x100 : t.k = 61
        · rw [if_pos x100, if_pos x100]
          exact Or.inl ⟨_, rfl, c.fn, c.cf, c.nD, c.bD, 0, 0, rfl, h.cg s.rest s.draft s.wait s.funs rfl rfl rfl rfl rfl rfl rfl rfl, Gw.rfl rfl rfl rfl rfl, ⟨rfl, rfl, rfl⟩⟩
        · rw [if_neg x100, if_neg x100]
          exact Or.inr ⟨rfl, _, _, _, _, _, _, _, _, _, _, _, _, _, _, _, _, _, _, _, _, _, _, _, _, rfl, h.dead, Gw.rfl rfl rfl rfl rfl⟩
      · rw [if_neg x2, if_neg x2]
        by_cases x3 : s.mode = 23
        · rw [if_pos x3, if_pos x3]
          by_cases x100 : t.k = 2
          · rw [if_pos x100, if_pos x100]
            obtain ⟨fn1, cf1, k1, sl1, e1, hv, g1⟩ := a_beginCall h (t := t) (fa := fa) (nx := nx)
            exact Or.inl ⟨_, rfl, fn1, cf1, c.nD, c.bD, _, _, bw_ok (c' := 0) (s' := 0) e1 rfl, hv, g1, ⟨rfl, rfl, rfl⟩⟩
          · rw [if_neg x100, if_neg x100]
            exact Or.inr ⟨rfl, _, _, _, _, _, _, _, _, _, _, _, _, _, _, _, _, _, _, _, _, _, _, _, _, rfl, h.dead, Gw.rfl rfl rfl rfl rfl⟩
        · rw [if_neg x3, if_neg x3]
          by_cases x4 : s.mode = 24
          · rw [if_pos x4, if_pos x4]
            by_cases x100 : t.k = 40
            · rw [if_pos x100, if_pos x100]
              unfold Rs.openCl F_Rd_goDeeper
              by_cases b : s.levels < 60
              · rw [if_pos b, if_pos b]
                unfold nm
                dsimp only
                rw [if_neg (show ¬ (1 : Int32) = 0 by decide)]
                exact Or.inl ⟨_, rfl, c.fn, c.cf, c.nD, c.bD, 0, 0, rfl, h.cg s.rest s.draft s.wait s.funs rfl rfl rfl rfl rfl rfl rfl rfl, Gw.rfl rfl rfl rfl rfl, ⟨rfl, rfl, rfl⟩⟩
              · rw [if_neg b, if_neg b]
                unfold nm
                dsimp only
                rw [if_pos rfl]
                exact Or.inr ⟨rfl, _, _, _, _, _, _, _, _, _, _, _, _, _, _, _, _, _, _, _, _, _, _, _, _, rfl, h.dead, Gw.rfl rfl rfl rfl rfl⟩
            · rw [if_neg x100, if_neg x100]
              exact Or.inr ⟨rfl, _, _, _, _, _, _, _, _, _, _, _, _, _, _, _, _, _, _, _, _, _, _, _, _, rfl, h.dead, Gw.rfl rfl rfl rfl rfl⟩
          · rw [if_neg x4, if_neg x4]
            by_cases x5 : s.mode = 25
            · rw [if_pos x5, if_pos x5]
              by_cases x100 : t.k = 59
              · rw [if_pos x100, if_pos x100]
                obtain ⟨fn1, cf1, nD1, bD1, k1, sl1, e1, hv, g1⟩ := a_endSeveral h (t := t) (fa := fa) (nx := nx)
                exact Or.inl ⟨_, rfl, fn1, cf1, nD1, bD1, _, _, bw_ok (c' := 0) (s' := 0) e1 rfl, hv, g1, ⟨rfl, rfl, rfl⟩⟩
              · rw [if_neg x100, if_neg x100]
                exact Or.inr ⟨rfl, _, _, _, _, _, _, _, _, _, _, _, _, _, _, _, _, _, _, _, _, _, _, _, _, rfl, h.dead, Gw.rfl rfl rfl rfl rfl⟩
            · rw [if_neg x5, if_neg x5]
              exact Or.inr ⟨rfl, _, _, _, _, _, _, _, _, _, _, _, _, _, _, _, _, _, _, _, _, _, _, _, _, rfl, h.dead, Gw.rfl rfl rfl rfl rfl⟩
theorem a_standsInExpression {s : Rs} {t : Tok} {c : Rw} {fa nx : Int32} (h : RV s c) (hm : Sm s.top.pa) (hm1 : Sm (s.top.pa + 1)) (hm2 : Sm s.top.ip) (hm3 : Sm (Rs.lastN s.draft.dropLast Nd.pa)) : (∃ s', (s.standsInExpression t) = some s' ∧ ∃ fn' cf' nD' bD' nW' bW' k_ sl_, F_Rd_standsInExpression c.fn s.rest.length c.cf s.mode s.levels s.signs s.loops t.k fa s.top.k s.top.pl s.top.wd s.top.sec s.top.pa s.top.ip s.top.ipl s.top.iw s.top.sg s.top.wb s.top.lim s.top.tg s.top.lb (nI s.draft.length) c.nD c.bD nx t.k t.pl t.wd (nI s.wait.length) c.nW c.bW = some ((fn', s'.rest.length, cf', 1, s'.mode, s'.levels, s'.signs, s'.top.k, s'.top.pl, s'.top.wd, s'.top.sec, s'.top.pa, s'.top.ip, s'.top.ipl, s'.top.iw, s'.top.sg, s'.top.wb, s'.top.lim, s'.top.tg, s'.top.lb, nI s'.draft.length, nI s'.wait.length, nD', bD', nW', bW'), k_, sl_) ∧ RV s' ((((((c.s_fn fn').s_cf cf').s_nD nD').s_bD bD').s_nW nW').s_bW bW') ∧ Gw c ((((((c.s_fn fn').s_cf cf').s_nD nD').s_bD bD').s_nW nW').s_bW bW') k_ sl_ ∧ s'.loops = s.loops ∧ s'.funs = s.funs) ∨ ((s.standsInExpression t) = none ∧ ∃ y0 y1 y2 y4 y5 y6 y7 y8 y9 y10 y11 y12 y13 y14 y15 y16 y17 y18 y19 y20 y21 y22 y23 y24 y25 k_ sl_, F_Rd_standsInExpression c.fn s.rest.length c.cf s.mode s.levels s.signs s.loops t.k fa s.top.k s.top.pl s.top.wd s.top.sec s.top.pa s.top.ip s.top.ipl s.top.iw s.top.sg s.top.wb s.top.lim s.top.tg s.top.lb (nI s.draft.length) c.nD c.bD nx t.k t.pl t.wd (nI s.wait.length) c.nW c.bW = some ((y0, y1, y2, 0, y4, y5, y6, y7, y8, y9, y10, y11, y12, y13, y14, y15, y16, y17, y18, y19, y20, y21, y22, y23, y24, y25), k_, sl_) ∧ RVd ((((((c.s_fn y0).s_cf y2).s_nD y22).s_bD y23).s_nW y24).s_bW y25) y1 ∧ Gw c ((((((c.s_fn y0).s_cf y2).s_nD y22).s_bD y23).s_nW y24).s_bW y25) k_ sl_) := by
  unfold F_Rd_standsInExpression Rs.standsInExpression
  by_cases x0 : s.mode = 30
  · rw [if_pos x0, if_pos x0]
    rcases a_takeAtStart h (t := t) (fa := fa) (nx := nx) hm with ⟨s', hs, fn1, cf1, nD1, bD1, nW1, bW1, k1, sl1, e1, hv, g1, z0, z1⟩ | ⟨hs, y0, y1, y2, y4, y5, y6, y7, y8, y9, y10, y11, y12, y13, y14, y15, y16, y17, y18, y19, y20, y21, y22, y23, y24, y25, k1, sl1, e1, hd, g1⟩
    · refine Or.inl ⟨s', hs, fn1, cf1, nD1, bD1, nW1, bW1, _, _, ?_, hv, g1, ⟨z0, z1⟩⟩
      simp only [z0, z1]
      exact bw_ok (c' := 0) (s' := 0) e1 rfl
    · exact Or.inr ⟨hs, _, _, _, _, _, _, _, _, _, _, _, _, _, _, _, _, _, _, _, _, _, _, _, _, _, _, _, bw_ok (c' := 0) (s' := 0) e1 rfl, hd, g1⟩
  · rw [if_neg x0, if_neg x0]
    by_cases x1 : s.mode = 31
    · rw [if_pos x1, if_pos x1]
      rcases a_takeOperand h (t := t) (fa := fa) (nx := nx) with ⟨s', hs, fn1, cf1, nD1, bD1, nW1, bW1, k1, sl1, e1, hv, g1, z0, z1⟩ | ⟨hs, y0, y1, y2, y4, y5, y6, y7, y8, y9, y10, y11, y12, y13, y14, y15, y16, y17, y18, y19, y20, y21, y22, y23, y24, y25, k1, sl1, e1, hd, g1⟩
      · refine Or.inl ⟨s', hs, fn1, cf1, nD1, bD1, nW1, bW1, _, _, ?_, hv, g1, ⟨z0, z1⟩⟩
        simp only [z0, z1]
        exact bw_ok (c' := 0) (s' := 0) e1 rfl
      · exact Or.inr ⟨hs, _, _, _, _, _, _, _, _, _, _, _, _, _, _, _, _, _, _, _, _, _, _, _, _, _, _, _, bw_ok (c' := 0) (s' := 0) e1 rfl, hd, g1⟩
    · rw [if_neg x1, if_neg x1]
      by_cases x2 : s.mode = 32
      · rw [if_pos x2, if_pos x2]
        rcases a_takeOperand h (t := t) (fa := fa) (nx := nx) with ⟨s', hs, fn1, cf1, nD1, bD1, nW1, bW1, k1, sl1, e1, hv, g1, z0, z1⟩ | ⟨hs, y0, y1, y2, y4, y5, y6, y7, y8, y9, y10, y11, y12, y13, y14, y15, y16, y17, y18, y19, y20, y21, y22, y23, y24, y25, k1, sl1, e1, hd, g1⟩
        · refine Or.inl ⟨s', hs, fn1, cf1, nD1, bD1, nW1, bW1, _, _, ?_, hv, g1, ⟨z0, z1⟩⟩
          simp only [z0, z1]
          exact bw_ok (c' := 0) (s' := 0) e1 rfl
        · exact Or.inr ⟨hs, _, _, _, _, _, _, _, _, _, _, _, _, _, _, _, _, _, _, _, _, _, _, _, _, _, _, _, bw_ok (c' := 0) (s' := 0) e1 rfl, hd, g1⟩
      · rw [if_neg x2, if_neg x2]
        by_cases x3 : s.mode = 33
        · rw [if_pos x3, if_pos x3]
          rcases a_takeOperand h (t := t) (fa := fa) (nx := nx) with ⟨s', hs, fn1, cf1, nD1, bD1, nW1, bW1, k1, sl1, e1, hv, g1, z0, z1⟩ | ⟨hs, y0, y1, y2, y4, y5, y6, y7, y8, y9, y10, y11, y12, y13, y14, y15, y16, y17, y18, y19, y20, y21, y22, y23, y24, y25, k1, sl1, e1, hd, g1⟩
          · refine Or.inl ⟨s', hs, fn1, cf1, nD1, bD1, nW1, bW1, _, _, ?_, hv, g1, ⟨z0, z1⟩⟩
            simp only [z0, z1]
            exact bw_ok (c' := 0) (s' := 0) e1 rfl
          · exact Or.inr ⟨hs, _, _, _, _, _, _, _, _, _, _, _, _, _, _, _, _, _, _, _, _, _, _, _, _, _, _, _, bw_ok (c' := 0) (s' := 0) e1 rfl, hd, g1⟩
        · rw [if_neg x3, if_neg x3]
          by_cases x4 : s.mode = 34
          · rw [if_pos x4, if_pos x4]
            rcases a_takeOperator h (t := t) (fa := fa) (nx := nx) hm hm1 hm2 with ⟨s', hs, fn1, cf1, nD1, bD1, nW1, bW1, k1, sl1, e1, hv, g1, z0, z1⟩ | ⟨hs, y0, y1, y2, y4, y5, y6, y7, y8, y9, y10, y11, y12, y13, y14, y15, y16, y17, y18, y19, y20, y21, y22, y23, y24, y25, k1, sl1, e1, hd, g1⟩
            · refine Or.inl ⟨s', hs, fn1, cf1, nD1, bD1, nW1, bW1, _, _, ?_, hv, g1, ⟨z0, z1⟩⟩
              simp only [z0, z1]
              exact bw_ok (c' := 0) (s' := 0) e1 rfl
            · exact Or.inr ⟨hs, _, _, _, _, _, _, _, _, _, _, _, _, _, _, _, _, _, _, _, _, _, _, _, _, _, _, _, bw_ok (c' := 0) (s' := 0) e1 rfl, hd, g1⟩
          · rw [if_neg x4, if_neg x4]
            by_cases x5 : s.mode = 35
            · rw [if_pos x5, if_pos x5]
              by_cases x100 : t.k = 44
              · rw [if_pos x100, if_pos x100]
                rcases a_takeOperator h (t := t) (fa := fa) (nx := nx) hm hm1 hm2 with ⟨s', hs, fn1, cf1, nD1, bD1, nW1, bW1, k1, sl1, e1, hv, g1, z0, z1⟩ | ⟨hs, y0, y1, y2, y4, y5, y6, y7, y8, y9, y10, y11, y12, y13, y14, y15, y16, y17, y18, y19, y20, y21, y22, y23, y24, y25, k1, sl1, e1, hd, g1⟩
                · refine Or.inl ⟨s', hs, fn1, cf1, nD1, bD1, nW1, bW1, _, _, ?_, hv, g1, ⟨z0, z1⟩⟩
                  simp only [z0, z1]
                  exact bw_ok (c' := 0) (s' := 0) e1 (if_neg (show ¬ (1 : Int32) = 0 by decide))
                · exact Or.inr ⟨hs, _, _, _, _, _, _, _, _, _, _, _, _, _, _, _, _, _, _, _, _, _, _, _, _, _, _, _, bw_ok (c' := 0) (s' := 0) e1 (if_pos rfl), hd, g1⟩
              · rw [if_neg x100, if_neg x100]
                by_cases x101 : t.k = 41
                · rw [if_pos x101, if_pos x101]
                  rcases a_takeOperator h (t := t) (fa := fa) (nx := nx) hm hm1 hm2 with ⟨s', hs, fn1, cf1, nD1, bD1, nW1, bW1, k1, sl1, e1, hv, g1, z0, z1⟩ | ⟨hs, y0, y1, y2, y4, y5, y6, y7, y8, y9, y10, y11, y12, y13, y14, y15, y16, y17, y18, y19, y20, y21, y22, y23, y24, y25, k1, sl1, e1, hd, g1⟩
                  · refine Or.inl ⟨s', hs, fn1, cf1, nD1, bD1, nW1, bW1, _, _, ?_, hv, g1, ⟨z0, z1⟩⟩
                    simp only [z0, z1]
                    exact bw_ok (c' := 0) (s' := 0) e1 (if_neg (show ¬ (1 : Int32) = 0 by decide))
                  · exact Or.inr ⟨hs, _, _, _, _, _, _, _, _, _, _, _, _, _, _, _, _, _, _, _, _, _, _, _, _, _, _, _, bw_ok (c' := 0) (s' := 0) e1 (if_pos rfl), hd, g1⟩
                · rw [if_neg x101, if_neg x101]
                  exact Or.inr ⟨rfl, _, _, _, _, _, _, _, _, _, _, _, _, _, _, _, _, _, _, _, _, _, _, _, _, _, _, _, rfl, h.dead, Gw.rfl rfl rfl rfl rfl⟩
            · rw [if_neg x5, if_neg x5]
              by_cases x6 : s.mode = 36
              · rw [if_pos x6, if_pos x6]
                exact Or.inr ⟨rfl, _, _, _, _, _, _, _, _, _, _, _, _, _, _, _, _, _, _, _, _, _, _, _, _, _, _, _, rfl, h.dead, Gw.rfl rfl rfl rfl rfl⟩
              · rw [if_neg x6, if_neg x6]
                by_cases x7 : s.mode = 37
                · rw [if_pos x7, if_pos x7]
                  exact Or.inr ⟨rfl, _, _, _, _, _, _, _, _, _, _, _, _, _, _, _, _, _, _, _, _, _, _, _, _, _, _, _, rfl, h.dead, Gw.rfl rfl rfl rfl rfl⟩
                · rw [if_neg x7, if_neg x7]
                  by_cases x8 : s.mode = 38
                  · rw [if_pos x8, if_pos x8]
                    exact Or.inr ⟨rfl, _, _, _, _, _, _, _, _, _, _, _, _, _, _, _, _, _, _, _, _, _, _, _, _, _, _, _, rfl, h.dead, Gw.rfl rfl rfl rfl rfl⟩
                  · rw [if_neg x8, if_neg x8]
                    by_cases x9 : s.mode = 39
                    · rw [if_pos x9, if_pos x9]
                      exact Or.inr ⟨rfl, _, _, _, _, _, _, _, _, _, _, _, _, _, _, _, _, _, _, _, _, _, _, _, _, _, _, _, rfl, h.dead, Gw.rfl rfl rfl rfl rfl⟩
                    · rw [if_neg x9, if_neg x9]
                      by_cases x10 : s.mode = 40
                      · rw [if_pos x10, if_pos x10]
                        unfold Rs.openArgs F_Rd_goDeeper
                        by_cases b : s.levels < 60
                        · rw [if_pos b, if_pos b]
                          unfold nm
                          dsimp only
                          rw [if_neg (show ¬ (1 : Int32) = 0 by decide)]
                          obtain ⟨fn1, cf1, k1, sl1, e1, hv, g1⟩ := a_openArguments (s := (s.s_levels (s.levels + 1))) h (t := t) (fa := fa) (nx := nx)
                          exact Or.inl ⟨_, rfl, fn1, cf1, c.nD, c.bD, c.nW, c.bW, _, _, bw_ok (c' := 0) (s' := 0) e1 rfl, hv, g1, ⟨rfl, rfl⟩⟩
                        · rw [if_neg b, if_neg b]
                          unfold nm
                          dsimp only
                          rw [if_pos rfl]
                          exact Or.inr ⟨rfl, _, _, _, _, _, _, _, _, _, _, _, _, _, _, _, _, _, _, _, _, _, _, _, _, _, _, _, rfl, h.dead, Gw.rfl rfl rfl rfl rfl⟩
                      · rw [if_neg x10, if_neg x10]
                        by_cases x11 : s.mode = 41
                        · rw [if_pos x11, if_pos x11]
                          obtain ⟨nD1, bD1, k1, sl1, e1, hv, g1⟩ := a_turnRowsToTargets h (t := t) (fa := fa) (nx := nx) hm3
                          exact Or.inl ⟨_, rfl, c.fn, c.cf, nD1, bD1, c.nW, c.bW, _, _, bw_ok (c' := 0) (s' := 0) e1 rfl, hv, g1, ⟨rfl, rfl⟩⟩
                        · rw [if_neg x11, if_neg x11]
                          exact Or.inr ⟨rfl, _, _, _, _, _, _, _, _, _, _, _, _, _, _, _, _, _, _, _, _, _, _, _, _, _, _, _, rfl, h.dead, Gw.rfl rfl rfl rfl rfl⟩
end

section
theorem nf_2 {s : Rs} {t : Tok} {c : Rw} {fa : Int32} (h : RV s c) {x1 : Int32} {x2 : Nat} {x3 : Nat → Int32} {sm : Int32 → Int32 → Int32 → Bool} (hsm : ∀ p q w : Int32, w.toNatClampNeg < 2 ^ 17 → F_Rw_same p q w x1 x2 x3 = some (if sm p q w = true then 1 else 0)) (hw : Sm s.top.wd) : ∀ (fu i : Nat), s.funs.length - i < fu → i ≤ s.funs.length → F_Rd_nameFunction_2 s.mode s.levels s.signs s.loops t.k fa (nI s.funs.length) s.top.k s.top.pl s.top.wd s.top.sec s.top.pa s.top.ip s.top.ipl s.top.iw s.top.sg s.top.wb s.top.lim s.top.tg s.top.lb c.nF c.bF (nI s.draft.length) c.nD c.bD x1 x2 x3 fu (nI i) = if (s.funs.drop i).any (fun f : Wt => f.wd == s.top.wd && sm f.pl s.top.sec s.top.wd) = true then some (((0 : Int32), nI s.funs.length, s.top.pa, s.top.ip, nI s.draft.length, c.nF, c.bF, c.nD, c.bD), 0, 0) else (bw (F_Tk_add 10 s.top.sec s.top.wd (nI s.funs.length) c.nF c.bF) fun ⟨r3, r4, r5⟩ => bw (F_Rd_endNames s.top.sec s.mode s.levels s.signs s.loops t.k fa s.top.k s.top.pl s.top.wd s.top.sec s.top.pa s.top.ip s.top.ipl s.top.iw s.top.sg s.top.wb s.top.lim s.top.tg s.top.lb (nI s.draft.length) c.nD c.bD) fun ⟨r12, r13, r14⟩ => some (((1 : Int32), r3, s.top.pa + 1, (0 : Int32), r12, r4, r5, r13, r14), 0, 0))
  | 0, i, h1, h2 => by omega
  | fu + 1, i, h1, h2 => by
    have hl := h.2.2.2.2.2
    unfold F_Rd_nameFunction_2
    by_cases c0 : i < s.funs.length
    · have g3 := Tk_get h.2.2.2.2.1 (i := i) (j := 3) (by rw [List.length_map]; exact c0) (by omega)
      have g1 := Tk_get h.2.2.2.2.1 (i := i) (j := 1) (by rw [List.length_map]; exact c0) (by omega)
      simp only [List.length_map, List.getElem_map] at g3 g1
      have g3 : F_Tk_get (nI i) 3 (nI s.funs.length) c.nF c.bF = some (s.funs[i]).wd := g3
      have g1 : F_Tk_get (nI i) 1 (nI s.funs.length) c.nF c.bF = some (s.funs[i]).pl := g1
      rw [if_neg (show ¬ nI s.funs.length ≤ nI i by simp (disch := omega) only [lit_nI, nI_eq', nI_add', nI_le', nI_lt', nI_nn, nI_ge0, nI_clamp', nI_ne1, nI_ne2, nI_ne3, m1_lt, m1_le, m1_ge, m1_gt, if_false, if_true, Option.bind_some, nm_app]; omega), g3, Option.bind_some]
      have ih := nf_2 h hsm hw (t := t) (fa := fa) fu (i + 1) (by omega) (by omega)
      have e1 : nI i + 1 = nI (i + 1) := nI_add' _ 1
      rw [List.drop_eq_getElem_cons c0, List.any_cons]
      by_cases a : (s.funs[i]).wd = s.top.wd
      · rw [if_pos a, g1, Option.bind_some, hsm _ _ _ hw, Option.bind_some]
        by_cases b : sm (s.funs[i]).pl s.top.sec s.top.wd = true
        · rw [if_pos b, if_neg (show ¬ (1 : Int32) = 0 by decide), if_pos (by simp [a, b])]
        · rw [if_neg b, if_pos rfl, e1, ih]
          have : ((s.funs[i]).wd == s.top.wd && sm (s.funs[i]).pl s.top.sec s.top.wd) = false := by simp [b]
          rw [this, Bool.false_or]
      · rw [if_neg a, e1, ih]
        have : ((s.funs[i]).wd == s.top.wd && sm (s.funs[i]).pl s.top.sec s.top.wd) = false := by simp [a]
        rw [this, Bool.false_or]
    · rw [if_pos (show nI s.funs.length ≤ nI i by simp (disch := omega) only [lit_nI, nI_eq', nI_add', nI_le', nI_lt', nI_nn, nI_ge0, nI_clamp', nI_ne1, nI_ne2, nI_ne3, m1_lt, m1_le, m1_ge, m1_gt, if_false, if_true, Option.bind_some, nm_app]; omega), List.drop_eq_nil_of_le (by omega), List.any_nil, if_neg (by decide)]
theorem a_nameFunction {s : Rs} {t : Tok} {c : Rw} {fa nx : Int32} (h : RV s c) {x1 : Int32} {x2 : Nat} {x3 : Nat → Int32} {sm : Int32 → Int32 → Int32 → Bool} (hsm : ∀ p q w : Int32, w.toNatClampNeg < 2 ^ 17 → F_Rw_same p q w x1 x2 x3 = some (if sm p q w = true then 1 else 0)) (hw : Sm s.top.wd) (hm : Sm s.top.ip) : (∃ s', (s.nameFunction sm) = some s' ∧ ∃ nF' bF' nD' bD' k_ sl_, F_Rd_nameFunction s.mode s.levels s.signs s.loops t.k fa (nI s.funs.length) s.top.k s.top.pl s.top.wd s.top.sec s.top.pa s.top.ip s.top.ipl s.top.iw s.top.sg s.top.wb s.top.lim s.top.tg s.top.lb c.nF c.bF (nI s.draft.length) c.nD c.bD x1 x2 x3 = some ((1, nI s'.funs.length, s'.top.pa, s'.top.ip, nI s'.draft.length, nF', bF', nD', bD'), k_, sl_) ∧ RV s' ((((c.s_nF nF').s_bF bF').s_nD nD').s_bD bD') ∧ Gw c ((((c.s_nF nF').s_bF bF').s_nD nD').s_bD bD') k_ sl_ ∧ s'.mode = s.mode ∧ s'.levels = s.levels ∧ s'.signs = s.signs ∧ s'.loops = s.loops ∧ s'.rest = s.rest ∧ s'.top.k = s.top.k ∧ s'.top.pl = s.top.pl ∧ s'.top.wd = s.top.wd ∧ s'.top.sec = s.top.sec ∧ s'.top.ipl = s.top.ipl ∧ s'.top.iw = s.top.iw ∧ s'.top.sg = s.top.sg ∧ s'.top.wb = s.top.wb ∧ s'.top.lim = s.top.lim ∧ s'.top.tg = s.top.tg ∧ s'.top.lb = s.top.lb ∧ s'.wait = s.wait) ∨ ((s.nameFunction sm) = none ∧ ∃ y1 y2 y3 y4 y5 y6 y7 y8 k_ sl_, F_Rd_nameFunction s.mode s.levels s.signs s.loops t.k fa (nI s.funs.length) s.top.k s.top.pl s.top.wd s.top.sec s.top.pa s.top.ip s.top.ipl s.top.iw s.top.sg s.top.wb s.top.lim s.top.tg s.top.lb c.nF c.bF (nI s.draft.length) c.nD c.bD x1 x2 x3 = some ((0, y1, y2, y3, y4, y5, y6, y7, y8), k_, sl_) ∧ RVd ((((c.s_nF y5).s_bF y6).s_nD y7).s_bD y8) s.rest.length ∧ Gw c ((((c.s_nF y5).s_bF y6).s_nD y7).s_bD y8) k_ sl_) := by
  have e := nf_2 h hsm hw (t := t) (fa := fa) FU 0 (by have := h.2.2.2.2.2; unfold FU; omega) (by omega)
  unfold F_Rd_nameFunction
  have e0 : (0 : Int32) = nI 0 := rfl
  rw [e0, e, List.drop_zero]
  unfold Rs.nameFunction
  by_cases a : s.funs.any (fun f : Wt => f.wd == s.top.wd && sm f.pl s.top.sec s.top.wd) = true
  · rw [if_pos a, if_pos a]
    exact Or.inr ⟨rfl, _, _, _, _, _, _, _, _, _, _, rfl, h.dead, Gw.rfl rfl rfl rfl rfl⟩
  · rw [if_neg a, if_neg a]
    obtain ⟨nF1, bF1, k1, sl1, e1, hv1, g1⟩ := a_fadd h (k := 10) (p := s.top.sec) (w := s.top.wd)
    obtain ⟨nD1, bD1, k2, sl2, e2, hv2, g2⟩ := a_endNames hv1 (t := t) (p1 := s.top.sec) (fa := fa) (nx := nx) hm
    exact Or.inl ⟨_, rfl, nF1, bF1, nD1, bD1, _, _, bw_ok e1 (bw_ok (c' := 0) (s' := 0) e2 rfl), hv2, g1.trans g2, ⟨rfl, rfl, rfl, rfl, rfl, rfl, rfl, rfl, rfl, rfl, rfl, rfl, rfl, rfl, rfl, rfl, rfl⟩⟩
theorem ad_12 {s : Rs} {t : Tok} {c : Rw} {fa nx p1 : Int32} (h : RV s c) {x1 : Int32} {x2 : Nat} {x3 : Nat → Int32} {sm : Int32 → Int32 → Int32 → Bool} (hsm : ∀ p q w : Int32, w.toNatClampNeg < 2 ^ 17 → F_Rw_same p q w x1 x2 x3 = some (if sm p q w = true then 1 else 0)) (hw : Sm t.wd) (hw2 : t.wd ≠ -1) (hm : Sm s.top.ip) : ∀ (fu i : Nat), s.top.ip.toNatClampNeg + 1 - i < fu → 1 ≤ i → i ≤ s.top.ip.toNatClampNeg + 1 → F_Rd_addDifferentName_12 p1 s.mode s.levels s.signs s.loops t.k fa s.top.ip nx t.k t.pl t.wd (nI s.draft.length) c.nD c.bD x1 x2 x3 fu (nI i) = if ((s.draft.reverse.take s.top.ip.toNatClampNeg).drop (i - 1)).any (fun d : Nd => d.wd == t.wd && sm d.pl t.pl t.wd) = true then some (((0 : Int32), s.mode, s.top.ip, nI s.draft.length, c.nD, c.bD), 0, 0) else (bw (F_Rd_addName p1 s.mode s.levels s.signs s.loops t.k fa nx t.k t.pl t.wd (nI s.draft.length) c.nD c.bD) fun ⟨r2, r3, r4⟩ => some (((1 : Int32), p1, s.top.ip + 1, r2, r3, r4), 0, 0))
  | 0, i, h1, h2, h3 => by omega
  | fu + 1, i, h1, h2, h3 => by
    have hl := h.2.2.1.2
    have hc := h.2.2.1.1.cap.le
    unfold Sm at hm
    unfold F_Rd_addDifferentName_12
    by_cases c0 : i ≤ s.top.ip.toNatClampNeg
    · have hnn : 0 ≤ s.top.ip := by
        by_cases x : 0 ≤ s.top.ip
        · exact x
        · have := (i32_nn _ x).1
          omega
      have hip := i32_cl _ hnn
      have hlt : ¬ s.top.ip < nI i := by
        rw [hip]
        simp (disch := omega) only [lit_nI, nI_eq', nI_add', nI_le', nI_lt', nI_nn, nI_ge0, nI_clamp', nI_ne1, nI_ne2, nI_ne3, m1_lt, m1_le, m1_ge, m1_gt, if_false, if_true, Option.bind_some, nm_app]
        omega
      rw [if_neg hlt]
      have ih := ad_12 h hsm hw hw2 hm (nx := nx) (p1 := p1) (t := t) (fa := fa) fu (i + 1) (by omega) (by omega) (by omega)
      have e1 : nI i + 1 = nI (i + 1) := nI_add' _ 1
      rw [show i + 1 - 1 = i by omega] at ih
      by_cases c1 : i ≤ s.draft.length
      · have hx : s.draft.length - i < s.draft.length := by omega
        have g4 := Nd_get h.2.2.1.1.tab (by omega) (i := s.draft.length - i) (j := 4) (by rw [List.length_map]; exact hx) (by omega)
        have g1 := Nd_get h.2.2.1.1.tab (by omega) (i := s.draft.length - i) (j := 1) (by rw [List.length_map]; exact hx) (by omega)
        simp only [List.length_map, List.getElem_map] at g4 g1
        have g4 : F_Nd_get (nI (s.draft.length - i)) 4 (nI s.draft.length) c.nD c.bD = some (s.draft[s.draft.length - i]).wd := g4
        have g1 : F_Nd_get (nI (s.draft.length - i)) 1 (nI s.draft.length) c.nD c.bD = some (s.draft[s.draft.length - i]).pl := g1
        rw [nI_sub' c1, g4, Option.bind_some]
        have hj : i - 1 < (s.draft.reverse.take s.top.ip.toNatClampNeg).length := by
          rw [List.length_take, List.length_reverse]; omega
        have ej : (s.draft.reverse.take s.top.ip.toNatClampNeg)[i - 1] = s.draft[s.draft.length - i] := by
          rw [List.getElem_take, List.getElem_reverse]
          congr 1
          omega
        rw [List.drop_eq_getElem_cons hj, List.any_cons, ej, show i - 1 + 1 = i by omega]
        by_cases a : (s.draft[s.draft.length - i]).wd = t.wd
        · rw [if_pos a, g1, Option.bind_some, hsm _ _ _ hw, Option.bind_some]
          by_cases b : sm (s.draft[s.draft.length - i]).pl t.pl t.wd = true
          · rw [if_pos b, if_neg (show ¬ (1 : Int32) = 0 by decide), if_pos (by simp [a, b])]
          · rw [if_neg b, if_pos rfl, e1, ih]
            have : ((s.draft[s.draft.length - i]).wd == t.wd && sm (s.draft[s.draft.length - i]).pl t.pl t.wd) = false := by simp [b]
            rw [this, Bool.false_or]
        · rw [if_neg a, e1, ih]
          have : ((s.draft[s.draft.length - i]).wd == t.wd && sm (s.draft[s.draft.length - i]).pl t.pl t.wd) = false := by simp [a]
          rw [this, Bool.false_or]
      · have hneg : nI s.draft.length - nI i < 0 := by
          have hb : (nI s.draft.length - nI i).toInt = (s.draft.length : Int) - (i : Int) := by
            rw [Int32.toInt_sub]
            unfold nI
            rw [Int32.toInt_ofNat_of_lt (by omega), Int32.toInt_ofNat_of_lt (by omega), Int.bmod_eq_of_le (by omega) (by omega)]
          refine Int32.lt_iff_toInt_lt.mpr ?_
          rw [hb]
          have : (0 : Int32).toInt = 0 := rfl
          omega
        rw [Nd_get_neg hneg, Option.bind_some, if_neg (show ¬ (-1 : Int32) = t.wd from fun x => hw2 x.symm), e1, ih]
        have k1 : (s.draft.reverse.take s.top.ip.toNatClampNeg).drop (i - 1) = [] := List.drop_eq_nil_of_le (by rw [List.length_take, List.length_reverse]; omega)
        have k2 : (s.draft.reverse.take s.top.ip.toNatClampNeg).drop i = [] := List.drop_eq_nil_of_le (by rw [List.length_take, List.length_reverse]; omega)
        rw [k1, k2]
    · have hlt : s.top.ip < nI i := by
        by_cases x : 0 ≤ s.top.ip
        · rw [i32_cl _ x]
          simp (disch := omega) only [lit_nI, nI_eq', nI_add', nI_le', nI_lt', nI_nn, nI_ge0, nI_clamp', nI_ne1, nI_ne2, nI_ne3, m1_lt, m1_le, m1_ge, m1_gt, if_false, if_true, Option.bind_some, nm_app]
          omega
        · have h5 := Int32.lt_iff_toInt_lt.mp (i32_nn _ x).2
          refine Int32.lt_iff_toInt_lt.mpr ?_
          unfold nI
          rw [Int32.toInt_ofNat_of_lt (by omega)]
          have : (0 : Int32).toInt = 0 := rfl
          omega
      rw [if_pos hlt, List.drop_eq_nil_of_le (by rw [List.length_take]; omega), List.any_nil, if_neg (by decide)]
theorem a_addDifferentName {s : Rs} {t : Tok} {c : Rw} {fa nx : Int32} (h : RV s c) {p1 : Int32} {x1 : Int32} {x2 : Nat} {x3 : Nat → Int32} {sm : Int32 → Int32 → Int32 → Bool} (hsm : ∀ p q w : Int32, w.toNatClampNeg < 2 ^ 17 → F_Rw_same p q w x1 x2 x3 = some (if sm p q w = true then 1 else 0)) (hw : Sm t.wd) (hw2 : t.wd ≠ -1) (hm : Sm s.top.ip) : (∃ s', (s.addDifferentName t sm p1) = some s' ∧ ∃ nD' bD' k_ sl_, F_Rd_addDifferentName p1 s.mode s.levels s.signs s.loops t.k fa s.top.k s.top.pl s.top.wd s.top.sec s.top.pa s.top.ip s.top.ipl s.top.iw s.top.sg s.top.wb s.top.lim s.top.tg s.top.lb nx t.k t.pl t.wd (nI s.draft.length) c.nD c.bD x1 x2 x3 = some ((1, s'.mode, s'.top.ip, nI s'.draft.length, nD', bD'), k_, sl_) ∧ RV s' ((c.s_nD nD').s_bD bD') ∧ Gw c ((c.s_nD nD').s_bD bD') k_ sl_ ∧ s'.levels = s.levels ∧ s'.signs = s.signs ∧ s'.loops = s.loops ∧ s'.rest = s.rest ∧ s'.top.k = s.top.k ∧ s'.top.pl = s.top.pl ∧ s'.top.wd = s.top.wd ∧ s'.top.sec = s.top.sec ∧ s'.top.pa = s.top.pa ∧ s'.top.ipl = s.top.ipl ∧ s'.top.iw = s.top.iw ∧ s'.top.sg = s.top.sg ∧ s'.top.wb = s.top.wb ∧ s'.top.lim = s.top.lim ∧ s'.top.tg = s.top.tg ∧ s'.top.lb = s.top.lb ∧ s'.wait = s.wait ∧ s'.funs = s.funs) ∨ ((s.addDifferentName t sm p1) = none ∧ ∃ y1 y2 y3 y4 y5 k_ sl_, F_Rd_addDifferentName p1 s.mode s.levels s.signs s.loops t.k fa s.top.k s.top.pl s.top.wd s.top.sec s.top.pa s.top.ip s.top.ipl s.top.iw s.top.sg s.top.wb s.top.lim s.top.tg s.top.lb nx t.k t.pl t.wd (nI s.draft.length) c.nD c.bD x1 x2 x3 = some ((0, y1, y2, y3, y4, y5), k_, sl_) ∧ RVd ((c.s_nD y4).s_bD y5) s.rest.length ∧ Gw c ((c.s_nD y4).s_bD y5) k_ sl_) := by
  unfold F_Rd_addDifferentName Rs.addDifferentName
  by_cases a : t.k = 2
  · rw [if_pos a, if_neg (show ¬ t.k ≠ 2 from fun x => x a)]
    have e := ad_12 h hsm hw hw2 hm (nx := nx) (p1 := p1) (t := t) (fa := fa) FU 1 (by unfold Sm at hm; unfold FU; omega) (by omega) (by omega)
    have e0 : (1 : Int32) = nI 1 := rfl
    rw [← e0, show 1 - 1 = 0 from rfl, List.drop_zero] at e
    rw [e]
    unfold Rs.dif
    by_cases b : (s.draft.reverse.take s.top.ip.toNatClampNeg).any (fun d : Nd => d.wd == t.wd && sm d.pl t.pl t.wd) = true
    · rw [if_pos b, if_pos b]
      exact Or.inr ⟨rfl, _, _, _, _, _, _, _, rfl, h.dead, Gw.rfl rfl rfl rfl rfl⟩
    · rw [if_neg b, if_neg b]
      obtain ⟨nD1, bD1, k1, sl1, e1, hv1, g1⟩ := a_addName h (t := t) (p1 := p1) (fa := fa) (nx := nx)
      exact Or.inl ⟨_, rfl, nD1, bD1, _, _, bw_ok (c' := 0) (s' := 0) e1 rfl, hv1, g1, ⟨rfl, rfl, rfl, rfl, rfl, rfl, rfl, rfl, rfl, rfl, rfl, rfl, rfl, rfl, rfl, rfl, rfl, rfl⟩⟩
  · rw [if_neg a, if_pos (show t.k ≠ 2 from a)]
    exact Or.inr ⟨rfl, _, _, _, _, _, _, _, rfl, h.dead, Gw.rfl rfl rfl rfl rfl⟩
end

section
theorem a_takeFirstAsName {s : Rs} {t : Tok} {c : Rw} {fa nx : Int32} (h : RV s c) {x1 : Int32} {x2 : Nat} {x3 : Nat → Int32} {sm : Int32 → Int32 → Int32 → Bool} (hsm : ∀ p q w : Int32, w.toNatClampNeg < 2 ^ 17 → F_Rw_same p q w x1 x2 x3 = some (if sm p q w = true then 1 else 0)) (hw : Sm s.top.wd) (hm : Sm s.top.ip) : (∃ s', (s.firstAsName t sm) = some s' ∧ ∃ nF' bF' nD' bD' k_ sl_, F_Rd_takeFirstAsName s.mode s.levels s.signs s.loops t.k fa (nI s.funs.length) s.top.k s.top.pl s.top.wd s.top.sec s.top.pa s.top.ip s.top.ipl s.top.iw s.top.sg s.top.wb s.top.lim s.top.tg s.top.lb c.nF c.bF (nI s.draft.length) c.nD c.bD x1 x2 x3 nx t.k t.pl t.wd = some ((1, s'.mode, nI s'.funs.length, s'.top.pa, s'.top.ip, s'.top.ipl, nI s'.draft.length, nF', bF', nD', bD'), k_, sl_) ∧ RV s' ((((c.s_nF nF').s_bF bF').s_nD nD').s_bD bD') ∧ Gw c ((((c.s_nF nF').s_bF bF').s_nD nD').s_bD bD') k_ sl_ ∧ s'.levels = s.levels ∧ s'.signs = s.signs ∧ s'.loops = s.loops ∧ s'.rest = s.rest ∧ s'.top.k = s.top.k ∧ s'.top.pl = s.top.pl ∧ s'.top.wd = s.top.wd ∧ s'.top.sec = s.top.sec ∧ s'.top.iw = s.top.iw ∧ s'.top.sg = s.top.sg ∧ s'.top.wb = s.top.wb ∧ s'.top.lim = s.top.lim ∧ s'.top.tg = s.top.tg ∧ s'.top.lb = s.top.lb ∧ s'.wait = s.wait) ∨ ((s.firstAsName t sm) = none ∧ ∃ y1 y2 y3 y4 y5 y6 y7 y8 y9 y10 k_ sl_, F_Rd_takeFirstAsName s.mode s.levels s.signs s.loops t.k fa (nI s.funs.length) s.top.k s.top.pl s.top.wd s.top.sec s.top.pa s.top.ip s.top.ipl s.top.iw s.top.sg s.top.wb s.top.lim s.top.tg s.top.lb c.nF c.bF (nI s.draft.length) c.nD c.bD x1 x2 x3 nx t.k t.pl t.wd = some ((0, y1, y2, y3, y4, y5, y6, y7, y8, y9, y10), k_, sl_) ∧ RVd ((((c.s_nF y7).s_bF y8).s_nD y9).s_bD y10) s.rest.length ∧ Gw c ((((c.s_nF y7).s_bF y8).s_nD y9).s_bD y10) k_ sl_) := by
  unfold F_Rd_takeFirstAsName Rs.firstAsName
  rcases a_nameFunction h (t := t) (fa := fa) (nx := nx) hsm hw hm with ⟨s', hs, nF1, bF1, nD1, bD1, k1, sl1, e1, hv, g1, z0, z1, z2, z3, z4, z5, z6, z7, z8, z9, z10, z11, z12, z13, z14, z15, z16⟩ | ⟨hs, y1, y2, y3, y4, y5, y6, y7, y8, k1, sl1, e1, hd, g1⟩
  · rw [hs]
    exact Or.inl ⟨s'.openParameters t, rfl, nF1, bF1, nD1, bD1, _, _, bw_ok (c' := 0) (s' := 0) e1 (if_neg (show ¬ (1 : Int32) = 0 by decide)), hv.cg s'.rest s'.draft s'.wait s'.funs rfl rfl rfl rfl rfl rfl rfl rfl, g1, ⟨z1, z2, z3, z4, z5, z6, z7, z8, z10, z11, z12, z13, z14, z15, z16⟩⟩
  · rw [hs]
    exact Or.inr ⟨rfl, _, _, _, _, _, _, _, _, _, _, _, _, bw_ok (c' := 0) (s' := 0) e1 (if_pos rfl), hd, g1⟩
theorem a_standsInFunctionHead {s : Rs} {t : Tok} {c : Rw} {fa nx : Int32} (h : RV s c) {x1 : Int32} {x2 : Nat} {x3 : Nat → Int32} {sm : Int32 → Int32 → Int32 → Bool} (hsm : ∀ p q w : Int32, w.toNatClampNeg < 2 ^ 17 → F_Rw_same p q w x1 x2 x3 = some (if sm p q w = true then 1 else 0)) (hw : Sm t.wd) (hw2 : t.wd ≠ -1) (hwt : Sm s.top.wd) (hm : Sm s.top.ip) : (∃ s', (s.standsInFunctionHead t sm) = some s' ∧ ∃ nF' bF' nD' bD' k_ sl_, F_Rd_standsInFunctionHead s.mode s.levels s.signs s.loops t.k fa nx t.k t.pl t.wd s.top.k s.top.pl s.top.wd s.top.sec s.top.pa s.top.ip s.top.ipl s.top.iw s.top.sg s.top.wb s.top.lim s.top.tg s.top.lb (nI s.funs.length) c.nF c.bF (nI s.draft.length) c.nD c.bD x1 x2 x3 = some ((1, s'.mode, s'.top.wd, s'.top.sec, s'.top.pa, s'.top.ip, s'.top.ipl, nI s'.funs.length, nI s'.draft.length, nF', bF', nD', bD'), k_, sl_) ∧ RV s' ((((c.s_nF nF').s_bF bF').s_nD nD').s_bD bD') ∧ Gw c ((((c.s_nF nF').s_bF bF').s_nD nD').s_bD bD') k_ sl_ ∧ s'.levels = s.levels ∧ s'.signs = s.signs ∧ s'.loops = s.loops ∧ s'.rest = s.rest ∧ s'.top.k = s.top.k ∧ s'.top.pl = s.top.pl ∧ s'.top.iw = s.top.iw ∧ s'.top.sg = s.top.sg ∧ s'.top.wb = s.top.wb ∧ s'.top.lim = s.top.lim ∧ s'.top.tg = s.top.tg ∧ s'.top.lb = s.top.lb ∧ s'.wait = s.wait) ∨ ((s.standsInFunctionHead t sm) = none ∧ ∃ y1 y2 y3 y4 y5 y6 y7 y8 y9 y10 y11 y12 k_ sl_, F_Rd_standsInFunctionHead s.mode s.levels s.signs s.loops t.k fa nx t.k t.pl t.wd s.top.k s.top.pl s.top.wd s.top.sec s.top.pa s.top.ip s.top.ipl s.top.iw s.top.sg s.top.wb s.top.lim s.top.tg s.top.lb (nI s.funs.length) c.nF c.bF (nI s.draft.length) c.nD c.bD x1 x2 x3 = some ((0, y1, y2, y3, y4, y5, y6, y7, y8, y9, y10, y11, y12), k_, sl_) ∧ RVd ((((c.s_nF y9).s_bF y10).s_nD y11).s_bD y12) s.rest.length ∧ Gw c ((((c.s_nF y9).s_bF y10).s_nD y11).s_bD y12) k_ sl_) := by
  unfold F_Rd_standsInFunctionHead Rs.standsInFunctionHead
  by_cases x0 : s.mode = 10
  · rw [if_pos x0, if_pos x0]
    by_cases x100 : t.k = 91
    · rw [if_pos x100, if_pos x100]
      exact Or.inl ⟨_, rfl, c.nF, c.bF, c.nD, c.bD, 0, 0, rfl, h.cg s.rest s.draft s.wait s.funs rfl rfl rfl rfl rfl rfl rfl rfl, Gw.rfl rfl rfl rfl rfl, ⟨rfl, rfl, rfl, rfl, rfl, rfl, rfl, rfl, rfl, rfl, rfl, rfl, rfl⟩⟩
    · rw [if_neg x100, if_neg x100]
      by_cases x101 : t.k = 2
      · rw [if_pos x101, if_pos x101]
        exact Or.inl ⟨_, rfl, c.nF, c.bF, c.nD, c.bD, 0, 0, rfl, h.cg s.rest s.draft s.wait s.funs rfl rfl rfl rfl rfl rfl rfl rfl, Gw.rfl rfl rfl rfl rfl, ⟨rfl, rfl, rfl, rfl, rfl, rfl, rfl, rfl, rfl, rfl, rfl, rfl, rfl⟩⟩
      · rw [if_neg x101, if_neg x101]
        exact Or.inr ⟨rfl, _, _, _, _, _, _, _, _, _, _, _, _, _, _, rfl, h.dead, Gw.rfl rfl rfl rfl rfl⟩
  · rw [if_neg x0, if_neg x0]
    by_cases x1 : s.mode = 11
    · rw [if_pos x1, if_pos x1]
      by_cases x100 : t.k = 61
      · rw [if_pos x100, if_pos x100]
        obtain ⟨nD1, bD1, k1, sl1, e1, hv, g1⟩ := a_takeFirstAsResult h (t := t) (fa := fa) (nx := nx)
        exact Or.inl ⟨_, rfl, c.nF, c.bF, nD1, bD1, _, _, bw_ok (c' := 0) (s' := 0) e1 rfl, hv, g1, ⟨rfl, rfl, rfl, rfl, rfl, rfl, rfl, rfl, rfl, rfl, rfl, rfl, rfl⟩⟩
      · rw [if_neg x100, if_neg x100]
        by_cases x101 : t.k = 40
        · rw [if_pos x101, if_pos x101]
          rcases a_takeFirstAsName h (t := t) (fa := fa) (nx := nx) hsm hwt hm with ⟨s', hs, nF1, bF1, nD1, bD1, k1, sl1, e1, hv, g1, z0, z1, z2, z3, z4, z5, z6, z7, z8, z9, z10, z11, z12, z13, z14⟩ | ⟨hs, y1, y2, y3, y4, y5, y6, y7, y8, y9, y10, k1, sl1, e1, hd, g1⟩
          · refine Or.inl ⟨s', hs, nF1, bF1, nD1, bD1, _, _, ?_, hv, g1, ⟨z0, z1, z2, z3, z4, z5, z8, z9, z10, z11, z12, z13, z14⟩⟩
            simp only [z0, z1, z2, z3, z4, z5, z6, z7, z8, z9, z10, z11, z12, z13, z14]
            exact bw_ok (c' := 0) (s' := 0) e1 (if_neg (show ¬ (1 : Int32) = 0 by decide))
          · exact Or.inr ⟨hs, _, _, _, _, _, _, _, _, _, _, _, _, _, _, bw_ok (c' := 0) (s' := 0) e1 (if_pos rfl), hd, g1⟩
        · rw [if_neg x101, if_neg x101]
          exact Or.inr ⟨rfl, _, _, _, _, _, _, _, _, _, _, _, _, _, _, rfl, h.dead, Gw.rfl rfl rfl rfl rfl⟩
    · rw [if_neg x1, if_neg x1]
      by_cases x2 : s.mode = 12
      · rw [if_pos x2, if_pos x2]
        rcases a_addDifferentName h (t := t) (fa := fa) (nx := nx) (p1 := 13) hsm hw hw2 hm with ⟨s', hs, nD1, bD1, k1, sl1, e1, hv, g1, z0, z1, z2, z3, z4, z5, z6, z7, z8, z9, z10, z11, z12, z13, z14, z15, z16, z17⟩ | ⟨hs, y1, y2, y3, y4, y5, k1, sl1, e1, hd, g1⟩
        · refine Or.inl ⟨s', hs, c.nF, c.bF, nD1, bD1, _, _, ?_, hv, g1, ⟨z0, z1, z2, z3, z4, z5, z10, z11, z12, z13, z14, z15, z16⟩⟩
          simp only [z0, z1, z2, z3, z4, z5, z6, z7, z8, z9, z10, z11, z12, z13, z14, z15, z16, z17]
          exact bw_ok (c' := 0) (s' := 0) e1 rfl
        · exact Or.inr ⟨hs, _, _, _, _, _, _, _, _, _, _, _, _, _, _, bw_ok (c' := 0) (s' := 0) e1 rfl, hd, g1⟩
      · rw [if_neg x2, if_neg x2]
        by_cases x3 : s.mode = 13
        · rw [if_pos x3, if_pos x3]
          by_cases x100 : t.k = 93
          · rw [if_pos x100, if_pos x100]
            exact Or.inl ⟨_, rfl, c.nF, c.bF, c.nD, c.bD, 0, 0, rfl, h.cg s.rest s.draft s.wait s.funs rfl rfl rfl rfl rfl rfl rfl rfl, Gw.rfl rfl rfl rfl rfl, ⟨rfl, rfl, rfl, rfl, rfl, rfl, rfl, rfl, rfl, rfl, rfl, rfl, rfl⟩⟩
          · rw [if_neg x100, if_neg x100]
            by_cases x101 : t.k = 44
            · rw [if_pos x101, if_pos x101]
              unfold Rs.roomTo
              rw [room_eq]
              unfold nm
              dsimp only
              by_cases b : s.top.ip < 8
              · rw [if_pos b, if_pos b, if_neg (show ¬ (1 : Int32) = 0 by decide)]
                exact Or.inl ⟨_, rfl, c.nF, c.bF, c.nD, c.bD, 0, 0, rfl, h.cg s.rest s.draft s.wait s.funs rfl rfl rfl rfl rfl rfl rfl rfl, Gw.rfl rfl rfl rfl rfl, ⟨rfl, rfl, rfl, rfl, rfl, rfl, rfl, rfl, rfl, rfl, rfl, rfl, rfl⟩⟩
              · rw [if_neg b, if_neg b, if_pos rfl]
                exact Or.inr ⟨rfl, _, _, _, _, _, _, _, _, _, _, _, _, _, _, rfl, h.dead, Gw.rfl rfl rfl rfl rfl⟩
            · rw [if_neg x101, if_neg x101]
              exact Or.inr ⟨rfl, _, _, _, _, _, _, _, _, _, _, _, _, _, _, rfl, h.dead, Gw.rfl rfl rfl rfl rfl⟩
        · rw [if_neg x3, if_neg x3]
          by_cases x4 : s.mode = 14
          · rw [if_pos x4, if_pos x4]
            by_cases x100 : t.k = 61
            · rw [if_pos x100, if_pos x100]
              exact Or.inl ⟨_, rfl, c.nF, c.bF, c.nD, c.bD, 0, 0, rfl, h.cg s.rest s.draft s.wait s.funs rfl rfl rfl rfl rfl rfl rfl rfl, Gw.rfl rfl rfl rfl rfl, ⟨rfl, rfl, rfl, rfl, rfl, rfl, rfl, rfl, rfl, rfl, rfl, rfl, rfl⟩⟩
            · rw [if_neg x100, if_neg x100]
              exact Or.inr ⟨rfl, _, _, _, _, _, _, _, _, _, _, _, _, _, _, rfl, h.dead, Gw.rfl rfl rfl rfl rfl⟩
          · rw [if_neg x4, if_neg x4]
            by_cases x5 : s.mode = 15
            · rw [if_pos x5, if_pos x5]
              by_cases x100 : t.k = 2
              · rw [if_pos x100, if_pos x100]
                rcases a_nameFunction (s := (s.keepName t 16)) h (t := t) (fa := fa) (nx := nx) hsm hw hm with ⟨s', hs, nF1, bF1, nD1, bD1, k1, sl1, e1, hv, g1, z0, z1, z2, z3, z4, z5, z6, z7, z8, z9, z10, z11, z12, z13, z14, z15, z16⟩ | ⟨hs, y1, y2, y3, y4, y5, y6, y7, y8, k1, sl1, e1, hd, g1⟩
                · refine Or.inl ⟨s', hs, nF1, bF1, nD1, bD1, _, _, ?_, hv, g1, ⟨z1, z2, z3, z4, z5, z6, z10, z11, z12, z13, z14, z15, z16⟩⟩
                  simp only [z0, z1, z2, z3, z4, z5, z6, z7, z8, z9, z10, z11, z12, z13, z14, z15, z16]
                  exact bw_ok (c' := 0) (s' := 0) e1 (if_neg (show ¬ (1 : Int32) = 0 by decide))
                · exact Or.inr ⟨hs, _, _, _, _, _, _, _, _, _, _, _, _, _, _, bw_ok (c' := 0) (s' := 0) e1 (if_pos rfl), hd, g1⟩
              · rw [if_neg x100, if_neg x100]
                exact Or.inr ⟨rfl, _, _, _, _, _, _, _, _, _, _, _, _, _, _, rfl, h.dead, Gw.rfl rfl rfl rfl rfl⟩
            · rw [if_neg x5, if_neg x5]
              by_cases x6 : s.mode = 16
              · rw [if_pos x6, if_pos x6]
                by_cases x100 : t.k = 40
                · rw [if_pos x100, if_pos x100]
                  exact Or.inl ⟨_, rfl, c.nF, c.bF, c.nD, c.bD, 0, 0, rfl, h.cg s.rest s.draft s.wait s.funs rfl rfl rfl rfl rfl rfl rfl rfl, Gw.rfl rfl rfl rfl rfl, ⟨rfl, rfl, rfl, rfl, rfl, rfl, rfl, rfl, rfl, rfl, rfl, rfl, rfl⟩⟩
                · rw [if_neg x100, if_neg x100]
                  exact Or.inr ⟨rfl, _, _, _, _, _, _, _, _, _, _, _, _, _, _, rfl, h.dead, Gw.rfl rfl rfl rfl rfl⟩
              · rw [if_neg x6, if_neg x6]
                by_cases x7 : s.mode = 17
                · rw [if_pos x7, if_pos x7]
                  by_cases x100 : t.k = 41
                  · rw [if_pos x100, if_pos x100]
                    obtain ⟨nD1, bD1, k1, sl1, e1, hv, g1⟩ := a_endParameters h (t := t) (fa := fa) (nx := nx) hm
                    exact Or.inl ⟨_, rfl, c.nF, c.bF, nD1, bD1, _, _, bw_ok (c' := 0) (s' := 0) e1 rfl, hv, g1, ⟨rfl, rfl, rfl, rfl, rfl, rfl, rfl, rfl, rfl, rfl, rfl, rfl, rfl⟩⟩
                  · rw [if_neg x100, if_neg x100]
                    rcases a_addDifferentName h (t := t) (fa := fa) (nx := nx) (p1 := 19) hsm hw hw2 hm with ⟨s', hs, nD1, bD1, k1, sl1, e1, hv, g1, z0, z1, z2, z3, z4, z5, z6, z7, z8, z9, z10, z11, z12, z13, z14, z15, z16, z17⟩ | ⟨hs, y1, y2, y3, y4, y5, k1, sl1, e1, hd, g1⟩
                    · refine Or.inl ⟨s', hs, c.nF, c.bF, nD1, bD1, _, _, ?_, hv, g1, ⟨z0, z1, z2, z3, z4, z5, z10, z11, z12, z13, z14, z15, z16⟩⟩
                      simp only [z0, z1, z2, z3, z4, z5, z6, z7, z8, z9, z10, z11, z12, z13, z14, z15, z16, z17]
                      exact bw_ok (c' := 0) (s' := 0) e1 rfl
                    · exact Or.inr ⟨hs, _, _, _, _, _, _, _, _, _, _, _, _, _, _, bw_ok (c' := 0) (s' := 0) e1 rfl, hd, g1⟩
                · rw [if_neg x7, if_neg x7]
                  by_cases x8 : s.mode = 18
                  · rw [if_pos x8, if_pos x8]
                    rcases a_addDifferentName h (t := t) (fa := fa) (nx := nx) (p1 := 19) hsm hw hw2 hm with ⟨s', hs, nD1, bD1, k1, sl1, e1, hv, g1, z0, z1, z2, z3, z4, z5, z6, z7, z8, z9, z10, z11, z12, z13, z14, z15, z16, z17⟩ | ⟨hs, y1, y2, y3, y4, y5, k1, sl1, e1, hd, g1⟩
                    · refine Or.inl ⟨s', hs, c.nF, c.bF, nD1, bD1, _, _, ?_, hv, g1, ⟨z0, z1, z2, z3, z4, z5, z10, z11, z12, z13, z14, z15, z16⟩⟩
                      simp only [z0, z1, z2, z3, z4, z5, z6, z7, z8, z9, z10, z11, z12, z13, z14, z15, z16, z17]
                      exact bw_ok (c' := 0) (s' := 0) e1 rfl
                    · exact Or.inr ⟨hs, _, _, _, _, _, _, _, _, _, _, _, _, _, _, bw_ok (c' := 0) (s' := 0) e1 rfl, hd, g1⟩
                  · rw [if_neg x8, if_neg x8]
                    by_cases x9 : s.mode = 19
                    · rw [if_pos x9, if_pos x9]
                      by_cases x100 : t.k = 41
                      · rw [if_pos x100, if_pos x100]
                        obtain ⟨nD1, bD1, k1, sl1, e1, hv, g1⟩ := a_endParameters h (t := t) (fa := fa) (nx := nx) hm
                        exact Or.inl ⟨_, rfl, c.nF, c.bF, nD1, bD1, _, _, bw_ok (c' := 0) (s' := 0) e1 rfl, hv, g1, ⟨rfl, rfl, rfl, rfl, rfl, rfl, rfl, rfl, rfl, rfl, rfl, rfl, rfl⟩⟩
                      · rw [if_neg x100, if_neg x100]
                        by_cases x101 : t.k = 44
                        · rw [if_pos x101, if_pos x101]
                          unfold Rs.roomTo
                          rw [room_eq]
                          unfold nm
                          dsimp only
                          by_cases b : s.top.ip < 8
                          · rw [if_pos b, if_pos b, if_neg (show ¬ (1 : Int32) = 0 by decide)]
                            exact Or.inl ⟨_, rfl, c.nF, c.bF, c.nD, c.bD, 0, 0, rfl, h.cg s.rest s.draft s.wait s.funs rfl rfl rfl rfl rfl rfl rfl rfl, Gw.rfl rfl rfl rfl rfl, ⟨rfl, rfl, rfl, rfl, rfl, rfl, rfl, rfl, rfl, rfl, rfl, rfl, rfl⟩⟩
                          · rw [if_neg b, if_neg b, if_pos rfl]
                            exact Or.inr ⟨rfl, _, _, _, _, _, _, _, _, _, _, _, _, _, _, rfl, h.dead, Gw.rfl rfl rfl rfl rfl⟩
                        · rw [if_neg x101, if_neg x101]
                          exact Or.inr ⟨rfl, _, _, _, _, _, _, _, _, _, _, _, _, _, _, rfl, h.dead, Gw.rfl rfl rfl rfl rfl⟩
                    · rw [if_neg x9, if_neg x9]
                      exact Or.inr ⟨rfl, _, _, _, _, _, _, _, _, _, _, _, _, _, _, rfl, h.dead, Gw.rfl rfl rfl rfl rfl⟩
end

section
theorem al_al {α : Type} {a b c d : Nat} {X : Option (α × Nat × Nat)} : al a b (al c d X) = al (a + c) (b + d) X := by
  cases X with
  | none => rfl
  | some x => show some (x.1, a + (c + x.2.1), b + (d + x.2.2)) = some (x.1, a + c + x.2.1, b + d + x.2.2); rw [Nat.add_assoc, Nat.add_assoc]
theorem bw_eq {α β : Type} {m : Option (α × Nat × Nat)} {r : α} {k s : Nat} {f : α → Option (β × Nat × Nat)} (h : m = some (r, k, s)) : bw m f = al k s (f r) := by rw [h]; rfl
/-- the loop's head at a state -/
def Rs.L7 (K : (Int32 → Nat → Nat → (Nat → FrC) → Nat → (Nat → Int32) → Nat → (Nat → Int32) → Nat → (Nat → Int32) → Int32 → Int32 → Int32 → Int32 → Int32 → Int32 → Int32 → Int32 → Int32 → Int32 → Int32 → Int32 → Int32 → Int32 → Int32 → Int32 → Int32 → Int32 → Int32 → Int32 → Int32 → Int32 → Int32 → Int32 → Int32 → Option ((Nat × Nat × (Nat → FrC) × Int32 × Int32 × Int32 × Int32 × Int32 × Int32 × Int32 × Int32 × Int32 × Int32 × Int32 × Int32 × Int32 × Int32 × Int32 × Int32 × Int32 × Int32 × Int32 × Int32 × Int32 × Int32 × Int32 × Int32 × Int32 × Int32 × Int32 × Nat × (Nat → Int32) × Nat × (Nat → Int32) × Nat × (Nat → Int32)) × Nat × Nat))) (v : Int32) (s : Rs) (c : Rw) (tk nx kd st wd : Int32) : Option ((Nat × Nat × (Nat → FrC) × Int32 × Int32 × Int32 × Int32 × Int32 × Int32 × Int32 × Int32 × Int32 × Int32 × Int32 × Int32 × Int32 × Int32 × Int32 × Int32 × Int32 × Int32 × Int32 × Int32 × Int32 × Int32 × Int32 × Int32 × Int32 × Int32 × Int32 × Nat × (Nat → Int32) × Nat × (Nat → Int32) × Nat × (Nat → Int32)) × Nat × Nat) :=
  K v c.fn s.rest.length c.cf c.nD c.bD c.nW c.bW c.nF c.bF s.mode s.levels s.signs s.loops tk s.top.k s.top.pl s.top.wd s.top.sec s.top.pa s.top.ip s.top.ipl s.top.iw s.top.sg s.top.wb s.top.lim s.top.tg s.top.lb nx kd st wd (nI s.draft.length) (nI s.wait.length) (nI s.funs.length)
/-- what take leaves -/
def Rs.RT (v ft : Int32) (s : Rs) (c : Rw) (tk nx kd st wd : Int32) : (Nat × Nat × (Nat → FrC) × Int32 × Int32 × Int32 × Int32 × Int32 × Int32 × Int32 × Int32 × Int32 × Int32 × Int32 × Int32 × Int32 × Int32 × Int32 × Int32 × Int32 × Int32 × Int32 × Int32 × Int32 × Int32 × Int32 × Int32 × Int32 × Int32 × Int32 × Nat × (Nat → Int32) × Nat × (Nat → Int32) × Nat × (Nat → Int32)) :=
  (c.fn, s.rest.length, c.cf, v, s.mode, s.levels, s.signs, s.loops, tk, ft, s.top.k, s.top.pl, s.top.wd, s.top.sec, s.top.pa, s.top.ip, s.top.ipl, s.top.iw, s.top.sg, s.top.wb, s.top.lim, s.top.tg, s.top.lb, nx, kd, st, wd, nI s.draft.length, nI s.wait.length, nI s.funs.length, c.nD, c.bD, c.nW, c.bW, c.nF, c.bF)
/-- it refused: fault ft, what is left can be used again -/
def Rs.RTd (ft : Int32) (r : (Nat × Nat × (Nat → FrC) × Int32 × Int32 × Int32 × Int32 × Int32 × Int32 × Int32 × Int32 × Int32 × Int32 × Int32 × Int32 × Int32 × Int32 × Int32 × Int32 × Int32 × Int32 × Int32 × Int32 × Int32 × Int32 × Int32 × Int32 × Int32 × Int32 × Int32 × Nat × (Nat → Int32) × Nat × (Nat → Int32) × Nat × (Nat → Int32))) (c : Rw) (k sl : Nat) : Prop := r.2.2.2.1 = -1 ∧ r.2.2.2.2.2.2.2.2.2.1 = ft ∧ ∃ c' : Rw, RVd c' r.2.1 ∧ Gw c c' k sl ∧ r.1 = c'.fn ∧ r.2.2.1 = c'.cf ∧ r.2.2.2.2.2.2.2.2.2.2.2.2.2.2.2.2.2.2.2.2.2.2.2.2.2.2.2.2.2.2 = (c'.nD, c'.bD, c'.nW, c'.bW, c'.nF, c'.bF)
theorem settle2_loops {s : Rs} {t : Tok} : (s.settle2 t).loops = s.loops := by
  unfold Rs.settle2
  by_cases a : s.mode = 30
  · rw [if_pos a]; rfl
  · rw [if_neg a]
    by_cases b : s.mode = 40 ∧ t.k ≠ 40
    · rw [if_pos b]; rfl
    · rw [if_neg b]
      by_cases d : s.mode = 41 ∧ t.k ≠ 61
      · rw [if_pos d]
      · rw [if_neg d]
        by_cases e : s.mode = 42 ∧ t.k ≠ 44 ∧ t.k ≠ 93
        · rw [if_pos e]
        · rw [if_neg e]
          by_cases f : s.mode = 42
          · rw [if_pos f]; rfl
          · rw [if_neg f]
theorem settle_loops {s : Rs} {t : Tok} : (s.settle t).loops = s.loops := by
  unfold Rs.settle
  by_cases a : s.mode = 0 ∧ Rs.isWordK t.k = false
  · rw [if_pos a, settle2_loops]; rfl
  · rw [if_neg a, settle2_loops]
theorem settle2_funs {s : Rs} {t : Tok} : (s.settle2 t).funs = s.funs := by
  unfold Rs.settle2
  by_cases a : s.mode = 30
  · rw [if_pos a]; rfl
  · rw [if_neg a]
    by_cases b : s.mode = 40 ∧ t.k ≠ 40
    · rw [if_pos b]; rfl
    · rw [if_neg b]
      by_cases d : s.mode = 41 ∧ t.k ≠ 61
      · rw [if_pos d]
      · rw [if_neg d]
        by_cases e : s.mode = 42 ∧ t.k ≠ 44 ∧ t.k ≠ 93
        · rw [if_pos e]
        · rw [if_neg e]
          by_cases f : s.mode = 42
          · rw [if_pos f]; rfl
          · rw [if_neg f]
theorem settle_funs {s : Rs} {t : Tok} : (s.settle t).funs = s.funs := by
  unfold Rs.settle
  by_cases a : s.mode = 0 ∧ Rs.isWordK t.k = false
  · rw [if_pos a, settle2_funs]; rfl
  · rw [if_neg a, settle2_funs]
theorem a_76 {s : Rs} {t : Tok} {c : Rw} {nx v : Int32} {K : (Int32 → Nat → Nat → (Nat → FrC) → Nat → (Nat → Int32) → Nat → (Nat → Int32) → Nat → (Nat → Int32) → Int32 → Int32 → Int32 → Int32 → Int32 → Int32 → Int32 → Int32 → Int32 → Int32 → Int32 → Int32 → Int32 → Int32 → Int32 → Int32 → Int32 → Int32 → Int32 → Int32 → Int32 → Int32 → Int32 → Int32 → Int32 → Option ((Nat × Nat × (Nat → FrC) × Int32 × Int32 × Int32 × Int32 × Int32 × Int32 × Int32 × Int32 × Int32 × Int32 × Int32 × Int32 × Int32 × Int32 × Int32 × Int32 × Int32 × Int32 × Int32 × Int32 × Int32 × Int32 × Int32 × Int32 × Int32 × Int32 × Int32 × Nat × (Nat → Int32) × Nat × (Nat → Int32) × Nat × (Nat → Int32)) × Nat × Nat))} (h : RV s c) {x1 : Int32} {x2 : Nat} {x3 : Nat → Int32} {sm : Int32 → Int32 → Int32 → Bool} (hsm : ∀ p q w : Int32, w.toNatClampNeg < 2 ^ 17 → F_Rw_same p q w x1 x2 x3 = some (if sm p q w = true then 1 else 0)) (hw : Sm t.wd) (hw2 : t.wd ≠ -1) (hpa : Sm (s.settle t).top.pa) (hpa1 : Sm ((s.settle t).top.pa + 1)) (hip : Sm (s.settle t).top.ip) (hwt : Sm (s.settle t).top.wd) (hla : Sm (Rs.lastN (s.settle t).draft.dropLast Nd.pa)) : (∃ s' c' k_ sl_, s.step t sm = some s' ∧ F_Rd_take_76 x1 x2 x3 v c.nD c.bD c.nW c.bW c.nF c.bF s.mode s.levels s.signs s.loops s.top.k s.top.pl s.top.wd s.top.sec s.top.pa s.top.ip s.top.ipl s.top.iw s.top.sg s.top.wb s.top.lim s.top.tg s.top.lb (nI s.draft.length) (nI s.wait.length) (nI s.funs.length) K c.fn s.rest.length c.cf t.k nx t.k t.pl t.wd = al k_ sl_ (if v = 16384 then some (Rs.RT (-1) t.pl s' c' t.k nx t.k t.pl t.wd, 0, 0) else Rs.L7 K (v + 1) s' c' t.k nx t.k t.pl t.wd) ∧ RV s' c' ∧ Gw c c' k_ sl_) ∨ (s.step t sm = none ∧ ∃ r k_ sl_, F_Rd_take_76 x1 x2 x3 v c.nD c.bD c.nW c.bW c.nF c.bF s.mode s.levels s.signs s.loops s.top.k s.top.pl s.top.wd s.top.sec s.top.pa s.top.ip s.top.ipl s.top.iw s.top.sg s.top.wb s.top.lim s.top.tg s.top.lb (nI s.draft.length) (nI s.wait.length) (nI s.funs.length) K c.fn s.rest.length c.cf t.k nx t.k t.pl t.wd = some (r, k_, sl_) ∧ Rs.RTd t.pl r c k_ sl_) := by
  obtain ⟨fn0, cf0, nD0, bD0, k0, sl0, e0, hv0, g0⟩ := a_settle h (t := t) (fa := -1) (nx := nx)
  unfold F_Rd_take_76 Rs.step Rs.stands
  rw [e0, bw_some]
  dsimp only
  by_cases m30 : (s.settle t).mode < 30
  · rw [if_pos m30, if_neg (show ¬ 30 ≤ (s.settle t).mode from i32_nle.mpr m30)]
    by_cases m20 : (s.settle t).mode < 20
    · rw [if_pos m20, if_neg (show ¬ 20 ≤ (s.settle t).mode from i32_nle.mpr m20)]
      by_cases m10 : (s.settle t).mode < 10
      · rw [if_pos m10, if_neg (show ¬ 10 ≤ (s.settle t).mode from i32_nle.mpr m10)]
        rcases a_standsInStatement hv0 (t := t) (fa := -1) (nx := nx) hip hpa with ⟨s', hs, fn1, cf1, nD1, bD1, k1, sl1, e1, hv, g1, z0, z1⟩ | ⟨hs, y0, y1, y2, y4, y5, y6, y7, y8, y9, y10, y11, y12, y13, y14, y15, y16, y17, y18, y19, y20, y21, y22, y23, k1, sl1, e1, hd, g1⟩
        · rw [settle_loops] at e1
          rw [settle_funs] at z1
          refine Or.inl ⟨s', ((((((((c.s_fn fn0).s_cf cf0).s_nD nD0).s_bD bD0).s_fn fn1).s_cf cf1).s_nD nD1).s_bD bD1), k0 + k1, sl0 + sl1, hs, ?_, hv, g0.trans g1⟩
          refine (congrArg (al k0 sl0) (bw_eq e1)).trans ?_
          rw [al_al]
          refine congrArg (al _ _) ?_
          unfold F_Rd_take_132 Rs.RT Rs.L7
          simp only [z0, z1]
          exact if_neg (show ¬ (1 : Int32) = 0 by decide)
        · rw [settle_loops] at e1
          refine Or.inr ⟨hs, _, k0 + (k1 + 0), sl0 + (sl1 + 0), ((congrArg (al k0 sl0) (bw_ok (c' := 0) (s' := 0) e1 (if_pos rfl))).trans al_some), rfl, rfl, ((((((((c.s_fn fn0).s_cf cf0).s_nD nD0).s_bD bD0).s_fn y0).s_cf y2).s_nD y22).s_bD y23), hd, g0.trans g1, rfl, rfl, rfl⟩
      · rw [if_neg m10, if_pos (show 10 ≤ (s.settle t).mode from i32_nlt.mp m10)]
        rcases a_standsInFunctionHead hv0 (t := t) (fa := -1) (nx := nx) hsm hw hw2 hwt hip with ⟨s', hs, nF1, bF1, nD1, bD1, k1, sl1, e1, hv, g1, z0, z1, z2, z3, z4, z5, z6, z7, z8, z9, z10, z11, z12⟩ | ⟨hs, y1, y2, y3, y4, y5, y6, y7, y8, y9, y10, y11, y12, k1, sl1, e1, hd, g1⟩
        · rw [settle_loops] at e1
          rw [settle_funs] at e1
          rw [settle_loops] at z2
          refine Or.inl ⟨s', ((((((((c.s_fn fn0).s_cf cf0).s_nD nD0).s_bD bD0).s_nF nF1).s_bF bF1).s_nD nD1).s_bD bD1), k0 + k1, sl0 + sl1, hs, ?_, hv, g0.trans g1⟩
          refine (congrArg (al k0 sl0) (bw_eq e1)).trans ?_
          rw [al_al]
          refine congrArg (al _ _) ?_
          unfold F_Rd_take_132 Rs.RT Rs.L7
          simp only [z0, z1, z2, z3, z4, z5, z6, z7, z8, z9, z10, z11, z12]
          exact if_neg (show ¬ (1 : Int32) = 0 by decide)
        · rw [settle_loops] at e1
          rw [settle_funs] at e1
          refine Or.inr ⟨hs, _, k0 + (k1 + 0), sl0 + (sl1 + 0), ((congrArg (al k0 sl0) (bw_ok (c' := 0) (s' := 0) e1 (if_pos rfl))).trans al_some), rfl, rfl, ((((((((c.s_fn fn0).s_cf cf0).s_nD nD0).s_bD bD0).s_nF y9).s_bF y10).s_nD y11).s_bD y12), hd, g0.trans g1, rfl, rfl, rfl⟩
    · rw [if_neg m20, if_pos (show 20 ≤ (s.settle t).mode from i32_nlt.mp m20)]
      rcases a_standsInSeveral hv0 (t := t) (fa := -1) (nx := nx) hip with ⟨s', hs, fn1, cf1, nD1, bD1, k1, sl1, e1, hv, g1, z0, z1, z2⟩ | ⟨hs, y0, y1, y2, y4, y5, y6, y7, y8, y9, y10, y11, y12, y13, y14, y15, y16, y17, y18, y19, y20, y21, y22, k1, sl1, e1, hd, g1⟩
      · rw [settle_loops] at e1
        rw [settle_loops] at z0
        rw [settle_funs] at z2
        refine Or.inl ⟨s', ((((((((c.s_fn fn0).s_cf cf0).s_nD nD0).s_bD bD0).s_fn fn1).s_cf cf1).s_nD nD1).s_bD bD1), k0 + k1, sl0 + sl1, hs, ?_, hv, g0.trans g1⟩
        refine (congrArg (al k0 sl0) (bw_eq e1)).trans ?_
        rw [al_al]
        refine congrArg (al _ _) ?_
        unfold F_Rd_take_132 Rs.RT Rs.L7
        simp only [z0, z1, z2]
        exact if_neg (show ¬ (1 : Int32) = 0 by decide)
      · rw [settle_loops] at e1
        refine Or.inr ⟨hs, _, k0 + (k1 + 0), sl0 + (sl1 + 0), ((congrArg (al k0 sl0) (bw_ok (c' := 0) (s' := 0) e1 (if_pos rfl))).trans al_some), rfl, rfl, ((((((((c.s_fn fn0).s_cf cf0).s_nD nD0).s_bD bD0).s_fn y0).s_cf y2).s_nD y21).s_bD y22), hd, g0.trans g1, rfl, rfl, rfl⟩
  · rw [if_neg m30, if_pos (show 30 ≤ (s.settle t).mode from i32_nlt.mp m30)]
    rcases a_standsInExpression hv0 (t := t) (fa := -1) (nx := nx) hpa hpa1 hip hla with ⟨s', hs, fn1, cf1, nD1, bD1, nW1, bW1, k1, sl1, e1, hv, g1, z0, z1⟩ | ⟨hs, y0, y1, y2, y4, y5, y6, y7, y8, y9, y10, y11, y12, y13, y14, y15, y16, y17, y18, y19, y20, y21, y22, y23, y24, y25, k1, sl1, e1, hd, g1⟩
    · rw [settle_loops] at e1
      rw [settle_loops] at z0
      rw [settle_funs] at z1
      refine Or.inl ⟨s', ((((((((((c.s_fn fn0).s_cf cf0).s_nD nD0).s_bD bD0).s_fn fn1).s_cf cf1).s_nD nD1).s_bD bD1).s_nW nW1).s_bW bW1), k0 + k1, sl0 + sl1, hs, ?_, hv, g0.trans g1⟩
      refine (congrArg (al k0 sl0) (bw_eq e1)).trans ?_
      rw [al_al]
      refine congrArg (al _ _) ?_
      unfold F_Rd_take_132 Rs.RT Rs.L7
      simp only [z0, z1]
      exact if_neg (show ¬ (1 : Int32) = 0 by decide)
    · rw [settle_loops] at e1
      refine Or.inr ⟨hs, _, k0 + (k1 + 0), sl0 + (sl1 + 0), ((congrArg (al k0 sl0) (bw_ok (c' := 0) (s' := 0) e1 (if_pos rfl))).trans al_some), rfl, rfl, ((((((((((c.s_fn fn0).s_cf cf0).s_nD nD0).s_bD bD0).s_fn y0).s_cf y2).s_nD y22).s_bD y23).s_nW y24).s_bW y25), hd, g0.trans g1, rfl, rfl, rfl⟩
end
