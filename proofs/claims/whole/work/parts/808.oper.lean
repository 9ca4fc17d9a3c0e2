section
section Sim
variable {T : Tks} {B : Bs} {sm : Int32 → Int32 → Int32 → Bool} {a m : Nat}
/-- an operand is wanted: the machine does what the reference does -/
theorem sim_wnt (hT : TkOK T m) (hB : BsOK T B a) {fr bh co i lv : Nat} {op : List Ent} {s : Rs} (hI : op.length + fr + (op.map (fun e => e.2.2.2.2)).sum ≤ lv) (hE : ER T B a m (1, fr, bh, co, i, lv, op) s) : Sim T B sm a m i s (Mx.wnt T.tkd fr bh co i lv op) := by
  obtain ⟨es, Ws, W, c, X, hi, hlv, htg, ha0, hai, h | h | h | h⟩ := hE
  · obtain ⟨_, hco, hch, Y, md, hp, hsz, hs, hmd⟩ := h
    subst hs
    rw [hco]
    have hfr : fr ≤ lv := by omega
    -- the three modes that want an operand
    have key : (md = 31 ∨ md = 32 ∨ md = 33) → ¬ (T.tkd i = 40 ∧ bh = 1) → ¬ ((T.tkd i = 40 ∨ T.tkd i = 39 ∨ T.tkd i = 49) ∧ bh = 0) → (md = 31 → bh = 0) → (md = 32 → bh = 1) → Sim T B sm a m i (B.st T md lv fr es (Tr.app X Y) (W ++ Ws.flatten)) (Mx.wnt T.tkd fr bh (colo W) i lv op) := by
      intro hm h1 h2 hb31 hb32
      unfold Mx.wnt
      rw [if_neg h1, if_neg h2]
      by_cases c50 : T.tkd i = 50
      · rw [if_pos (Or.inl c50), c50]
        exact sim_grp hT hi hlv htg hai hch hp hsz c50 hm
      · by_cases c52 : T.tkd i = 52
        · rw [if_pos (Or.inr c52), c52]
          exact sim_rows hT hB hi hlv htg ha0 hai hch hp hsz c52 hm
        · rw [if_neg (fun x => x.elim c50 c52)]
          by_cases cc : T.tkd i = 2 ∧ T.tkd (i + 1) = 50
          · rw [if_pos cc]
            exact sim_call hT hB hi hlv htg hai hch hp hsz cc.1 cc.2 hm
          · rw [if_neg cc]
            by_cases ci : T.tkd i = 2 ∨ T.tkd i = 3 ∨ T.tkd i = 4
            · rw [if_pos ci]
              exact sim_item hT hi hlv htg hai hch hp hsz ci (fun x y => cc ⟨x, y⟩) hm hfr
            · rw [if_neg ci]
              by_cases c13 : T.tkd i = 13
              · rw [if_pos c13]
                exact sim_end hT hB hi hlv htg hai hch hp hsz c13 hm hfr
              · rw [if_neg c13]
                refine ⟨0, _, rfl, rfl, ?_, Or.inl rfl⟩
                by_cases sg : T.tkd i = 40 ∨ T.tkd i = 39 ∨ T.tkd i = 49
                · have hb0 : bh ≠ 0 := fun e => h2 ⟨sg, e⟩
                  rcases hm with rfl | rfl | rfl
                  · exact absurd (hb31 rfl) hb0
                  · rcases sg with g | g | g
                    · exact absurd ⟨g, hb32 rfl⟩ h1
                    · rw [tokC_of g]
                      exact st_signP (Or.inr (Or.inl rfl)) (by decide)
                    · rw [tokC_of g]
                      exact st_signP (Or.inr (Or.inr rfl)) (by decide)
                  · rcases sg with g | g | g
                    · rw [tokC_of g]; exact st_signQ (Or.inl rfl)
                    · rw [tokC_of g]; exact st_signQ (Or.inr (Or.inl rfl))
                    · rw [tokC_of g]; exact st_signQ (Or.inr (Or.inr rfl))
                · exact st_opno hm (tk_ne hT (j := 2) rfl (fun x => ci (Or.inl x))) (tk_ne hT (j := 3) rfl (fun x => ci (Or.inr (Or.inl x)))) (tk_ne hT (j := 4) rfl (fun x => ci (Or.inr (Or.inr x)))) (tk_ne hT (j := 13) rfl c13) (tk_ne hT (j := 50) rfl c50) (tk_ne hT (j := 39) rfl (fun x => sg (Or.inr (Or.inl x)))) (tk_ne hT (j := 40) rfl (fun x => sg (Or.inl x))) (tk_ne hT (j := 52) rfl c52) (tk_ne hT (j := 49) rfl (fun x => sg (Or.inr (Or.inr x))))
    rcases hmd with ⟨h1, h2, h3⟩ | ⟨h1, h2, h3⟩ | ⟨h1, h2, h3⟩ | ⟨h1, h2, h3, h4, h5⟩
    · subst h1 h2
      by_cases sg : T.tkd i = 40 ∨ T.tkd i = 39 ∨ T.tkd i = 49
      · unfold Mx.wnt
        rw [if_neg (fun x => absurd x.2 (by decide)), if_pos ⟨sg, rfl⟩]
        exact sim_sign hT hi hlv htg hai hch hp hsz sg h3
      · exact key (Or.inl rfl) (fun x => absurd x.2 (by decide)) (fun x => sg x.1) (fun _ => rfl) (fun x => absurd x (by decide))
    · subst h1 h2
      by_cases sg : T.tkd i = 40
      · unfold Mx.wnt
        rw [if_pos ⟨sg, rfl⟩]
        exact sim_psign hT hi hlv htg hai hch hp hsz sg h3
      · exact key (Or.inr (Or.inl rfl)) (fun x => sg x.1) (fun x => absurd x.2 (by decide)) (fun x => absurd x (by decide)) (fun _ => rfl)
    · subst h1 h2
      exact key (Or.inr (Or.inr rfl)) (fun x => absurd x.2 (by decide)) (fun x => absurd x.2 (by decide)) (fun x => absurd x (by decide)) (fun x => absurd x (by decide))
    · subst h1 h2 h3
      unfold Mx.wnt
      rw [if_neg (fun x => absurd x.2 (by decide)), if_neg (by omega), if_neg (by omega), if_neg (by omega), if_neg (by omega), if_neg (by omega)]
      exact ⟨0, _, rfl, rfl, st30_none hT hch.kinds hB h4 h5, Or.inl rfl⟩
  · exact absurd h.1 (by decide)
  · exact absurd h.1 (by decide)
  · exact absurd h.1 (by decide)
end Sim
end

section
theorem Pend.low {T : Tks} {a : Nat} : ∀ {W : List We} {i : Nat} {x : Tr Lb}, Pend T a W i x → hdR W < 4 → colo W = 0
  | [], _, _, _, _ => rfl
  | (r, p, q) :: W, i, x, h, hr => by
    have hr : r < 4 := hr
    show (if r = 4 then (if q = 0 then 1 else 2) else colo W) = 0
    rw [if_neg (by omega)]
    rcases h with h | h | h | h
    · omega
    · omega
    · obtain ⟨h1, h2, h3, h4, h5, h6, h7, k, r1, x0, t, h8, h9, h10, h11, h12⟩ := h
      exact Pend.low h11 (by omega)
    · omega
theorem Pend.none {T : Tks} {a : Nat} : ∀ {W : List We} {i : Nat} {x : Tr Lb}, Pend T a W i x → hdR W = 0 → W = [] ∧ i = a ∧ x = .leaf
  | [], _, _, h, _ => ⟨rfl, h⟩
  | (r, p, q) :: W, i, x, h, hr => by
    have hr : r = 0 := hr
    rcases h with h | h | h | h <;> omega
section Aw
variable {md l sg lp : Int32} {f g : Fm} {r : List Fm} {d : List Nd} {w fn : List Wt} {p v : Int32}
theorem aw_grp (h : f.k = 50) : Rs.afterW (md, l, sg, lp, f, g :: r, d, w, fn) (41, p, v) 0 = some (34, l - 1 - f.sg, 0, lp, g, r, d, w, fn) := by
  show (if f.k = 33 then _ else if f.k = 50 then some ((34, l - 1 - f.sg, 0, lp, g, r, d, w, fn) : Rs) else _) = _
  rw [if_neg (by rw [h]; decide), if_pos h]
theorem aw_call (h : f.k = 33) : Rs.afterW (md, l, sg, lp, f, g :: r, d, w, fn) (41, p, v) 0 = some (34, l - 1 - f.sg, 0, lp, g, r, Rs.nadd d 33 f.pl f.sec (f.pa + 1) f.wd, w, fn) := by
  show (if f.k = 33 then some (Rs.closeCall (md, l, sg, lp, f.s_pa (f.pa + 1), g :: r, d, w, fn)) else _) = _
  rw [if_pos h]
  show some ((if f.k = 52 then (25 : Int32) else 34), l - 1 - f.sg, (0 : Int32), lp, g, r, Rs.nadd d 33 f.pl f.sec (f.pa + 1) f.wd, w, fn) = _
  rw [if_neg (by rw [h]; decide)]
theorem aw_commaC (h : f.k = 33) : Rs.afterW (md, l, sg, lp, f, r, d, w, fn) (44, p, v) 0 = if f.pa + 1 < (if f.lim ≠ 0 then 2 else 8) then some (30, l, sg, lp, f.s_pa (f.pa + 1), r, d, w, fn) else none := by
  show (if f.k = 36 then _ else if Rs.isCallK f.k = false ∧ f.k ≠ 18 ∧ f.k ≠ 19 then none else if f.pa + 1 < (if f.lim ≠ 0 then 2 else 8) then some (30, l, sg, lp, f.s_pa (f.pa + 1), r, d, w, fn) else none) = _
  rw [if_neg (by rw [h]; decide), if_neg (by rw [h]; decide)]
theorem aw_commaR (h : f.k = 36) (h2 : f.tg = 0) : Rs.afterW (md, l, sg, lp, f, r, d, w, fn) (44, p, v) 0 = some (30, l, sg, lp, f.s_ip (f.ip + 1), r, d, w, fn) := by
  show (if f.k = 36 then some (30, l, sg, lp, (f.s_ip (f.ip + 1)).s_tg (if f.tg ≠ 0 ∧ f.ip + 1 < 8 then 1 else 0), r, d, w, fn) else _) = _
  rw [if_pos h, if_neg (fun x => x.1 h2), tg0]
  exact h2
theorem aw_semiR (h : f.k = 36) : Rs.afterW (md, l, sg, lp, f, r, d, w, fn) (59, p, v) 0 = some (30, l, sg, lp, (f.s_pa (f.pa + 1)).s_ip 0, r, Rs.nadd d 37 f.ipl (-1) (f.ip + 1) f.iw, w, fn) := by
  show (if f.k = 18 then _ else if f.k = 19 then _ else if f.k = 20 then _ else if f.k = 21 then _ else if f.k = 36 then some (30, l, sg, lp, (f.s_pa (f.pa + 1)).s_ip 0, r, Rs.nadd d 37 f.ipl (-1) (f.ip + 1) f.iw, w, fn) else none) = _
  rw [if_neg (by rw [h]; decide), if_neg (by rw [h]; decide), if_neg (by rw [h]; decide), if_neg (by rw [h]; decide), if_pos h]
theorem aw_rows (h : f.k = 36) (h2 : f.tg = 0) : Rs.afterW (md, l, sg, lp, f, g :: r, d, w, fn) (93, p, v) 0 = some (34, l - 1 - f.sg, 0, lp, g, r, Rs.nadd (Rs.nadd d 37 f.ipl (-1) (f.ip + 1) f.iw) 36 f.pl (-1) (f.pa + 1) f.wd, w, fn) := by
  show (if f.k = 36 then some (Rs.closeRows (Rs.endRow (md, l, sg, lp, f, g :: r, d, w, fn))) else none) = _
  rw [if_pos h]
  show some ((if f.tg ≠ 0 then (41 : Int32) else 34), l - 1 - f.sg, (0 : Int32), lp, g, r, Rs.nadd (Rs.nadd d 37 f.ipl (-1) (f.ip + 1) f.iw) 36 f.pl (-1) (f.pa + 1) f.wd, w, fn) = _
  rw [if_neg (fun x => x h2)]
/-- other tokens end nothing -/
theorem aw_no {k : Int32} (hk : f.k = 50 ∨ f.k = 36 ∨ f.k = 33) (h58 : k ≠ 58) (h41 : k ≠ 41 ∨ f.k = 36) (h44 : k ≠ 44 ∨ f.k = 50) (h59 : k ≠ 59 ∨ f.k ≠ 36) (h93 : k ≠ 93 ∨ f.k ≠ 36) : Rs.afterW (md, l, sg, lp, f, r, d, w, fn) (k, p, v) 0 = none := by
  have k18 : f.k ≠ 18 := by rcases hk with h | h | h <;> (rw [h]; decide)
  have k19 : f.k ≠ 19 := by rcases hk with h | h | h <;> (rw [h]; decide)
  have k20 : f.k ≠ 20 := by rcases hk with h | h | h <;> (rw [h]; decide)
  have k21 : f.k ≠ 21 := by rcases hk with h | h | h <;> (rw [h]; decide)
  have k51 : f.k ≠ 51 := by rcases hk with h | h | h <;> (rw [h]; decide)
  have k52 : f.k ≠ 52 := by rcases hk with h | h | h <;> (rw [h]; decide)
  have n1 : ∀ x : Int32, f.k = 36 → x ≠ 36 → f.k ≠ x := fun x h1 h2 e => h2 (e.symm.trans h1)
  unfold Rs.afterW
  by_cases c41 : k = 41
  · have h36 : f.k = 36 := h41.resolve_left (fun x => x c41)
    rw [if_pos (show (k, p, v).1 = 41 from c41)]
    show (if f.k = 33 then _ else if f.k = 50 then _ else if f.k = 51 then _ else if f.k = 52 then _ else none) = none
    rw [if_neg (n1 33 h36 (by decide)), if_neg (n1 50 h36 (by decide)), if_neg k51, if_neg k52]
  · rw [if_neg (show ¬ (k, p, v).1 = 41 from c41)]
    by_cases c44 : k = 44
    · have h50 : f.k = 50 := h44.resolve_left (fun x => x c44)
      rw [if_pos (show (k, p, v).1 = 44 from c44)]
      show (if f.k = 36 then _ else if Rs.isCallK f.k = false ∧ f.k ≠ 18 ∧ f.k ≠ 19 then none else _) = none
      rw [if_neg (by rw [h50]; decide), if_pos (by rw [h50]; decide)]
    · rw [if_neg (show ¬ (k, p, v).1 = 44 from c44), if_neg (show ¬ (k, p, v).1 = 58 from h58)]
      by_cases c59 : k = 59
      · have h36 : f.k ≠ 36 := h59.resolve_left (fun x => x c59)
        rw [if_pos (show (k, p, v).1 = 59 from c59)]
        show (if f.k = 18 then _ else if f.k = 19 then _ else if f.k = 20 then _ else if f.k = 21 then _ else if f.k = 36 then _ else none) = none
        rw [if_neg k18, if_neg k19, if_neg k20, if_neg k21, if_neg h36]
      · rw [if_neg (show ¬ (k, p, v).1 = 59 from c59)]
        by_cases c61 : k = 61
        · rw [if_pos (show (k, p, v).1 = 61 from c61)]
          show (if f.k = 20 then _ else none) = none
          rw [if_neg k20]
        · rw [if_neg (show ¬ (k, p, v).1 = 61 from c61)]
          by_cases c93 : k = 93
          · have h36 : f.k ≠ 36 := h93.resolve_left (fun x => x c93)
            rw [if_pos (show (k, p, v).1 = 93 from c93)]
            show (if f.k = 36 then _ else none) = none
            rw [if_neg h36]
          · rw [if_neg (show ¬ (k, p, v).1 = 93 from c93), if_pos rfl]
end Aw
theorem aw_op {s : Rs} {k p v r : Int32} (h41 : k ≠ 41) (h44 : k ≠ 44) (h58 : k ≠ 58) (h59 : k ≠ 59) (h61 : k ≠ 61) (h93 : k ≠ 93) : s.afterW (k, p, v) r = if r = 0 then none else some (s.takeOperation (k, p, v) r) := by
  unfold Rs.afterW
  rw [if_neg (show ¬ (k, p, v).1 = 41 from h41), if_neg (show ¬ (k, p, v).1 = 44 from h44), if_neg (show ¬ (k, p, v).1 = 58 from h58), if_neg (show ¬ (k, p, v).1 = 59 from h59), if_neg (show ¬ (k, p, v).1 = 61 from h61), if_neg (show ¬ (k, p, v).1 = 93 from h93)]
theorem Vx.lt {T : Tks} : ∀ {f md r a b : Nat} {t : Tr Lb}, Vx T f md r a b t → a < b
  | 0, _, _, _, _, _, x => x.elim
  | f + 1, 0, r, a, b, t, x => by
    rcases x with ⟨_, x, _⟩ | ⟨x1, x2, b', x3, x4, r', x⟩ | ⟨x1, x2, x3, b', x4, x5, l, x6, x⟩ | ⟨x1, x2, b', x3, x4, l, x5, x⟩ | ⟨x1, b', x2, x3, r', l, x4, x, x5⟩ | ⟨x1, x2, r', l, x3, x, x4⟩ | ⟨x1, x2, m, x3, r1, t1, t2, x4, x, y, x5⟩ | ⟨x1, m, x2, r1, r2, t1, t2, x3, x4, x, y, x5⟩ | ⟨x1, m, m2, x2, x3, r1, r2, r3, t1, t2, t3, x4, x5, x6, x, y, w, x7⟩
    · omega
    · have := Vx.lt x; omega
    · rcases x with x | x
      · omega
      · have := Vx.lt x; omega
    · rcases x with x | x
      · omega
      · have := Vx.lt x; omega
    · have := Vx.lt x; omega
    · have := Vx.lt x; omega
    · have h1 := Vx.lt x
      rcases y with ⟨r2, _, y⟩ | ⟨_, _, r3, l, _, y, _⟩
      · have := Vx.lt y; omega
      · have := Vx.lt y; omega
    · have h1 := Vx.lt x
      have := Vx.lt y; omega
    · have h1 := Vx.lt x
      have := Vx.lt y
      have := Vx.lt w; omega
  | f + 1, 1, r, a, b, t, x => by
    rcases x with (⟨r', x⟩ | x) | ⟨m, t1, t2, x1, x, y, x2⟩
    · exact Vx.lt x
    · omega
    · have h1 := Vx.lt x
      rcases y with ⟨r', y⟩ | y
      · have := Vx.lt y; omega
      · omega
  | f + 1, 2, r, a, b, t, x => by
    rcases x with (⟨r', x⟩ | x) | ⟨m, t1, t2, x1, x, y, x2⟩
    · exact Vx.lt x
    · omega
    · have h1 := Vx.lt x
      rcases y with ⟨r', y⟩ | y
      · have := Vx.lt y; omega
      · omega
  | f + 1, 3, r, a, b, t, x => by
    rcases x with ⟨l, x, x1⟩ | ⟨m, t1, l, x1, x, y, x2⟩
    · exact Vx.lt x
    · have h1 := Vx.lt x
      have := Vx.lt y; omega
  | f + 1, _ + 4, r, a, b, t, x => x.elim
theorem VV.lt {T : Tks} {md r a b : Nat} {t : Tr Lb} (x : VV T md r a b t) : a < b := by
  obtain ⟨f, x⟩ := x
  exact x.lt
end

section
theorem rk_pos {k : Nat} (h : 0 < rkM k) (hk : kOK k) : 30 ≤ k ∧ k < 48 := by
  have h57 := hk.lt
  unfold rkM at h
  by_cases c : k < 30
  · rw [if_pos c] at h; omega
  · rw [if_neg c] at h
    have : ∀ i, i < 27 → 0 < rkL.getD i 0 → i < 18 := by decide
    have := this (k - 30) (by omega) h
    omega
section Sim
variable {T : Tks} {B : Bs} {sm : Int32 → Int32 → Int32 → Bool} {a m : Nat}
variable {i lv c k ρ : Nat} {op : List Ent} {es : List Fm} {Ws : List (List We)} {W : List We} {X Y t : Tr Lb}
theorem topF_tg (hB : BsOK T B a) (htg : ∀ f ∈ es, f.tg = 0) : (topF B.b0 es).tg = 0 := by
  match es, htg with
  | [], _ => exact hB.tg
  | f :: _, htg => exact htg f List.mem_cons_self
theorem topF_wb (hB : BsOK T B a) (hch : CH T a es op Ws c X) : (topF B.b0 es).wb = nI Ws.flatten.length := by
  match es, op, Ws, hch with
  | [], [], [], _ => exact hB.wb
  | f :: es', e :: op', W' :: Ws', hch =>
    obtain ⟨j, c', X', Y', A, h1, h2, h3, h4, h5, h6, h7⟩ := hch
    show f.wb = _
    rw [h5, List.flatten_cons]
theorem sim_turn (hT : TkOK T m) (hB : BsOK T B a) (hi : i < m) (hlv : lv ≤ 60) (htg : ∀ f ∈ es, f.tg = 0) (hai : a ≤ i) (hch : CH T a es op Ws c X) (hp : Pend T c W k Y) (hv : VV T 0 ρ k i t) (h9 : 9 ≤ ρ) (hsz : B.bd.length + Tr.sz X + Tr.sz Y + Tr.sz t + (W ++ Ws.flatten).length + es.length ≤ i) {bh : Nat} (hk : T.tkd i = 48) : Sim T B sm a m i (B.st T 34 lv 0 es (Tr.app X (Tr.app Y t)) (W ++ Ws.flatten)) (.inr (false, (0, 0, bh, colo W, i + 1, lv, op))) := by
  have hi1 := hT.go hi (by omega)
  have hle := hT.le
  have s1 : (B.st T 34 lv 0 es (Tr.app X (Tr.app Y t)) (W ++ Ws.flatten)).stands (tokC T i) sm = some (B.st T 34 lv 0 es (Tr.app X (Tr.app Y (Tr.nd (T.lb 38 i) t))) (W ++ Ws.flatten)) := by
    rw [tokC_of hk]
    refine st_turn.trans ?_
    rw [tg0 (topF_tg hB htg), ← Tr.app_assoc, nadd_pn2 (nI i) (by rw [Tr.sz_app]; omega) (by rw [hv.rt1]; rfl), Tr.app_assoc]
    rfl
  refine ⟨1, _, rfl, nx_one s1, ?_⟩
  rw [show Rs.settle (B.st T 34 lv 0 es (Tr.app X (Tr.app Y (Tr.nd (T.lb 38 i) t))) (W ++ Ws.flatten)) (tokC T (i + 1)) = _ from se_id (Or.inr (Or.inr (Or.inr (Or.inl rfl))))]
  refine ⟨es, Ws, W, c, X, hi1, hlv, htg, fun _ _ => by omega, by omega, Or.inr (Or.inl ⟨rfl, rfl, rfl, hch, ?_, ?_, ?_, k, Y, _, 9, hp, VV.turn hk h9 hv, by omega, ?_, rfl⟩)⟩
  · show T.tkd i ≠ 38; omega
  · show T.tkd i ≠ 50; omega
  · show T.tkd i ≠ 52; omega
  · simp only [Tr.sz]; omega
theorem sim_op (hT : TkOK T m) (hB : BsOK T B a) (hi : i < m) (hlv : lv ≤ 60) (htg : ∀ f ∈ es, f.tg = 0) (hai : a ≤ i) (hch : CH T a es op Ws c X) (hp : Pend T c W k Y) (hv : VV T 0 ρ k i t) (h9 : 9 ≤ ρ) (hsz : B.bd.length + Tr.sz X + Tr.sz Y + Tr.sz t + (W ++ Ws.flatten).length + es.length ≤ i) {fr0 : Nat} (hfr : fr0 = 0) (hr : 0 < rkM (T.tkd i)) : Sim T B sm a m i (B.st T 34 lv 0 es (Tr.app X (Tr.app Y t)) (W ++ Ws.flatten)) (if Mx.co' (T.tkd i) (colo W) ≤ 2 then .inr (false, (1, fr0, if rkM (T.tkd i) = 8 then 1 else 0, Mx.co' (T.tkd i) (colo W), i + 1, lv, op)) else .inl i) := by
  have hok := hT.ok i
  have hk := rk_pos hr hok
  have hi1 := hT.go hi (by omega)
  have hle := hT.le
  have h8 := rkM_le (T.tkd i)
  have h7 : rkM (T.tkd i) ≠ 7 := rk_ne7
  subst hfr
  -- the machine's step up to what waits
  have st0 := st_op (l := nI lv) (sg := nI 0) (lp := B.bl) (f := topF B.b0 es) (r := restF B.b0 B.bs es) (d := B.bd ++ Tr.pn (Tr.app X (Tr.app Y t))) (w := ((W ++ Ws.flatten).map (We.w T)).reverse) (fn := B.bf) (p := T.tpl i) (v := T.twd i) (sm := sm) (k := nI (ck (T.tkd i))) (tk_ne hT (j := 48) rfl (by omega))
  rw [tg0 (topF_tg hB htg), rk_ck hok] at st0
  rw [show (if nI (ck (T.tkd i)) = (44 : Int32) ∨ nI (ck (T.tkd i)) = 93 then topF B.b0 es else topF B.b0 es) = topF B.b0 es by split <;> rfl] at st0
  have hrk : (if nI (rkM (T.tkd i)) = 4 then (5 : Int32) else nI (rkM (T.tkd i))) = nI (if rkM (T.tkd i) = 4 then 5 else rkM (T.tkd i)) := by
    by_cases c4 : rkM (T.tkd i) = 4
    · rw [if_pos c4, if_pos (by rw [c4]; rfl)]; rfl
    · rw [if_neg c4, if_neg (show ¬ nI (rkM (T.tkd i)) = 4 by simp (disch := omega) only [lit_nI, nI_eq', nI_add', nI_le', nI_lt', nI_nn, nI_ge0, nI_clamp', nI_ne1, nI_ne2, nI_ne3, m1_lt, m1_le, m1_ge, m1_gt, if_false, if_true, Option.bind_some, nm_app]; exact c4)]
  rw [hrk] at st0
  obtain ⟨W', m', Y', t', ρ', e1, e2, e3, e4, e5, e6, e7, e8⟩ := endWaiting_ok hT.pl (l := nI lv) (sg := nI 0) (lp := B.bl) (r := restF B.b0 B.bs es) (fn := B.bf) (rk := if rkM (T.tkd i) = 4 then 5 else rkM (T.tkd i)) (by split <;> omega) (D0 := B.bd) (X := X) hp hv h9 (topF_wb hB hch) (by omega)
  rw [e1] at st0
  have hlen' : (W' ++ Ws.flatten).length = W'.length + Ws.flatten.length := List.length_append
  have hlen : (W ++ Ws.flatten).length = W.length + Ws.flatten.length := List.length_append
  -- an operation that waits now
  have oper : ∀ (hw : hdR W' < rkM (T.tkd i)), rkM (T.tkd i) ≤ ρ' → (rkM (T.tkd i) = 4 → 5 ≤ ρ') → Mx.co' (T.tkd i) (colo W) = colo ((rkM (T.tkd i), i, 0) :: W') → Mx.co' (T.tkd i) (colo W) ≤ 2 → (B.st T 34 lv 0 es (Tr.app X (Tr.app Y t)) (W ++ Ws.flatten)).stands (tokC T i) sm = some (Rs.takeOperation (34, nI lv, nI 0, B.bl, topF B.b0 es, restF B.b0 B.bs es, B.bd ++ Tr.pn (Tr.app X (Tr.app Y' t')), ((W' ++ Ws.flatten).map (We.w T)).reverse, B.bf) (nI (ck (T.tkd i)), T.tpl i, T.twd i) (nI (rkM (T.tkd i)))) → Sim T B sm a m i (B.st T 34 lv 0 es (Tr.app X (Tr.app Y t)) (W ++ Ws.flatten)) (if Mx.co' (T.tkd i) (colo W) ≤ 2 then .inr (false, (1, 0, if rkM (T.tkd i) = 8 then 1 else 0, Mx.co' (T.tkd i) (colo W), i + 1, lv, op)) else .inl i) := by
    intro hw hρ h45 hco hco2 hst
    rw [if_pos hco2]
    refine ⟨1, _, rfl, nx_one hst, ?_⟩
    have hmd : (if nI (rkM (T.tkd i)) = (8 : Int32) then (32 : Int32) else 31) = if rkM (T.tkd i) = 8 then 32 else 31 := by
      by_cases c8 : rkM (T.tkd i) = 8
      · rw [if_pos c8, if_pos (by rw [c8]; rfl)]
      · rw [if_neg c8, if_neg (show ¬ nI (rkM (T.tkd i)) = 8 by simp (disch := omega) only [lit_nI, nI_eq', nI_add', nI_le', nI_lt', nI_nn, nI_ge0, nI_clamp', nI_ne1, nI_ne2, nI_ne3, m1_lt, m1_le, m1_ge, m1_gt, if_false, if_true, Option.bind_some, nm_app]; exact c8)]
    have eto : Rs.takeOperation (34, nI lv, nI 0, B.bl, topF B.b0 es, restF B.b0 B.bs es, B.bd ++ Tr.pn (Tr.app X (Tr.app Y' t')), ((W' ++ Ws.flatten).map (We.w T)).reverse, B.bf) (nI (ck (T.tkd i)), T.tpl i, T.twd i) (nI (rkM (T.tkd i))) = B.st T (if rkM (T.tkd i) = 8 then 32 else 31) lv 0 es (Tr.app X (Tr.app Y' t')) (((rkM (T.tkd i), i, 0) :: W') ++ Ws.flatten) := by
      show ((if nI (rkM (T.tkd i)) = (8 : Int32) then (32 : Int32) else 31), nI lv, nI 0, B.bl, topF B.b0 es, restF B.b0 B.bs es, B.bd ++ Tr.pn (Tr.app X (Tr.app Y' t')), Rs.tadd ((W' ++ Ws.flatten).map (We.w T)).reverse (nI (rkM (T.tkd i))) (T.tpl i) (T.twd i), B.bf) = _
      rw [hmd, tadd_w (by omega)]
      rfl
    rw [eto]
    have hse : Rs.settle (B.st T (if rkM (T.tkd i) = 8 then 32 else 31) lv 0 es (Tr.app X (Tr.app Y' t')) (((rkM (T.tkd i), i, 0) :: W') ++ Ws.flatten)) (tokC T (i + 1)) = B.st T (if rkM (T.tkd i) = 8 then 32 else 31) lv 0 es (Tr.app X (Tr.app Y' t')) (((rkM (T.tkd i), i, 0) :: W') ++ Ws.flatten) := by
      by_cases c8 : rkM (T.tkd i) = 8
      · rw [if_pos c8]; exact se_id (Or.inr (Or.inl rfl))
      · rw [if_neg c8]; exact se_id (Or.inl rfl)
    rw [hse, hco]
    refine ⟨es, Ws, (rkM (T.tkd i), i, 0) :: W', c, X, hi1, hlv, htg, fun _ _ => by omega, by omega, Or.inl ⟨rfl, rfl, hch, Tr.app Y' t', _, Or.inr (Or.inr (Or.inl ⟨hr, h7, by omega, rfl, rfl, rfl, hw, m', ρ', Y', t', hρ, h45, e3, e2, rfl⟩)), ?_, rfl, ?_⟩⟩
    · rw [Tr.sz_app, List.cons_append, List.length_cons]; omega
    · by_cases c8 : rkM (T.tkd i) = 8
      · rw [if_pos c8, if_pos c8]
        exact Or.inr (Or.inl ⟨rfl, rfl, c8⟩)
      · rw [if_neg c8, if_neg c8]
        exact Or.inl ⟨rfl, rfl, by show rkM (T.tkd i) ≤ 7; omega⟩
  by_cases c4 : rkM (T.tkd i) = 4
  · have h38 := colon_rk.mp c4
    rw [if_pos c4] at e4 e5 e7
    have hco : Mx.co' (T.tkd i) (colo W) = colo W' + 1 := by
      unfold Mx.co'
      rw [if_neg (by omega), if_pos h38, e7 (by omega)]
    have st1 : (B.st T 34 lv 0 es (Tr.app X (Tr.app Y t)) (W ++ Ws.flatten)).stands (tokC T i) sm = Rs.takeColon (34, nI lv, nI 0, B.bl, topF B.b0 es, restF B.b0 B.bs es, B.bd ++ Tr.pn (Tr.app X (Tr.app Y' t')), ((W' ++ Ws.flatten).map (We.w T)).reverse, B.bf) (nI (ck (T.tkd i)), T.tpl i, T.twd i) := by
      refine st0.trans ?_
      rw [h38]
      rfl
    have hwl : nI (((W' ++ Ws.flatten).map (We.w T)).reverse).length = nI (W'.length + Ws.flatten.length) := by
      rw [List.length_reverse, List.length_map, hlen']
    have htc : ∀ s : Rs, s = (34, nI lv, nI 0, B.bl, topF B.b0 es, restF B.b0 B.bs es, B.bd ++ Tr.pn (Tr.app X (Tr.app Y' t')), ((W' ++ Ws.flatten).map (We.w T)).reverse, B.bf) → s.takeColon (nI (ck (T.tkd i)), T.tpl i, T.twd i) = if nI (W'.length + Ws.flatten.length) = nI Ws.flatten.length ∨ Rs.lastW ((W' ++ Ws.flatten).map (We.w T)).reverse Wt.rk ≠ 4 then some (s.takeOperation (nI (ck (T.tkd i)), T.tpl i, T.twd i) 4) else if Rs.lastW ((W' ++ Ws.flatten).map (We.w T)).reverse Wt.sec ≠ -1 then none else some ((s.s_wait (Rs.giveSec ((W' ++ Ws.flatten).map (We.w T)).reverse (T.tpl i))).goOn 31) := by
      intro s hs
      subst hs
      unfold Rs.takeColon
      show (if nI (((W' ++ Ws.flatten).map (We.w T)).reverse).length = (topF B.b0 es).wb ∨ _ then _ else _) = _
      rw [hwl, topF_wb hB hch]
    rw [htc _ rfl] at st1
    match W', e2, e4, e7, hlen', st1, hco, oper with
    | [], e2, e4, e7, hlen', st1, hco, oper =>
      rw [if_pos (Or.inl (by rw [List.length_nil, Nat.zero_add]))] at st1
      have h0 : colo ([] : List We) = 0 := rfl
      refine oper (by show 0 < _; omega) (by omega) (fun _ => e5) ?_ (by rw [hco, h0]; omega) (by rw [c4]; exact st1)
      rw [hco, h0, c4]; rfl
    | (r2, p2, q2) :: W2, e2, e4, e7, hlen', st1, hco, oper =>
      have hlw : ∀ g : Wt → Int32, Rs.lastW (((r2, p2, q2) :: W2 ++ Ws.flatten).map (We.w T)).reverse g = g (We.w T (r2, p2, q2)) := by
        intro g
        unfold Rs.lastW
        rw [List.getLast?_reverse, List.cons_append, List.map_cons, List.head?_cons]
        rfl
      have hne : ¬ nI (((r2, p2, q2) :: W2).length + Ws.flatten.length) = nI Ws.flatten.length := by
        rw [List.length_cons, nI_eq' (by rw [List.length_cons] at hlen'; rw [List.length_cons] at e8; omega) (by omega)]; omega
      have hr2 : r2 < 5 := e4
      rw [hlw, hlw] at st1
      by_cases d : r2 = 4
      · subst d
        rw [if_neg (fun x => x.elim hne (fun y => y rfl))] at st1
        by_cases q : q2 = 0
        · subst q
          rw [if_neg (show ¬ ((We.w T (4, p2, 0)).sec ≠ -1) from fun x => x rfl)] at st1
          rcases e2 with g | g | g | g
          · exact absurd g.1 (by decide)
          · exact absurd g.1 (by decide)
          · obtain ⟨g1, g2, g3, g4, g5, g6, g7, k1, r1, x0, t1, g8, g9, g10, g11, g12⟩ := g
            have hc1 : colo ((4, p2, 0) :: W2) = 1 := rfl
            rw [if_pos (by rw [hco, hc1]; omega)]
            refine ⟨1, _, rfl, nx_one st1, ?_⟩
            have egs : Rs.giveSec (((4, p2, 0) :: W2 ++ Ws.flatten).map (We.w T)).reverse (T.tpl i) = (((4, p2, i) :: W2 ++ Ws.flatten).map (We.w T)).reverse := by
              unfold Rs.giveSec
              rw [List.cons_append, List.map_cons, List.reverse_cons, List.dropLast_concat, List.getLast?_concat, List.cons_append, List.map_cons, List.reverse_cons]
              congr 1
              show [(nI 4, T.tpl p2, T.tpl i, T.twd p2)] = [(nI 4, T.tpl p2, if i = 0 then -1 else T.tpl i, T.twd p2)]
              rw [if_neg (show ¬ i = 0 by have := e3.lt; omega)]
            rw [egs]
            have hse : Rs.settle (B.st T 31 lv 0 es (Tr.app X (Tr.app Y' t')) (((4, p2, i) :: W2) ++ Ws.flatten)) (tokC T (i + 1)) = B.st T 31 lv 0 es (Tr.app X (Tr.app Y' t')) (((4, p2, i) :: W2) ++ Ws.flatten) := se_id (Or.inl rfl)
            refine (congrArg (ER T B a m _) hse).mpr ?_
            have hlt := e3.lt
            subst g5
            rw [hco, hc1, if_neg (show ¬ rkM (T.tkd i) = 8 by omega)]
            have hc2 : 1 + 1 = colo ((4, p2, i) :: W2) := by
              show 1 + 1 = if (4 : Nat) = 4 then (if i = 0 then 1 else 2) else colo W2
              rw [if_pos rfl, if_neg (by omega)]
            refine ⟨es, Ws, (4, p2, i) :: W2, c, X, hi1, hlv, htg, fun _ _ => by omega, by omega, Or.inl ⟨rfl, hc2, hch, Tr.app Y' t', 31, Or.inr (Or.inr (Or.inr ⟨rfl, by omega, rfl, colon_rk.mp g6, h38, g7, k1, r1, ρ', x0, t1, t', g9 rfl, e5, g10, e3, g11, ?_⟩)), ?_, rfl, Or.inl ⟨rfl, rfl, by show 4 ≤ 7; omega⟩⟩⟩
            · rw [g12, Tr.app_assoc]
            · rw [Tr.sz_app, List.cons_append, List.length_cons]
              rw [List.length_cons] at e8
              rw [List.cons_append, List.length_cons, List.length_append] at hlen'
              rw [List.length_append]
              omega
          · omega
        · rw [if_pos (show (We.w T (4, p2, q2)).sec ≠ -1 by
            show (if q2 = 0 then (-1 : Int32) else T.tpl q2) ≠ -1
            rw [if_neg q]; exact hT.pl q2)] at st1
          have hc2 : colo ((4, p2, q2) :: W2) = 2 := by
            show (if (4 : Nat) = 4 then (if q2 = 0 then 1 else 2) else colo W2) = 2
            rw [if_pos rfl, if_neg q]
          rw [if_neg (by rw [hco, hc2]; omega)]
          exact ⟨0, _, rfl, rfl, st1, Or.inl rfl⟩
      · have hlow : colo ((r2, p2, q2) :: W2) = 0 := Pend.low e2 (by show r2 < 4; omega)
        rw [if_pos (Or.inr (show (We.w T (r2, p2, q2)).rk ≠ 4 by
          show ¬ nI r2 = nI 4
          rw [nI_eq' (by omega) (by omega)]; exact d))] at st1
        refine oper (by show r2 < _; omega) (by omega) (fun _ => e5) ?_ (by rw [hco, hlow]; omega) (by rw [c4]; exact st1)
        rw [hco, hlow, c4]; rfl
  · rw [if_neg c4] at e4 e5 e7
    rw [if_neg (by omega), Nat.add_zero] at e4
    have hco2 : colo W ≤ 2 := by
      have : ∀ W : List We, colo W ≤ 2 := by
        intro W
        induction W with
        | nil => exact Nat.zero_le _
        | cons e W ih =>
          obtain ⟨r, p, q⟩ := e
          show (if r = 4 then (if q = 0 then 1 else 2) else colo W) ≤ 2
          split
          · split <;> omega
          · exact ih
      exact this W
    have hco : Mx.co' (T.tkd i) (colo W) = colo ((rkM (T.tkd i), i, 0) :: W') := by
      show _ = if rkM (T.tkd i) = 4 then (if (0 : Nat) = 0 then 1 else 2) else colo W'
      rw [if_neg c4]
      unfold Mx.co'
      by_cases l4 : rkM (T.tkd i) < 4
      · rw [if_pos l4, Pend.low e2 (by omega)]
      · rw [if_neg l4, if_neg (fun x => c4 (colon_rk.mpr x)), e7 (by omega)]
    refine oper e4 e5 (fun x => absurd x c4) hco ?_ ?_
    · unfold Mx.co'
      split
      · omega
      · rw [if_neg (fun x => c4 (colon_rk.mpr x))]; exact hco2
    · refine st0.trans ?_
      have n := fun (j : Nat) (hj : kOK j) (h : T.tkd i ≠ j) => tk_ne hT (i := i) hj h
      rw [aw_op (n 51 rfl (by omega)) (n 54 rfl (by omega)) (n 38 rfl (fun x => c4 (colon_rk.mpr x))) (n 55 rfl (by omega)) (n 56 rfl (by omega)) (n 53 rfl (by omega)), if_neg (show ¬ nI (rkM (T.tkd i)) = 0 by simp (disch := omega) only [lit_nI, nI_eq', nI_add', nI_le', nI_lt', nI_nn, nI_ge0, nI_clamp', nI_ne1, nI_ne2, nI_ne3, m1_lt, m1_le, m1_ge, m1_gt, if_false, if_true, Option.bind_some, nm_app]; omega)]
end Sim
end

section
theorem endWaiting_nil {T : Tks} {md l sg lp x : Int32} {f : Fm} {r : List Fm} {d : List Nd} {Wr : List We} {fn : List Wt} (h : f.wb = nI Wr.length) (hl : Wr.length < 2 ^ 20) : Rs.endWaiting (md, l, sg, lp, f, r, d, (Wr.map (We.w T)).reverse, fn) x = (md, l, sg, lp, f, r, d, (Wr.map (We.w T)).reverse, fn) := by
  have e : Rs.endW x f.wb (Wr.map (We.w T)) d = (Wr.map (We.w T), d) := by
    match Wr, h, hl with
    | [], _, _ => rfl
    | w :: Wr', h, hl =>
      rw [List.map_cons, Rs.endW, if_neg]
      intro hc
      have h1 := hc.1
      rw [h, List.length_cons, List.length_cons, List.length_map, nI_lt' (by rw [List.length_cons] at hl; omega) (by rw [List.length_cons] at hl; omega)] at h1
      omega
  unfold Rs.endWaiting
  show (md, l, sg, lp, f, r, (Rs.endW x f.wb ((Wr.map (We.w T)).reverse).reverse d).2, ((Rs.endW x f.wb ((Wr.map (We.w T)).reverse).reverse d).1).reverse, fn) = _
  rw [List.reverse_reverse, e]
section Sim
variable {T : Tks} {B : Bs} {sm : Int32 → Int32 → Int32 → Bool} {a m : Nat}
/-- an operand has ended and no operator comes: one element stands there -/
theorem to_elem (hT : TkOK T m) (hB : BsOK T B a) {i lv c k ρ : Nat} {op : List Ent} {es : List Fm} {Ws : List (List We)} {W : List We} {X Y t : Tr Lb} (hi : i < m) (htg : ∀ f ∈ es, f.tg = 0) (hch : CH T a es op Ws c X) (hp : Pend T c W k Y) (hv : VV T 0 ρ k i t) (h9 : 9 ≤ ρ) (hsz : B.bd.length + Tr.sz X + Tr.sz Y + Tr.sz t + (W ++ Ws.flatten).length + es.length ≤ i) (h48 : T.tkd i ≠ 48) (hr : rkM (T.tkd i) = 0) :
    ∃ t' ρ', VV T 0 ρ' c i t' ∧ B.bd.length + Tr.sz X + Tr.sz t' + Ws.flatten.length + es.length ≤ i ∧ (B.st T 34 lv 0 es (Tr.app X (Tr.app Y t)) (W ++ Ws.flatten)).stands (tokC T i) sm = Rs.afterW (B.st T 34 lv 0 es (Tr.app X t') Ws.flatten) (tokC T i) 0 := by
  have hok := hT.ok i
  have hle := hT.le
  have st0 := st_op (l := nI lv) (sg := nI 0) (lp := B.bl) (f := topF B.b0 es) (r := restF B.b0 B.bs es) (d := B.bd ++ Tr.pn (Tr.app X (Tr.app Y t))) (w := ((W ++ Ws.flatten).map (We.w T)).reverse) (fn := B.bf) (p := T.tpl i) (v := T.twd i) (sm := sm) (k := nI (ck (T.tkd i))) (tk_ne hT (j := 48) rfl h48)
  rw [tg0 (topF_tg hB htg), rk_ck hok, hr] at st0
  rw [show (if nI (ck (T.tkd i)) = (44 : Int32) ∨ nI (ck (T.tkd i)) = 93 then topF B.b0 es else topF B.b0 es) = topF B.b0 es by split <;> rfl, if_neg (show ¬ nI 0 = 4 by decide)] at st0
  obtain ⟨W', m', Y', t', ρ', e1, e2, e3, e4, e5, e6, e7, e8⟩ := endWaiting_ok hT.pl (l := nI lv) (sg := nI 0) (lp := B.bl) (r := restF B.b0 B.bs es) (fn := B.bf) (rk := 0) (by omega) (D0 := B.bd) (X := X) hp hv h9 (topF_wb hB hch) (by omega)
  rw [if_pos rfl] at e4
  obtain ⟨rfl, rfl, rfl⟩ := e2.none (by omega)
  rw [e1] at st0
  refine ⟨t', ρ', e3, ?_, st0⟩
  rw [List.length_append] at hsz
  simp only [Tr.sz, List.length_nil] at e8
  omega
/-- the state behind an item that has closed -/
theorem ER.closed (hT : TkOK T m) {i lv c' j co1 fr1 bh : Nat} {op' : List Ent} {es' : List Fm} {Ws' : List (List We)} {W0 : List We} {X' Y0 tn : Tr Lb} (hi : i < m) (hlv : lv ≤ 60) (hai : a ≤ i) (hfr : fr1 + 1 ≤ lv) (htg : ∀ f ∈ es', f.tg = 0) (hch : CH T a es' op' Ws' c' X') (hp : Pend T c' W0 j Y0) (hco : co1 = colo W0) (hk : T.tkd i = 51 ∨ T.tkd i = 53) (hv : VV T 0 10 j (i + 1) tn) (hsz : B.bd.length + Tr.sz X' + Tr.sz Y0 + Tr.sz tn + (W0 ++ Ws'.flatten).length + es'.length ≤ i + 1) :
    ER T B a m (0, 0, bh, co1, i + 1, lv - fr1 - 1, op') (Rs.settle (34, nI lv - 1 - nI fr1, 0, B.bl, topF B.b0 es', restF B.b0 B.bs es', B.bd ++ Tr.pn (Tr.app X' (Tr.app Y0 tn)), ((W0 ++ Ws'.flatten).map (We.w T)).reverse, B.bf) (tokC T (i + 1))) := by
  have hi1 := hT.go hi (by omega)
  rw [se_id (Or.inr (Or.inr (Or.inr (Or.inl rfl)))), hco]
  refine ⟨es', Ws', W0, c', X', hi1, by omega, htg, fun _ _ => by omega, by omega, Or.inr (Or.inl ⟨rfl, rfl, rfl, hch, ?_, ?_, ?_, j, Y0, tn, 10, hp, hv, by omega, hsz, ?_⟩)⟩
  · show T.tkd i ≠ 38; omega
  · show T.tkd i ≠ 50; omega
  · show T.tkd i ≠ 52; omega
  · rw [show (1 : Int32) = nI 1 from rfl, nI_sub' (by omega), nI_sub' (by omega), show lv - 1 - fr1 = lv - fr1 - 1 by omega]
    rfl
variable {i lv bh : Nat} {f : Fm} {es' : List Fm} {e : Ent} {op' : List Ent} {W0 : List We} {Ws' : List (List We)} {j c c' : Nat} {X' Y0 A t' : Tr Lb} {s : Rs} {md : Int32}
theorem sim_closeG (hT : TkOK T m) (hi : i < m) (hlv : lv ≤ 60) (hai : a ≤ i) (htg : ∀ g ∈ f :: es', g.tg = 0) (hch : CH T a es' op' Ws' c' X') (hp : Pend T c' W0 j Y0) (hsg : f.sg = nI e.2.2.2.2) (hco : e.2.2.2.1 = colo W0) (hfr : e.2.2.2.2 + 1 ≤ lv) (hsz : B.bd.length + Tr.sz (Tr.app X' (Tr.app Y0 A)) + Tr.sz t' + (W0 ++ Ws'.flatten).length + (es'.length + 1) ≤ i) (hst : s.stands (tokC T i) sm = Rs.afterW (B.st T md lv 0 (f :: es') (Tr.app (Tr.app X' (Tr.app Y0 A)) t') (W0 ++ Ws'.flatten)) (tokC T i) 0) (hk : T.tkd i = 51) (hs : f.k = 50 ∧ T.tkd j = 50 ∧ c = j + 1 ∧ A = .leaf) {ρ : Nat} (hv : VV T 0 ρ c i t') : Sim T B sm a m i s (.inr (false, (0, 0, bh, e.2.2.2.1, i + 1, lv - e.2.2.2.2 - 1, op'))) := by
  obtain ⟨h1, h2, h3, h4⟩ := hs
  subst h4
  have s1 : s.stands (tokC T i) sm = some (34, nI lv - 1 - nI e.2.2.2.2, 0, B.bl, topF B.b0 es', restF B.b0 B.bs es', B.bd ++ Tr.pn (Tr.app X' (Tr.app Y0 t')), ((W0 ++ Ws'.flatten).map (We.w T)).reverse, B.bf) := by
    rw [hst, tokC_of hk, ← hsg, ← Tr.app_assoc, ← Tr.app_assoc, Tr.app_nil]
    have := aw_grp (md := md) (l := nI lv) (sg := nI 0) (lp := B.bl) (f := f) (g := topF B.b0 es') (r := restF B.b0 B.bs es') (d := B.bd ++ Tr.pn (Tr.app (Tr.app X' Y0) t')) (w := ((W0 ++ Ws'.flatten).map (We.w T)).reverse) (fn := B.bf) (p := T.tpl i) (v := T.twd i) h1
    rw [top_rest] at this
    exact this
  refine ⟨1, _, rfl, nx_one s1, ?_⟩
  refine ER.closed hT hi hlv hai hfr (fun g hg => htg g (List.mem_cons_of_mem _ hg)) hch hp hco (Or.inl hk) ?_ ?_
  · subst h3
    exact VV.mk (Or.inr (Or.inl ⟨rfl, h2, i, rfl, hk, ρ, hv⟩))
  · rw [Tr.sz_app, Tr.app_nil] at hsz; omega
/-- a call's arguments with one more -/
theorem VV.arg {c j i : Nat} {A t' : Tr Lb} (h : (c = j + 2 ∧ A = .leaf) ∨ ∃ m, VV T 1 0 (j + 2) m A ∧ T.tkd m = 54 ∧ c = m + 1) (hv : VEl T (VV T) true c i t') : VV T 1 0 (j + 2) i (Tr.app A t') := by
  rcases h with ⟨h1, h2⟩ | ⟨k, h1, h2, h3⟩
  · subst h1 h2
    exact VV.mk (Or.inl hv)
  · subst h3
    exact VV.mk (Or.inr ⟨k, A, t', h2, h1, hv, rfl⟩)
theorem VEl.rt {cc : Bool} {c i : Nat} {t' : Tr Lb} (hv : VEl T (VV T) cc c i t') : Tr.rt t' = 1 := by
  rcases hv with ⟨r, h⟩ | ⟨_, _, _, h⟩
  · exact h.rt1
  · rw [h]; rfl
theorem sim_closeC (hT : TkOK T m) (hi : i < m) (hlv : lv ≤ 60) (hai : a ≤ i) (htg : ∀ g ∈ f :: es', g.tg = 0) (hch : CH T a es' op' Ws' c' X') (hp : Pend T c' W0 j Y0) (hsg : f.sg = nI e.2.2.2.2) (hco : e.2.2.2.1 = colo W0) (hfr : e.2.2.2.2 + 1 ≤ lv) (hsz : B.bd.length + Tr.sz (Tr.app X' (Tr.app Y0 A)) + Tr.sz t' + (W0 ++ Ws'.flatten).length + (es'.length + 1) ≤ i) (hst : s.stands (tokC T i) sm = Rs.afterW (B.st T md lv 0 (f :: es') (Tr.app (Tr.app X' (Tr.app Y0 A)) t') (W0 ++ Ws'.flatten)) (tokC T i) 0) (hk : T.tkd i = 51) (h1 : f.k = 33) (h2 : T.tkd j = 2) (h3 : T.tkd (j + 1) = 50) (h4 : f.pl = T.tpl j) (h5 : f.wd = T.twd j) (h6 : f.sec = T.tpl (j + 1)) (h7 : (c = j + 2 ∧ A = .leaf) ∨ ∃ m, VV T 1 0 (j + 2) m A ∧ T.tkd m = 54 ∧ c = m + 1) (h8 : f.pa = nI (Tr.rt A)) (hv : VEl T (VV T) true c i t') : Sim T B sm a m i s (.inr (false, (0, 0, bh, e.2.2.2.1, i + 1, lv - e.2.2.2.2 - 1, op'))) := by
  have hle := hT.le
  have hrt := Tr.rt_le A
  have hsz' := hsz
  rw [Tr.sz_app, Tr.sz_app] at hsz'
  have s1 : s.stands (tokC T i) sm = some (34, nI lv - 1 - nI e.2.2.2.2, 0, B.bl, topF B.b0 es', restF B.b0 B.bs es', B.bd ++ Tr.pn (Tr.app X' (Tr.app Y0 (Tr.nd (33, T.tpl j, T.tpl (j + 1), T.twd j, nI j) (Tr.app A t')))), ((W0 ++ Ws'.flatten).map (We.w T)).reverse, B.bf) := by
    rw [hst, tokC_of hk, ← hsg]
    have := aw_call (md := md) (l := nI lv) (sg := nI 0) (lp := B.bl) (f := f) (g := topF B.b0 es') (r := restF B.b0 B.bs es') (d := B.bd ++ Tr.pn (Tr.app (Tr.app X' (Tr.app Y0 A)) t')) (w := ((W0 ++ Ws'.flatten).map (We.w T)).reverse) (fn := B.bf) (p := T.tpl i) (v := T.twd i) h1
    rw [top_rest] at this
    refine Eq.trans this ?_
    rw [h4, h5, h6, h8, show nI (Tr.rt A) + 1 = nI (Tr.rt A + 1) from nI_add' _ 1, Tr.app_assoc, Tr.app_assoc, ← Tr.app_assoc X' Y0, nadd_pn2 (nI j) ?_ ?_, Tr.app_assoc]
    · rw [Tr.sz_app, Tr.sz_app]; omega
    · rw [Tr.rt_app, hv.rt]
  refine ⟨1, _, rfl, nx_one s1, ?_⟩
  refine ER.closed hT hi hlv hai hfr (fun g hg => htg g (List.mem_cons_of_mem _ hg)) hch hp hco (Or.inl hk) ?_ ?_
  · exact VV.mk (Or.inr (Or.inr (Or.inl ⟨rfl, h2, h3, i, rfl, hk, _, rfl, Or.inr (VV.arg h7 hv)⟩)))
  · simp only [Tr.sz]; rw [Tr.sz_app]; omega
end Sim
end

section
section Sim
variable {T : Tks} {B : Bs} {sm : Int32 → Int32 → Int32 → Bool} {a m : Nat}
theorem st_allhi {l sg lp : Int32} {f : Fm} {r : List Fm} {d : List Nd} {w fn : List Wt} {p v : Int32} (h : f.k = 33) (h2 : ¬ f.pa < 2) : Rs.stands (30, l, sg, lp, f, r, d, w, fn) (58, p, v) sm = none := by
  show (if f.k = 33 then (if f.pa < 2 then some _ else none) else none) = _
  rw [if_pos h, if_neg h2]
variable {i lv bh : Nat} {f : Fm} {es' : List Fm} {wh cn li co1 fr1 : Nat} {op' : List Ent} {W0 : List We} {Ws' : List (List We)} {j c c' : Nat} {X' Y0 A t' : Tr Lb} {s : Rs} {md : Int32}
theorem sim_commaC (hT : TkOK T m) (hi : i < m) (hlv : lv ≤ 60) (hai : a ≤ i) (htg : ∀ g ∈ f :: es', g.tg = 0) (hch : CH T a es' op' Ws' c' X') (hp : Pend T c' W0 j Y0) (hwb : f.wb = nI (W0 ++ Ws'.flatten).length) (hsg : f.sg = nI fr1) (hco : co1 = colo W0) (hsz : B.bd.length + Tr.sz (Tr.app X' (Tr.app Y0 A)) + Tr.sz t' + (W0 ++ Ws'.flatten).length + (es'.length + 1) ≤ i) (hst : s.stands (tokC T i) sm = Rs.afterW (B.st T md lv 0 (f :: es') (Tr.app (Tr.app X' (Tr.app Y0 A)) t') (W0 ++ Ws'.flatten)) (tokC T i) 0) {fr0 n : Nat} (hfr0 : fr0 = 0) (hn : n = Tr.rt A + 1) (hc7 : Tr.rt A ≤ 7) (hk : T.tkd i = 54) (h1 : f.k = 33) (h2 : T.tkd j = 2) (h3 : T.tkd (j + 1) = 50) (h4 : f.pl = T.tpl j) (h5 : f.wd = T.twd j) (h6 : f.sec = T.tpl (j + 1)) (h7 : (c = j + 2 ∧ A = .leaf) ∨ ∃ m, VV T 1 0 (j + 2) m A ∧ T.tkd m = 54 ∧ c = m + 1) (h8 : f.pa = nI (Tr.rt A)) (h9 : f.lim = nI li) (hli : li ≤ 1) (hv : VEl T (VV T) true c i t') :
    Sim T B sm a m i s (if T.tkd i = 54 ∧ n ≠ 8 ∧ (n ≤ 1 ∨ li ≠ 1) then
      (if T.tkd (i + 1) = 38 then
        (if n ≤ 1 then
          (if T.tkd (i + 2) = 54 ∨ T.tkd (i + 2) = 51 then .inr (false, (0, fr0, 0, 0, i + 2, lv, (2, n + 1, 1, co1, fr1) :: op')) else .inl (i + 2))
        else .inl (i + 1))
      else .inr (false, (1, fr0, 0, 0, i + 1, lv, (2, n, li, co1, fr1) :: op')))
    else .inl i) := by
  subst hfr0
  have hle := hT.le
  have hi1 : i + 1 < m := hT.go hi (by omega)
  have hrtA := Tr.rt_le A
  have hsz' := hsz
  rw [Tr.sz_app, Tr.sz_app] at hsz'
  have hf0 := htg f List.mem_cons_self
  have eX : Tr.app (Tr.app X' (Tr.app Y0 A)) t' = Tr.app X' (Tr.app Y0 (Tr.app A t')) := by rw [Tr.app_assoc, Tr.app_assoc]
  have hrt' : Tr.rt (Tr.app A t') = n := by rw [Tr.rt_app, hv.rt, hn]
  have hpa : f.pa + 1 = nI n := by rw [h8, hn]; exact nI_add' _ 1
  have s0 : s.stands (tokC T i) sm = if nI n < (if f.lim ≠ 0 then 2 else 8) then some (30, nI lv, nI 0, B.bl, f.s_pa (nI n), es' ++ B.b0 :: B.bs, B.bd ++ Tr.pn (Tr.app X' (Tr.app Y0 (Tr.app A t'))), ((W0 ++ Ws'.flatten).map (We.w T)).reverse, B.bf) else none := by
    rw [hst, tokC_of hk, eX]
    have := aw_commaC (md := md) (l := nI lv) (sg := nI 0) (lp := B.bl) (f := f) (r := es' ++ B.b0 :: B.bs) (d := B.bd ++ Tr.pn (Tr.app X' (Tr.app Y0 (Tr.app A t')))) (w := ((W0 ++ Ws'.flatten).map (We.w T)).reverse) (fn := B.bf) (p := T.tpl i) (v := T.twd i) h1
    rw [hpa] at this
    exact this
  have hcond : (nI n < (if f.lim ≠ 0 then (2 : Int32) else 8)) = (n ≠ 8 ∧ (n ≤ 1 ∨ li ≠ 1)) := by
    apply propext
    by_cases d : li = 0
    · rw [if_neg (fun x => x (by rw [h9, d]; rfl)), show (8 : Int32) = nI 8 from rfl, nI_lt' (by omega) (by omega)]
      omega
    · rw [if_pos (show f.lim ≠ 0 by rw [h9, show li = 1 by omega]; decide), show (2 : Int32) = nI 2 from rfl, nI_lt' (by omega) (by omega)]
      omega
  by_cases cd : n ≠ 8 ∧ (n ≤ 1 ∨ li ≠ 1)
  · rw [if_pos (by rw [hcond]; exact cd)] at s0
    rw [if_pos ⟨hk, cd⟩]
    have e3 := se_30 (l := nI lv) (sg := nI 0) (lp := B.bl) (f := f.s_pa (nI n)) (r := es' ++ B.b0 :: B.bs) (d := B.bd ++ Tr.pn (Tr.app X' (Tr.app Y0 (Tr.app A t')))) (w := ((W0 ++ Ws'.flatten).map (We.w T)).reverse) (fn := B.bf) (t := tokC T (i + 1)) (Or.inl hf0)
    rw [show (tokC T (i + 1)).k = nI (ck (T.tkd (i + 1))) from rfl, tk_mode hT, seF_base (f := f.s_pa (nI n)) (show f.k ≠ 36 by rw [h1]; decide) hf0] at e3
    have hch' : ∀ (lim2 : Nat) (F : Fm), lim2 ≤ 1 → F.k = f.k → F.pl = f.pl → F.wd = f.wd → F.sec = f.sec → F.pa = nI n → F.lim = nI lim2 → F.wb = f.wb → F.sg = f.sg → CH T a (F :: es') ((2, n, lim2, co1, fr1) :: op') (W0 :: Ws') (i + 1) (Tr.app X' (Tr.app Y0 (Tr.app A t'))) := by
      intro lim2 F k0 k1 k2 k3 k4 k5 k6 k7 k8
      refine ⟨j, c', X', Y0, Tr.app A t', hch, hp, Or.inr (Or.inr ⟨k1.trans h1, rfl, h2, h3, k2.trans h4, k3.trans h5, k4.trans h6, Or.inr ⟨i, VV.arg h7 hv, hk, rfl⟩, by rw [k5, hrt'], k6, by rw [hrt']; rfl, k0⟩), rfl, k7.trans hwb, k8.trans hsg, hco⟩
    have htg' : ∀ (F : Fm), F.tg = 0 → ∀ g ∈ F :: es', g.tg = 0 := by
      intro F hF g hg
      rcases List.mem_cons.mp hg with rfl | hg
      · exact hF
      · exact htg g (List.mem_cons_of_mem _ hg)
    by_cases g : T.tkd (i + 1) = 38
    · have hi2 : i + 2 < m := hT.go hi1 (by omega)
      rw [if_pos g]
      rw [if_pos (Or.inr (Or.inr g))] at e3
      have hb : B.bd.length + Tr.sz (Tr.app X' (Tr.app Y0 (Tr.app A t'))) < 16385 := by rw [Tr.sz_app, Tr.sz_app, Tr.sz_app]; omega
      by_cases h : n ≤ 1
      · rw [if_pos h]
        have s2 : (Rs.settle (30, nI lv, nI 0, B.bl, f.s_pa (nI n), es' ++ B.b0 :: B.bs, B.bd ++ Tr.pn (Tr.app X' (Tr.app Y0 (Tr.app A t'))), ((W0 ++ Ws'.flatten).map (We.w T)).reverse, B.bf) (tokC T (i + 1))).stands (tokC T (i + 1)) sm = some (35, nI lv, nI 0, B.bl, (f.s_pa (nI n)).s_lim 1, es' ++ B.b0 :: B.bs, B.bd ++ Tr.pn (Tr.app (Tr.app X' (Tr.app Y0 (Tr.app A t'))) (Tr.nd (T.lb 34 (i + 1)) .leaf)), ((W0 ++ Ws'.flatten).map (We.w T)).reverse, B.bf) := by
          rw [e3, tokC_of g]
          refine (st_all (f := f.s_pa (nI n)) h1 (show nI n < 2 by rw [show (2 : Int32) = nI 2 from rfl, nI_lt' (by omega) (by omega)]; omega)).trans ?_
          rw [nadd_lf (nI (i + 1)) hb]
          rfl
        by_cases q : T.tkd (i + 2) = 54 ∨ T.tkd (i + 2) = 51
        · rw [if_pos q]
          refine ⟨2, _, rfl, nx_two s0 s2, ?_⟩
          rw [se_id (Or.inr (Or.inr (Or.inr (Or.inr rfl))))]
          refine ⟨(f.s_pa (nI n)).s_lim 1 :: es', W0 :: Ws', [], i + 1, Tr.app X' (Tr.app Y0 (Tr.app A t')), hi2, hlv, htg' _ hf0, fun _ _ => by omega, by omega, Or.inr (Or.inr (Or.inl ⟨rfl, rfl, rfl, rfl, g, q, (f.s_pa (nI n)).s_lim 1, es', n, co1, fr1, op', rfl, h1, rfl, hch' 1 _ (by omega) rfl rfl rfl rfl rfl rfl rfl rfl, ?_, rfl⟩))⟩
          rw [Tr.sz_app, Tr.sz_app, Tr.sz_app, List.flatten_cons, List.length_cons]; omega
        · rw [if_neg q]
          refine ⟨2, _, rfl, nx_two s0 s2, ?_, Or.inr (Or.inr (by rw [se_id (Or.inr (Or.inr (Or.inr (Or.inr rfl))))]))⟩
          rw [se_id (Or.inr (Or.inr (Or.inr (Or.inr rfl))))]
          exact st_allno (tk_ne hT (j := 54) rfl (fun x => q (Or.inl x))) (tk_ne hT (j := 51) rfl (fun x => q (Or.inr x)))
      · rw [if_neg h]
        refine ⟨1, _, rfl, nx_one s0, ?_, Or.inr (Or.inl (by omega))⟩
        rw [e3, tokC_of g]
        exact st_allhi h1 (show ¬ nI n < 2 by rw [show (2 : Int32) = nI 2 from rfl, nI_lt' (by omega) (by omega)]; omega)
    · rw [if_neg g]
      refine ⟨1, _, rfl, nx_one s0, ?_⟩
      rw [e3]
      have e0 : (f.s_pa (nI n)).s_tg 0 = f.s_pa (nI n) := tg0 hf0
      refine ER.start (f := f.s_pa (nI n)) (Ws := W0 :: Ws') hi1 hlv (fun g hg => htg g (List.mem_cons_of_mem _ hg)) (by omega) (by rw [e0]; exact hch' li _ hli rfl rfl rfl rfl rfl h9 rfl rfl) ?_ ⟨fun _ => ⟨g, fun x => absurd (show nI n = nI 0 from x) (by rw [nI_eq' (by omega) (by omega)]; omega)⟩, fun x => absurd (h1.symm.trans x) (by decide)⟩ rfl (by rw [e0]; rfl)
      rw [Tr.sz_app, Tr.sz_app, Tr.sz_app, List.flatten_cons]; omega
  · rw [if_neg (by rw [hcond]; exact cd)] at s0
    rw [if_neg (fun x => cd x.2)]
    exact ⟨0, _, rfl, rfl, s0, Or.inl rfl⟩
end Sim
end

section
theorem seF_ip {f : Fm} {t : Tok} (h : f.ip ≠ 0) (h2 : f.tg = 0) : seF f t = f := by
  rcases f with ⟨k, pl, wd, sec, pa, ip, ipl, iw, sg, wb, lim, tg, lb⟩
  have h : ip ≠ 0 := h
  have h2 : tg = 0 := h2
  subst h2
  show (k, pl, wd, sec, pa, ip, (if k = 36 ∧ ip = 0 then t.pl else ipl), (if k = 36 ∧ ip = 0 then t.wd else iw), sg, wb, lim, (0 : Int32), lb) = _
  rw [if_neg (fun x => h x.2), if_neg (fun x => h x.2)]
section Sim
variable {T : Tks} {B : Bs} {sm : Int32 → Int32 → Int32 → Bool} {a m : Nat}
theorem VV.elt {c b i : Nat} {E t' : Tr Lb} (h : (c = b ∧ E = .leaf) ∨ ∃ m, VV T 2 0 b m E ∧ T.tkd m = 54 ∧ c = m + 1) {ρ : Nat} (hv : VV T 0 ρ c i t') : VV T 2 0 b i (Tr.app E t') := by
  rcases h with ⟨h1, h2⟩ | ⟨k, h1, h2, h3⟩
  · subst h1 h2
    exact VV.mk (Or.inl (Or.inl ⟨ρ, hv⟩))
  · subst h3
    exact VV.mk (Or.inr ⟨k, E, t', h2, h1, Or.inl ⟨ρ, hv⟩, rfl⟩)
theorem VV.row {b j i : Nat} {R l : Tr Lb} (h : (b = j + 1 ∧ R = .leaf) ∨ ∃ m, VV T 3 0 (j + 1) m R ∧ T.tkd m = 55 ∧ b = m + 1) (hv : VV T 2 0 b i l) : VV T 3 0 (j + 1) i (Tr.app R (Tr.nd (T.lb 37 b) l)) := by
  rcases h with ⟨h1, h2⟩ | ⟨k, h1, h2, h3⟩
  · subst h1 h2
    exact VV.mk (Or.inl ⟨l, hv, rfl⟩)
  · subst h3
    exact VV.mk (Or.inr ⟨k, R, l, h2, h1, hv, rfl⟩)
variable {i lv bh : Nat} {f : Fm} {es' : List Fm} {cn li co1 fr1 : Nat} {op' : List Ent} {W0 : List We} {Ws' : List (List We)} {j c c' b : Nat} {X' Y0 R E t' : Tr Lb} {s : Rs} {md : Int32}
variable {ρ : Nat}
/-- a row more in the draft -/
theorem row_nadd (hT : TkOK T m) (hi : i < m) (hsz : B.bd.length + Tr.sz (Tr.app X' (Tr.app Y0 (Tr.app R E))) + Tr.sz t' + (W0 ++ Ws'.flatten).length + (es'.length + 1) ≤ i) (h8 : f.ip = nI (Tr.rt E)) (h9 : f.ipl = T.tpl b) (h10 : f.iw = T.twd b) (hv : VV T 0 ρ c i t') : Rs.nadd (B.bd ++ Tr.pn (Tr.app (Tr.app X' (Tr.app Y0 (Tr.app R E))) t')) 37 f.ipl (-1) (f.ip + 1) f.iw = B.bd ++ Tr.pn (Tr.app (Tr.app X' Y0) (Tr.app R (Tr.nd (T.lb 37 b) (Tr.app E t')))) := by
  have hle := hT.le
  have hrt := Tr.rt_le E
  have hsz' := hsz
  rw [Tr.sz_app, Tr.sz_app, Tr.sz_app] at hsz'
  rw [h9, h10, h8, show nI (Tr.rt E) + 1 = nI (Tr.rt E + 1) from nI_add' _ 1, show Tr.app (Tr.app X' (Tr.app Y0 (Tr.app R E))) t' = Tr.app (Tr.app X' (Tr.app Y0 R)) (Tr.app E t') by simp only [Tr.app_assoc], nadd_pn2 (nI b) (by rw [Tr.sz_app, Tr.sz_app, Tr.sz_app]; omega) (by rw [Tr.rt_app, hv.rt1])]
  simp only [Tr.app_assoc]
  rfl
theorem sim_closeR (hT : TkOK T m) (hi : i < m) (hlv : lv ≤ 60) (hai : a ≤ i) (htg : ∀ g ∈ f :: es', g.tg = 0) (hch : CH T a es' op' Ws' c' X') (hp : Pend T c' W0 j Y0) (hsg : f.sg = nI fr1) (hco : co1 = colo W0) (hfr : fr1 + 1 ≤ lv) (hsz : B.bd.length + Tr.sz (Tr.app X' (Tr.app Y0 (Tr.app R E))) + Tr.sz t' + (W0 ++ Ws'.flatten).length + (es'.length + 1) ≤ i) (hst : s.stands (tokC T i) sm = Rs.afterW (B.st T md lv 0 (f :: es') (Tr.app (Tr.app X' (Tr.app Y0 (Tr.app R E))) t') (W0 ++ Ws'.flatten)) (tokC T i) 0) (h1 : f.k = 36) (h2 : T.tkd j = 52) (h3 : f.pl = T.tpl j) (h4 : f.wd = T.twd j) (h5 : (b = j + 1 ∧ R = .leaf) ∨ ∃ m, VV T 3 0 (j + 1) m R ∧ T.tkd m = 55 ∧ b = m + 1) (h6 : (c = b ∧ E = .leaf) ∨ ∃ m, VV T 2 0 b m E ∧ T.tkd m = 54 ∧ c = m + 1) (h7 : f.pa = nI (Tr.rt R)) (h8 : f.ip = nI (Tr.rt E)) (h9 : f.ipl = T.tpl b) (h10 : f.iw = T.twd b) (hv : VV T 0 ρ c i t') (hk : T.tkd i = 53) : Sim T B sm a m i s (.inr (false, (0, 0, bh, co1, i + 1, lv - fr1 - 1, op'))) := by
  have hle := hT.le
  have hrt := Tr.rt_le R
  have hsz' := hsz
  rw [Tr.sz_app, Tr.sz_app, Tr.sz_app] at hsz'
  have s1 : s.stands (tokC T i) sm = some (34, nI lv - 1 - nI fr1, 0, B.bl, topF B.b0 es', restF B.b0 B.bs es', B.bd ++ Tr.pn (Tr.app X' (Tr.app Y0 (Tr.nd (T.lb 36 j) (Tr.app R (Tr.nd (T.lb 37 b) (Tr.app E t')))))), ((W0 ++ Ws'.flatten).map (We.w T)).reverse, B.bf) := by
    rw [hst, tokC_of hk, ← hsg]
    have := aw_rows (md := md) (l := nI lv) (sg := nI 0) (lp := B.bl) (f := f) (g := topF B.b0 es') (r := restF B.b0 B.bs es') (d := B.bd ++ Tr.pn (Tr.app (Tr.app X' (Tr.app Y0 (Tr.app R E))) t')) (w := ((W0 ++ Ws'.flatten).map (We.w T)).reverse) (fn := B.bf) (p := T.tpl i) (v := T.twd i) h1 (htg f List.mem_cons_self)
    rw [top_rest, row_nadd hT hi hsz h8 h9 h10 hv] at this
    refine Eq.trans this ?_
    rw [h3, h4, h7, show nI (Tr.rt R) + 1 = nI (Tr.rt R + 1) from nI_add' _ 1, nadd_pn2 (nI j) ?_ ?_, Tr.app_assoc]
    · rfl
    · rw [Tr.sz_app, Tr.sz_app]; simp only [Tr.sz]; rw [Tr.sz_app]; omega
    · rw [Tr.rt_app]; rfl
  refine ⟨1, _, rfl, nx_one s1, ?_⟩
  refine ER.closed hT hi hlv hai hfr (fun g hg => htg g (List.mem_cons_of_mem _ hg)) hch hp hco (Or.inr hk) ?_ ?_
  · exact VV.mk (Or.inr (Or.inr (Or.inr (Or.inl ⟨rfl, h2, i, rfl, hk, _, rfl, Or.inr (VV.row h5 (VV.elt h6 hv))⟩))))
  · simp only [Tr.sz]; rw [Tr.sz_app]; simp only [Tr.sz]; rw [Tr.sz_app]; omega
theorem sim_commaR (hT : TkOK T m) (hi : i < m) (hlv : lv ≤ 60) (hai : a ≤ i) (htg : ∀ g ∈ f :: es', g.tg = 0) (hch : CH T a es' op' Ws' c' X') (hp : Pend T c' W0 j Y0) (hwb : f.wb = nI (W0 ++ Ws'.flatten).length) (hsg : f.sg = nI fr1) (hco : co1 = colo W0) (hsz : B.bd.length + Tr.sz (Tr.app X' (Tr.app Y0 (Tr.app R E))) + Tr.sz t' + (W0 ++ Ws'.flatten).length + (es'.length + 1) ≤ i) (hst : s.stands (tokC T i) sm = Rs.afterW (B.st T md lv 0 (f :: es') (Tr.app (Tr.app X' (Tr.app Y0 (Tr.app R E))) t') (W0 ++ Ws'.flatten)) (tokC T i) 0) (h1 : f.k = 36) (h2 : T.tkd j = 52) (h3 : f.pl = T.tpl j) (h4 : f.wd = T.twd j) (h5 : (b = j + 1 ∧ R = .leaf) ∨ ∃ m, VV T 3 0 (j + 1) m R ∧ T.tkd m = 55 ∧ b = m + 1) (h6 : (c = b ∧ E = .leaf) ∨ ∃ m, VV T 2 0 b m E ∧ T.tkd m = 54 ∧ c = m + 1) (h7 : f.pa = nI (Tr.rt R)) (h8 : f.ip = nI (Tr.rt E)) (h9 : f.ipl = T.tpl b) (h10 : f.iw = T.twd b) (hv : VV T 0 ρ c i t') {fr0 : Nat} (hfr0 : fr0 = 0) (hk : T.tkd i = 54) : Sim T B sm a m i s (.inr (false, (1, fr0, 0, 0, i + 1, lv, (52, cn, li, co1, fr1) :: op'))) := by
  subst hfr0
  have hi1 := hT.go hi (by omega)
  have hle := hT.le
  have hrt := Tr.rt_le E
  have hsz' := hsz
  rw [Tr.sz_app, Tr.sz_app, Tr.sz_app] at hsz'
  have hf0 := htg f List.mem_cons_self
  have eX : Tr.app (Tr.app X' (Tr.app Y0 (Tr.app R E))) t' = Tr.app X' (Tr.app Y0 (Tr.app R (Tr.app E t'))) := by simp only [Tr.app_assoc]
  have hip : f.ip + 1 = nI (Tr.rt E + 1) := by rw [h8]; exact nI_add' _ 1
  have s0 : s.stands (tokC T i) sm = some (30, nI lv, nI 0, B.bl, f.s_ip (nI (Tr.rt E + 1)), es' ++ B.b0 :: B.bs, B.bd ++ Tr.pn (Tr.app X' (Tr.app Y0 (Tr.app R (Tr.app E t')))), ((W0 ++ Ws'.flatten).map (We.w T)).reverse, B.bf) := by
    rw [hst, tokC_of hk, eX]
    have := aw_commaR (md := md) (l := nI lv) (sg := nI 0) (lp := B.bl) (f := f) (r := es' ++ B.b0 :: B.bs) (d := B.bd ++ Tr.pn (Tr.app X' (Tr.app Y0 (Tr.app R (Tr.app E t'))))) (w := ((W0 ++ Ws'.flatten).map (We.w T)).reverse) (fn := B.bf) (p := T.tpl i) (v := T.twd i) h1 hf0
    rw [hip] at this
    exact this
  refine ⟨1, _, rfl, nx_one s0, ?_⟩
  have hne : (f.s_ip (nI (Tr.rt E + 1))).ip ≠ 0 := fun x => absurd (show nI (Tr.rt E + 1) = nI 0 from x) (by rw [nI_eq' (by omega) (by omega)]; omega)
  rw [se_30 (f := f.s_ip (nI (Tr.rt E + 1))) (Or.inl hf0), show (tokC T (i + 1)).k = nI (ck (T.tkd (i + 1))) from rfl, tk_mode hT, seF_ip hne hf0]
  have e0 : (f.s_ip (nI (Tr.rt E + 1))).s_tg 0 = f.s_ip (nI (Tr.rt E + 1)) := tg0 hf0
  have hrt' : nI (Tr.rt E + 1) = nI (Tr.rt (Tr.app E t')) := by rw [Tr.rt_app, hv.rt1]
  refine ER.start (f := f.s_ip (nI (Tr.rt E + 1))) (Ws := W0 :: Ws') hi1 hlv (fun g hg => htg g (List.mem_cons_of_mem _ hg)) (by omega) (by rw [e0]; exact ⟨j, c', X', Y0, Tr.app R (Tr.app E t'), hch, hp, Or.inr (Or.inl ⟨h1, rfl, h2, h3, h4, b, R, Tr.app E t', h5, Or.inr ⟨i, VV.elt h6 hv, hk, rfl⟩, h7, hrt', h9, h10, rfl⟩), rfl, hwb, hsg, hco⟩) ?_ ⟨fun x => absurd (h1.symm.trans x) (by decide), fun _ _ x => absurd x hne⟩ rfl (by rw [e0]; rfl)
  rw [Tr.sz_app, Tr.sz_app, Tr.sz_app, Tr.sz_app, List.flatten_cons]; omega
theorem sim_semiR (hT : TkOK T m) (hi : i < m) (hlv : lv ≤ 60) (hai : a ≤ i) (htg : ∀ g ∈ f :: es', g.tg = 0) (hch : CH T a es' op' Ws' c' X') (hp : Pend T c' W0 j Y0) (hwb : f.wb = nI (W0 ++ Ws'.flatten).length) (hsg : f.sg = nI fr1) (hco : co1 = colo W0) (hsz : B.bd.length + Tr.sz (Tr.app X' (Tr.app Y0 (Tr.app R E))) + Tr.sz t' + (W0 ++ Ws'.flatten).length + (es'.length + 1) ≤ i) (hst : s.stands (tokC T i) sm = Rs.afterW (B.st T md lv 0 (f :: es') (Tr.app (Tr.app X' (Tr.app Y0 (Tr.app R E))) t') (W0 ++ Ws'.flatten)) (tokC T i) 0) (h1 : f.k = 36) (h2 : T.tkd j = 52) (h3 : f.pl = T.tpl j) (h4 : f.wd = T.twd j) (h5 : (b = j + 1 ∧ R = .leaf) ∨ ∃ m, VV T 3 0 (j + 1) m R ∧ T.tkd m = 55 ∧ b = m + 1) (h6 : (c = b ∧ E = .leaf) ∨ ∃ m, VV T 2 0 b m E ∧ T.tkd m = 54 ∧ c = m + 1) (h7 : f.pa = nI (Tr.rt R)) (h8 : f.ip = nI (Tr.rt E)) (h9 : f.ipl = T.tpl b) (h10 : f.iw = T.twd b) (hv : VV T 0 ρ c i t') {fr0 : Nat} (hfr0 : fr0 = 0) (hk : T.tkd i = 55) : Sim T B sm a m i s (.inr (false, (1, fr0, 0, 0, i + 1, lv, (52, cn, li, co1, fr1) :: op'))) := by
  subst hfr0
  have hi1 := hT.go hi (by omega)
  have hle := hT.le
  have hrt := Tr.rt_le R
  have hsz' := hsz
  rw [Tr.sz_app, Tr.sz_app, Tr.sz_app] at hsz'
  have hf0 := htg f List.mem_cons_self
  have hpa : f.pa + 1 = nI (Tr.rt R + 1) := by rw [h7]; exact nI_add' _ 1
  have s0 : s.stands (tokC T i) sm = some (30, nI lv, nI 0, B.bl, (f.s_pa (nI (Tr.rt R + 1))).s_ip 0, es' ++ B.b0 :: B.bs, B.bd ++ Tr.pn (Tr.app X' (Tr.app Y0 (Tr.app R (Tr.nd (T.lb 37 b) (Tr.app E t'))))), ((W0 ++ Ws'.flatten).map (We.w T)).reverse, B.bf) := by
    rw [hst, tokC_of hk]
    have := aw_semiR (md := md) (l := nI lv) (sg := nI 0) (lp := B.bl) (f := f) (r := es' ++ B.b0 :: B.bs) (d := B.bd ++ Tr.pn (Tr.app (Tr.app X' (Tr.app Y0 (Tr.app R E))) t')) (w := ((W0 ++ Ws'.flatten).map (We.w T)).reverse) (fn := B.bf) (p := T.tpl i) (v := T.twd i) h1
    rw [hpa, row_nadd hT hi hsz h8 h9 h10 hv, Tr.app_assoc X' Y0 (Tr.app R _)] at this
    exact this
  refine ⟨1, _, rfl, nx_one s0, ?_⟩
  rw [se_30 (f := (f.s_pa (nI (Tr.rt R + 1))).s_ip 0) (Or.inl hf0), show (tokC T (i + 1)).k = nI (ck (T.tkd (i + 1))) from rfl, tk_mode hT]
  have hip0 : (if f.k = 36 ∧ (0 : Int32) = 0 then T.tpl (i + 1) else f.ipl) = T.tpl (i + 1) := if_pos ⟨h1, rfl⟩
  have hiw0 : (if f.k = 36 ∧ (0 : Int32) = 0 then T.twd (i + 1) else f.iw) = T.twd (i + 1) := if_pos ⟨h1, rfl⟩
  have hrt' : nI (Tr.rt R + 1) = nI (Tr.rt (Tr.app R (Tr.nd (T.lb 37 b) (Tr.app E t')))) := by rw [Tr.rt_app]; rfl
  refine ER.start (f := seF ((f.s_pa (nI (Tr.rt R + 1))).s_ip 0) (tokC T (i + 1))) (Ws := W0 :: Ws') hi1 hlv (fun g hg => htg g (List.mem_cons_of_mem _ hg)) (by omega) ⟨j, c', X', Y0, Tr.app R (Tr.nd (T.lb 37 b) (Tr.app E t')), hch, hp, Or.inr (Or.inl ⟨h1, rfl, h2, h3, h4, i + 1, Tr.app R (Tr.nd (T.lb 37 b) (Tr.app E t')), .leaf, Or.inr ⟨i, VV.row h5 (VV.elt h6 hv), hk, rfl⟩, Or.inl ⟨rfl, rfl⟩, hrt', rfl, hip0, hiw0, ?_⟩), rfl, hwb, hsg, hco⟩ ?_ ⟨fun x => absurd (h1.symm.trans x) (by decide), fun _ x => absurd (show nI (Tr.rt R + 1) = nI 0 from x) (by rw [nI_eq' (by omega) (by omega)]; omega)⟩ rfl rfl
  · rw [Tr.app_nil]
  · rw [Tr.sz_app, Tr.sz_app, Tr.sz_app]; simp only [Tr.sz]; rw [Tr.sz_app, List.flatten_cons]; omega
end Sim
end

section
section Sim
variable {T : Tks} {B : Bs} {sm : Int32 → Int32 → Int32 → Bool} {a m : Nat}
theorem st_empC {l sg lp : Int32} {f g : Fm} {r : List Fm} {d : List Nd} {w fn : List Wt} {p v : Int32} (h : f.k = 33) (h2 : f.pa = 0) : Rs.stands (30, l, sg, lp, f, g :: r, d, w, fn) (41, p, v) sm = some (34, l - 1 - f.sg, 0, lp, g, r, Rs.nadd d 33 f.pl f.sec 0 f.wd, w, fn) := by
  show (if Rs.isCallK f.k = true then (if f.pa = 0 then some ((if f.k = 52 then (25 : Int32) else 34), l - 1 - f.sg, (0 : Int32), lp, g, r, Rs.nadd d 33 f.pl f.sec f.pa f.wd, w, fn) else none) else none) = _
  rw [if_pos (by rw [h]; rfl), if_pos h2, if_neg (by rw [h]; decide), h2]
theorem st_empR {l sg lp : Int32} {f g : Fm} {r : List Fm} {d : List Nd} {w fn : List Wt} {p v : Int32} (h : f.k = 36) (h2 : f.pa = 0) (h3 : f.ip = 0) (h4 : f.tg = 0) : Rs.stands (30, l, sg, lp, f, g :: r, d, w, fn) (93, p, v) sm = some (34, l - 1 - f.sg, 0, lp, g, r, Rs.nadd d 36 f.pl (-1) 0 f.wd, w, fn) := by
  show (if f.k = 36 then (if f.pa = 0 then (if f.ip = 0 then some ((if f.tg ≠ 0 then (41 : Int32) else 34), l - 1 - f.sg, (0 : Int32), lp, g, r, Rs.nadd d 36 f.pl (-1) f.pa f.wd, w, fn) else none) else none) else none) = _
  rw [if_pos h, if_pos h2, if_pos h3, if_neg (fun x => x h4), h2]
theorem rank_colon {k : Nat} (h : rkM k = 0) : k ≠ 38 := fun e => by rw [e] at h; exact absurd h (by decide)
/-- an operand has ended -/
theorem sim_opd (hT : TkOK T m) (hB : BsOK T B a) {fr bh co i lv : Nat} {op : List Ent} {s : Rs} (hI : op.length + fr + (op.map (fun e => e.2.2.2.2)).sum ≤ lv) (hc7 : ∀ e ∈ op, e.2.1 ≤ 7) (hE : ER T B a m (0, fr, bh, co, i, lv, op) s) :
    Sim T B sm a m i s (if T.tkd i = 48 ∧ T.tkd (i - 1) ≠ 38 then .inr (false, (0, fr, bh, co, i + 1, lv, op))
      else if 0 < rkM (T.tkd i) ∧ T.tkd (i - 1) ≠ 38 ∧ T.tkd (i - 1) ≠ 50 ∧ T.tkd (i - 1) ≠ 52 then
        (if Mx.co' (T.tkd i) co ≤ 2 then .inr (false, (1, fr, if rkM (T.tkd i) = 8 then 1 else 0, Mx.co' (T.tkd i) co, i + 1, lv, op)) else .inl i)
      else Mx.inB T.tkd fr bh i lv op) := by
  have hle := hT.le
  obtain ⟨es, Ws, W, c, X, hi, hlv, htg, ha0, hai, h | h | h | h⟩ := hE
  · exact absurd h.1 (by decide)
  · obtain ⟨_, hfr, hco, hch, hp1, hp2, hp3, k, Y, t, ρ, hp, hv, h9, hsz, hs⟩ := h
    subst hs hfr
    rw [hco]
    by_cases c48 : T.tkd i = 48
    · rw [if_pos ⟨c48, hp1⟩]
      exact sim_turn hT hB hi hlv htg hai hch hp hv h9 hsz c48
    · rw [if_neg (fun x => c48 x.1)]
      by_cases cr : 0 < rkM (T.tkd i)
      · rw [if_pos ⟨cr, hp1, hp2, hp3⟩]
        exact sim_op hT hB hi hlv htg hai hch hp hv h9 hsz rfl cr
      · rw [if_neg (fun x => cr x.1)]
        have hr0 : rkM (T.tkd i) = 0 := by omega
        have h38 := rank_colon hr0
        obtain ⟨t', ρ', hv', hsz', hst⟩ := to_elem (sm := sm) (lv := lv) hT hB hi htg hch hp hv h9 hsz c48 hr0
        match es, op, Ws, hch, htg, hsz', hst, hI, hc7 with
        | [], [], [], _, _, _, _, _, _ => exact trivial
        | f :: es', (wh, cn, li, co1, fr1) :: op', W0 :: Ws', hch, htg, hsz', hst, hI, hc7 =>
          obtain ⟨j, c', X', Y0, A, g1, g2, g3, g4, g5, g6, g7⟩ := hch
          subst g4
          have hfr1 : fr1 + 1 ≤ lv := by
            have : op'.length + 1 + 0 + (fr1 + (op'.map (fun e => e.2.2.2.2)).sum) ≤ lv := hI
            omega
          have hc7' : cn ≤ 7 := hc7 (wh, cn, li, co1, fr1) List.mem_cons_self
          have hsz2 : B.bd.length + Tr.sz (Tr.app X' (Tr.app Y0 A)) + Tr.sz t' + (W0 ++ Ws'.flatten).length + (es'.length + 1) ≤ i := by
            rw [List.flatten_cons, List.length_cons] at hsz'
            exact hsz'
          rw [List.flatten_cons] at hst
          have no : (f.k = 50 ∨ f.k = 36 ∨ f.k = 33) → (T.tkd i ≠ 51 ∨ f.k = 36) → (T.tkd i ≠ 54 ∨ f.k = 50) → (T.tkd i ≠ 55 ∨ f.k ≠ 36) → (T.tkd i ≠ 53 ∨ f.k ≠ 36) → Sim T B sm a m i (B.st T 34 lv 0 (f :: es') (Tr.app (Tr.app X' (Tr.app Y0 A)) (Tr.app Y t)) (W ++ (W0 :: Ws').flatten)) (.inl i) := by
            intro k0 k1 k2 k3 k4
            refine ⟨0, _, rfl, rfl, ?_, Or.inl rfl⟩
            rw [List.flatten_cons, hst]
            exact aw_no k0 (tk_ne hT (j := 38) rfl h38) (k1.imp (tk_ne hT (j := 51) rfl) id) (k2.imp (tk_ne hT (j := 54) rfl) id) (k3.imp (tk_ne hT (j := 55) rfl) id) (k4.imp (tk_ne hT (j := 53) rfl) id)
          rw [Mx.inB]
          rcases g3 with s1 | s1 | s1
          · obtain ⟨a1, a2, a3, a4, a5⟩ := s1
            have a2 : wh = 50 := a2
            rw [if_pos a2]
            by_cases k51 : T.tkd i = 51
            · rw [if_pos k51]
              exact sim_closeG hT hi hlv hai htg g1 g2 (e := (wh, cn, li, co1, fr1)) g6 g7 hfr1 hsz2 hst k51 ⟨a1, a3, a4, a5⟩ hv'
            · rw [if_neg k51]
              exact no (Or.inl a1) (Or.inl k51) (Or.inr a1) (Or.inr (by rw [a1]; decide)) (Or.inr (by rw [a1]; decide))
          · obtain ⟨a1, a2, a3, a4, a5, b, R, E, a6, a7, a8, a9, a10, a11, a12⟩ := s1
            have a2 : wh = 52 := a2
            rw [if_neg (by omega), if_pos a2]
            subst a12
            by_cases k53 : T.tkd i = 53
            · rw [if_pos k53]
              exact sim_closeR hT hi hlv hai htg g1 g2 g6 g7 hfr1 hsz2 hst a1 a3 a4 a5 a6 a7 a8 a9 a10 a11 hv' k53
            · rw [if_neg k53]
              by_cases k5 : T.tkd i = 54 ∨ T.tkd i = 55
              · rw [if_pos ⟨k5, hp2, hp3⟩, a2]
                rcases k5 with k54 | k55
                · exact sim_commaR hT hi hlv hai htg g1 g2 g5 g6 g7 hsz2 hst a1 a3 a4 a5 a6 a7 a8 a9 a10 a11 hv' rfl k54
                · exact sim_semiR hT hi hlv hai htg g1 g2 g5 g6 g7 hsz2 hst a1 a3 a4 a5 a6 a7 a8 a9 a10 a11 hv' rfl k55
              · rw [if_neg (fun x => k5 x.1)]
                exact no (Or.inr (Or.inl a1)) (Or.inr a1) (Or.inl (fun x => k5 (Or.inl x))) (Or.inl (fun x => k5 (Or.inr x))) (Or.inl k53)
          · obtain ⟨a1, a2, a3, a4, a5, a6, a7, a8, a9, a10, a11, a12⟩ := s1
            have a2 : wh = 2 := a2
            have a11 : cn = Tr.rt A + 0 := a11
            rw [if_neg (by omega), if_neg (by omega)]
            by_cases k51 : T.tkd i = 51
            · rw [if_pos k51]
              exact sim_closeC hT hi hlv hai htg g1 g2 (e := (wh, cn, li, co1, fr1)) g6 g7 hfr1 hsz2 hst k51 a1 a3 a4 a5 a6 a7 a8 a9 (Or.inl ⟨ρ', hv'⟩)
            · rw [if_neg k51]
              by_cases k54 : T.tkd i = 54
              · rw [if_neg hp1, a2]
                exact sim_commaC hT hi hlv hai htg g1 g2 g5 g6 g7 hsz2 hst rfl (by omega) (by omega) k54 a1 a3 a4 a5 a6 a7 a8 a9 a10 a12 (Or.inl ⟨ρ', hv'⟩)
              · rw [if_neg (fun x => k54 x.1)]
                exact no (Or.inr (Or.inr a1)) (Or.inl k51) (Or.inl k54) (Or.inr (by rw [a1]; decide)) (Or.inr (by rw [a1]; decide))
  · obtain ⟨_, hfr, hW, hic, hk38, hnx, f, es', cn, co1, fr1, op', he, hf33, hop, hch, hsz, hs⟩ := h
    subst hs hfr hW he hop
    have hi1 : T.tkd (i - 1) = 38 := by rw [show i - 1 = c by omega]; exact hk38
    rw [if_neg (fun x => x.2 hi1), if_neg (fun x => x.2.1 hi1)]
    match Ws, hch, hsz with
    | W0 :: Ws', hch, hsz =>
      obtain ⟨j, c', X', Y0, A, g1, g2, g3, g4, g5, g6, g7⟩ := hch
      subst g4
      rcases g3 with s1 | s1 | s1
      · exact absurd (s1.1.symm.trans hf33) (by decide)
      · exact absurd (s1.1.symm.trans hf33) (by decide)
      · obtain ⟨a1, a2, a3, a4, a5, a6, a7, a8, a9, a10, a11, a12⟩ := s1
        have a11 : cn = Tr.rt A + 0 := a11
        have hfr1 : fr1 + 1 ≤ lv := by
          have : op'.length + 1 + 0 + (fr1 + (op'.map (fun e => e.2.2.2.2)).sum) ≤ lv := hI
          omega
        have hc7' : cn + 1 ≤ 7 := hc7 (2, cn + 1, 1, co1, fr1) List.mem_cons_self
        have hv' : VEl T (VV T) true c i (Tr.nd (T.lb 34 c) .leaf) := Or.inr ⟨rfl, hic, hk38, rfl⟩
        have hsz2 : B.bd.length + Tr.sz (Tr.app X' (Tr.app Y0 A)) + Tr.sz (Tr.nd (T.lb 34 c) .leaf) + (W0 ++ Ws'.flatten).length + (es'.length + 1) ≤ i := by
          rw [List.flatten_cons, List.length_cons] at hsz
          simp only [Tr.sz]
          omega
        have hlen : (W0 ++ Ws'.flatten).length < 2 ^ 20 := by omega
        have hst : (B.st T 35 lv 0 (f :: es') (Tr.app (Tr.app X' (Tr.app Y0 A)) (Tr.nd (T.lb 34 c) .leaf)) (W0 :: Ws').flatten).stands (tokC T i) sm = Rs.afterW (B.st T 35 lv 0 (f :: es') (Tr.app (Tr.app X' (Tr.app Y0 A)) (Tr.nd (T.lb 34 c) .leaf)) (W0 ++ Ws'.flatten)) (tokC T i) 0 := by
          rw [List.flatten_cons]
          have hen : ∀ F : Fm, F.wb = f.wb → Rs.endWaiting (35, nI lv, nI 0, B.bl, F, es' ++ B.b0 :: B.bs, B.bd ++ Tr.pn (Tr.app (Tr.app X' (Tr.app Y0 A)) (Tr.nd (T.lb 34 c) .leaf)), ((W0 ++ Ws'.flatten).map (We.w T)).reverse, B.bf) 0 = (35, nI lv, nI 0, B.bl, F, es' ++ B.b0 :: B.bs, B.bd ++ Tr.pn (Tr.app (Tr.app X' (Tr.app Y0 A)) (Tr.nd (T.lb 34 c) .leaf)), ((W0 ++ Ws'.flatten).map (We.w T)).reverse, B.bf) := fun F hF => endWaiting_nil (hF.trans g5) hlen
          rcases hnx with k | k
          · rw [tokC_of k]
            show Rs.afterW (Rs.endWaiting (35, nI lv, nI 0, B.bl, f, es' ++ B.b0 :: B.bs, B.bd ++ Tr.pn (Tr.app (Tr.app X' (Tr.app Y0 A)) (Tr.nd (T.lb 34 c) .leaf)), ((W0 ++ Ws'.flatten).map (We.w T)).reverse, B.bf) 0) (44, T.tpl i, T.twd i) 0 = _
            rw [hen f rfl]
            rfl
          · rw [tokC_of k]
            show Rs.afterW (Rs.endWaiting (35, nI lv, nI 0, B.bl, f.s_tg 0, es' ++ B.b0 :: B.bs, B.bd ++ Tr.pn (Tr.app (Tr.app X' (Tr.app Y0 A)) (Tr.nd (T.lb 34 c) .leaf)), ((W0 ++ Ws'.flatten).map (We.w T)).reverse, B.bf) 0) (41, T.tpl i, T.twd i) 0 = _
            rw [hen (f.s_tg 0) rfl, tg0 (htg f List.mem_cons_self)]
            rfl
        rw [Mx.inB, if_neg (by decide), if_neg (by decide)]
        by_cases k51 : T.tkd i = 51
        · rw [if_pos k51]
          exact sim_closeC hT hi hlv hai htg g1 g2 (e := (2, cn, 1, co1, fr1)) g6 g7 hfr1 hsz2 hst k51 a1 a3 a4 a5 a6 a7 a8 a9 hv'
        · rw [if_neg k51]
          have k54 : T.tkd i = 54 := hnx.resolve_right k51
          rw [if_pos hi1]
          exact sim_commaC hT hi hlv hai htg g1 g2 g5 g6 g7 hsz2 hst rfl (by omega) (by omega) k54 a1 a3 a4 a5 a6 a7 a8 a9 a10 a12 hv'
  · obtain ⟨_, hfr, hW, hic, hch, hsz, hs, f, es', he, hf⟩ := h
    subst hs hfr hW he hic
    match op, Ws, hch, hsz, hI with
    | (wh, cn, li, co1, fr1) :: op', W0 :: Ws', hch, hsz, hI =>
      obtain ⟨j, c', X', Y0, A, g1, g2, g3, g4, g5, g6, g7⟩ := hch
      subst g4
      have hfr1 : fr1 + 1 ≤ lv := by
        have : op'.length + 1 + 0 + (fr1 + (op'.map (fun e => e.2.2.2.2)).sum) ≤ lv := hI
        omega
      have hsz2 := hsz
      rw [List.flatten_cons, List.length_cons, Tr.sz_app, Tr.sz_app] at hsz2
      have htg' : ∀ g ∈ es', g.tg = 0 := fun g hg => htg g (List.mem_cons_of_mem _ hg)
      rcases hf with ⟨f1, f2, f3, f4⟩ | ⟨f1, f2, f3, f4, f5⟩
      · rw [if_neg (by omega), if_neg (fun x => x.2.2.1 f4)]
        rcases g3 with s1 | s1 | s1
        · exact absurd (s1.1.symm.trans f1) (by decide)
        · exact absurd (s1.1.symm.trans f1) (by decide)
        · obtain ⟨a1, a2, a3, a4, a5, a6, a7, a8, a9, a10, a11, a12⟩ := s1
          have a2 : wh = 2 := a2
          rcases a8 with ⟨b1, b2⟩ | ⟨k, b1, b2, b3⟩
          · subst b1 b2
            rw [Mx.inB, if_neg (by omega), if_neg (by omega), if_pos f3]
            have s1 : (B.st T 30 lv 0 (f :: es') (Tr.app X' (Tr.app Y0 .leaf)) (W0 :: Ws').flatten).stands (tokC T (j + 2)) sm = some (34, nI lv - 1 - nI fr1, 0, B.bl, topF B.b0 es', restF B.b0 B.bs es', B.bd ++ Tr.pn (Tr.app X' (Tr.app Y0 (Tr.nd (33, T.tpl j, T.tpl (j + 1), T.twd j, nI j) .leaf))), ((W0 ++ Ws'.flatten).map (We.w T)).reverse, B.bf) := by
              rw [tokC_of f3, List.flatten_cons, Tr.app_nil]
              have := st_empC (sm := sm) (l := nI lv) (sg := nI 0) (lp := B.bl) (f := f) (g := topF B.b0 es') (r := restF B.b0 B.bs es') (d := B.bd ++ Tr.pn (Tr.app X' Y0)) (w := ((W0 ++ Ws'.flatten).map (We.w T)).reverse) (fn := B.bf) (p := T.tpl (j + 2)) (v := T.twd (j + 2)) f1 f2
              rw [top_rest] at this
              refine Eq.trans this ?_
              rw [a5, a6, a7, g6, nadd_lf (nI j) (by rw [Tr.sz_app]; omega), Tr.app_assoc]
            refine ⟨1, _, rfl, nx_one s1, ?_⟩
            refine ER.closed hT hi hlv hai hfr1 htg' g1 g2 g7 (Or.inl f3) ?_ ?_
            · exact VV.mk (Or.inr (Or.inr (Or.inl ⟨rfl, a3, a4, j + 2, rfl, f3, .leaf, rfl, Or.inl ⟨rfl, rfl⟩⟩)))
            · simp only [Tr.sz] at hsz2 ⊢; omega
          · exfalso
            rw [b3, Nat.add_sub_cancel] at f4
            omega
      · rw [if_neg (by omega), if_neg (fun x => x.2.2.2 f5)]
        rcases g3 with s1 | s1 | s1
        · exact absurd (s1.1.symm.trans f1) (by decide)
        · obtain ⟨a1, a2, a3, a4, a5, b, R, E, a6, a7, a8, a9, a10, a11, a12⟩ := s1
          have a2 : wh = 52 := a2
          have hE : i = b ∧ E = .leaf := by
            rcases a7 with h | ⟨k, _, h2, h3⟩
            · exact h
            · exfalso; rw [h3, Nat.add_sub_cancel] at f5; omega
          have hR : b = j + 1 ∧ R = .leaf := by
            rcases a6 with h | ⟨k, _, h2, h3⟩
            · exact h
            · exfalso; rw [hE.1, h3, Nat.add_sub_cancel] at f5; omega
          obtain ⟨rfl, rfl⟩ := hE
          obtain ⟨rfl, rfl⟩ := hR
          subst a12
          rw [Mx.inB, if_neg (by omega), if_pos a2, if_pos f4]
          have s1 : (B.st T 30 lv 0 (f :: es') (Tr.app X' (Tr.app Y0 (Tr.app .leaf .leaf))) (W0 :: Ws').flatten).stands (tokC T (j + 1)) sm = some (34, nI lv - 1 - nI fr1, 0, B.bl, topF B.b0 es', restF B.b0 B.bs es', B.bd ++ Tr.pn (Tr.app X' (Tr.app Y0 (Tr.nd (T.lb 36 j) .leaf))), ((W0 ++ Ws'.flatten).map (We.w T)).reverse, B.bf) := by
            rw [tokC_of f4, List.flatten_cons, Tr.app_nil, Tr.app_nil]
            have := st_empR (sm := sm) (l := nI lv) (sg := nI 0) (lp := B.bl) (f := f) (g := topF B.b0 es') (r := restF B.b0 B.bs es') (d := B.bd ++ Tr.pn (Tr.app X' Y0)) (w := ((W0 ++ Ws'.flatten).map (We.w T)).reverse) (fn := B.bf) (p := T.tpl (j + 1)) (v := T.twd (j + 1)) f1 f2 f3 (htg f List.mem_cons_self)
            rw [top_rest] at this
            refine Eq.trans this ?_
            rw [a4, a5, g6, nadd_lf (nI j) (by rw [Tr.sz_app]; omega), Tr.app_assoc]
            rfl
          refine ⟨1, _, rfl, nx_one s1, ?_⟩
          refine ER.closed hT hi hlv hai hfr1 htg' g1 g2 g7 (Or.inr f4) ?_ ?_
          · exact VV.mk (Or.inr (Or.inr (Or.inr (Or.inl ⟨rfl, a3, j + 1, rfl, f4, .leaf, rfl, Or.inl ⟨rfl, rfl⟩⟩))))
          · simp only [Tr.sz, Tr.app] at hsz2 ⊢; omega
        · exact absurd (s1.1.symm.trans f1) (by decide)
/-- a state of the reading begins no statement -/
theorem ER.nb (hT : TkOK T m) (hB : BsOK T B a) {w fr bh co i lv : Nat} {op : List Ent} {s : Rs} (hE : ER T B a m (w, fr, bh, co, i, lv, op) s) : NB T i s := by
  obtain ⟨es, Ws, W, c, X, hi, hlv, htg, ha0, hai, hh⟩ := hE
  intro h0 hm hk hp
  have key : ∀ (md : Int32) (fr : Nat) (F : Tr Lb) (W' : List We) (op' : List Ent) (Ws' : List (List We)) (c' : Nat) (X' : Tr Lb), CH T a es op' Ws' c' X' → s = B.st T md lv fr es F W' → False := by
    intro md fr F W' op' Ws' c' X' hch hs
    subst hs
    have hk : (topF B.b0 es).k = 20 := hk
    have hp : (topF B.b0 es).pl = T.tpl i := hp
    match es, hch, hk, hp with
    | [], _, hk, hp =>
      have h1 : T.tpl a = T.tpl i := (hB.pl hk).symm.trans hp
      have h2 := hT.inj a i (by omega) hi h1
      subst h2
      exact hB.k0 hk h0
    | f :: es', hch, hk, hp =>
      have hk : f.k = 20 := hk
      rcases hch.kinds f List.mem_cons_self with h | h | h <;> exact absurd (h.symm.trans hk) (by decide)
  rcases hh with h | h | h | h
  · obtain ⟨_, _, hch, Y, md, _, _, hs, _⟩ := h
    exact key _ _ _ _ _ _ _ _ hch hs
  · obtain ⟨_, _, _, hch, _, _, _, k, Y, t, ρ, _, _, _, _, hs⟩ := h
    exact key _ _ _ _ _ _ _ _ hch hs
  · obtain ⟨_, _, _, _, _, _, f, es', cn, co1, fr1, op', _, _, _, hch, _, hs⟩ := h
    exact key _ _ _ _ _ _ _ _ hch hs
  · obtain ⟨_, _, _, _, hch, _, hs, _⟩ := h
    exact key _ _ _ _ _ _ _ _ hch hs
/-- one turn of the reference, and the machine -/
theorem sim_step (hT : TkOK T m) (hB : BsOK T B a) {w fr bh co i lv : Nat} {op : List Ent} {s : Rs} (hI : Mx.MI m T.tkd w fr bh co i lv op) (hE : ER T B a m (w, fr, bh, co, i, lv, op) s) : Sim T B sm a m i s (Mx.step T.tkd (w, fr, bh, co, i, lv, op)) := by
  rw [Mx.step]
  have hw := hI.wn
  by_cases c : w = 0
  · subst c
    rw [if_pos rfl]
    exact sim_opd hT hB hI.sum (fun e he => (hI.ent e he).2.1) hE
  · have : w = 1 := by omega
    subst this
    rw [if_neg c]
    exact sim_wnt hT hB hI.sum hE
/-- what the reading of an expression says of the machine: a fault, or the state behind it -/
def SimE (T : Tks) (B : Bs) (sm : Int32 → Int32 → Int32 → Bool) (a m i : Nat) (s : Rs) : Sum Nat (Nat × Nat) → Prop
  | .inl j => i ≤ j ∧ j < m ∧ ∃ s', Rs.nxs T sm (j - i) i s = some s' ∧ s'.stands (tokC T j) sm = none ∧ NB T j s'
  | .inr (j, lv) => i ≤ j ∧ ∃ s' bh co, Rs.nxs T sm (j - i) i s = some s' ∧ ER T B a m (0, 0, bh, co, j, lv, []) s' ∧ T.tkd j ≠ 48 ∧ rkM (T.tkd j) = 0
end Sim
end

section
theorem TkOK.kd {T : Tks} {m : Nat} (h : TkOK T m) : KdIs m m (fun i => nI (T.tkd i)) T.tkd :=
  ⟨Nat.le_refl _, by have := h.le; omega, fun _ _ => rfl, fun i => (h.ok i).lt, h.last, h.pos, h.end'⟩
section Sim
variable {T : Tks} {B : Bs} {sm : Int32 → Int32 → Int32 → Bool} {a m : Nat}
/-- a turn ends the expression only behind an operand, with nothing open -/
theorem fin_op {K : Nat → Nat} {w fr bh co i lv : Nat} {op : List Ent} {mx : Mx} (e : Mx.step K (w, fr, bh, co, i, lv, op) = .inr (true, mx)) : w = 0 ∧ op = [] ∧ ¬ (K i = 48 ∧ K (i - 1) ≠ 38) ∧ ¬ (0 < rkM (K i) ∧ K (i - 1) ≠ 38 ∧ K (i - 1) ≠ 50 ∧ K (i - 1) ≠ 52) := by
  rw [Mx.step] at e
  by_cases c : w = 0
  · rw [if_pos c] at e
    by_cases d : K i = 48 ∧ K (i - 1) ≠ 38
    · rw [if_pos d] at e; cases e
    · rw [if_neg d] at e
      by_cases g : 0 < rkM (K i) ∧ K (i - 1) ≠ 38 ∧ K (i - 1) ≠ 50 ∧ K (i - 1) ≠ 52
      · rw [if_pos g] at e
        by_cases h : Mx.co' (K i) co ≤ 2
        · rw [if_pos h] at e; cases e
        · rw [if_neg h] at e; cases e
      · rw [if_neg g] at e
        refine ⟨c, ?_, d, g⟩
        match op, e with
        | [], _ => rfl
        | (wh, cn, li, co1, fr1) :: r, e =>
          exfalso
          rw [Mx.inB] at e
          by_cases b1 : wh = 50
          · rw [if_pos b1] at e
            by_cases b2 : K i = 51
            · rw [if_pos b2] at e; cases e
            · rw [if_neg b2] at e; cases e
          · rw [if_neg b1] at e
            by_cases b2 : wh = 52
            · rw [if_pos b2] at e
              by_cases b3 : K i = 53
              · rw [if_pos b3] at e; cases e
              · rw [if_neg b3] at e
                by_cases b4 : (K i = 54 ∨ K i = 55) ∧ K (i - 1) ≠ 50 ∧ K (i - 1) ≠ 52
                · rw [if_pos b4] at e; cases e
                · rw [if_neg b4] at e; cases e
            · rw [if_neg b2] at e
              by_cases b3 : K i = 51
              · rw [if_pos b3] at e; cases e
              · rw [if_neg b3] at e
                generalize (if K (i - 1) = 38 then cn else cn + 1) = n at e
                by_cases b4 : K i = 54 ∧ n ≠ 8 ∧ (n ≤ 1 ∨ li ≠ 1)
                · rw [if_pos b4] at e
                  by_cases b5 : K (i + 1) = 38
                  · rw [if_pos b5] at e
                    by_cases b6 : n ≤ 1
                    · rw [if_pos b6] at e
                      by_cases b7 : K (i + 2) = 54 ∨ K (i + 2) = 51
                      · rw [if_pos b7] at e; cases e
                      · rw [if_neg b7] at e; cases e
                    · rw [if_neg b6] at e; cases e
                  · rw [if_neg b5] at e; cases e
                · rw [if_neg b4] at e; cases e
  · rw [if_neg c] at e
    exfalso
    have h : Mx.Fn (i + 1) lv (Mx.wnt K fr bh co i lv op) := by
      unfold Mx.wnt
      refine Mx.fn_ite (fun _ => trivial) fun _ => Mx.fn_ite (fun _ => Mx.fn_ite (fun _ => trivial) fun _ => trivial) fun _ => Mx.fn_ite (fun _ => Mx.fn_opn) fun _ => Mx.fn_ite (fun _ => Mx.fn_opn) fun _ => Mx.fn_ite (fun _ => trivial) fun _ => Mx.fn_ite (fun _ => ?_) fun _ => trivial
      cases Mx.mark op <;> trivial
    have h2 : Mx.Fn i lv (Mx.wnt K fr bh co i lv op) := Mx.fn_wnt
    obtain ⟨w', fr', bh', co', i', lv', op'⟩ := mx
    rw [e] at h h2
    have h1 : i' = i + 1 := h.1
    have h3 : i' = i := h2.1
    omega
/-- the reading of an expression: both sides -/
theorem sim_run (hT : TkOK T m) (hB : BsOK T B a) : ∀ (fu : Nat) {w fr bh co i lv : Nat} {op : List Ent} {s : Rs}, Mx.MI m T.tkd w fr bh co i lv op → ER T B a m (w, fr, bh, co, i, lv, op) s → m - i < fu → SimE T B sm a m i s (Mx.run T.tkd fu (w, fr, bh, co, i, lv, op))
  | 0, w, fr, bh, co, i, lv, op, s, _, _, h => by omega
  | fu + 1, w, fr, bh, co, i, lv, op, s, hI, hE, hf => by
    have h1 := sim_step (sm := sm) hT hB hI hE
    have h2 := Mx.nx_step hT.kd hI
    rw [Mx.run]
    cases e : Mx.step T.tkd (w, fr, bh, co, i, lv, op) with
    | inl j =>
      rw [e] at h1
      obtain ⟨n, s', e1, e2, e3, e4⟩ := h1
      have hres := RE17 hT.kd (n2 := 27) (b2 := fun i => nI (rkL.getD i 0)) ⟨rfl, fun _ _ => rfl⟩ (q1 := 0) (q2 := 0) (q3 := 0) (q4 := 0) (q5 := 0) (q6 := 0) (q7 := 0) (bad := 0) (fu := 0) (N := 600) (b := fun i => (Mx.flat op).getD i 0) hI ⟨by rw [Mx.flat_len]; have := hI.sum; have := hI.lv'; omega, by omega, by omega, fun i hi => by
        show (Mx.flat op).getD i 0 = _
        rw [List.getD_eq_getElem?_getD, List.getElem?_eq_getElem hi]; rfl⟩ (Nat.le_refl _)
      rw [e] at hres
      refine ⟨by omega, hres.1, s', ?_, e3, ?_⟩
      · rw [show j - i = n by omega]; exact e2
      · rcases e4 with h | h | h
        · subst h
          have : s = s' := Option.some.inj e2
          subst this
          rw [e1]
          exact ER.nb hT hB hE
        · exact fun x => absurd x h
        · exact NB.md h (by decide)
    | inr p =>
      rw [e] at h1 h2
      match p, h1, h2, e with
      | (true, (w', fr', bh', co', i', lv', op')), h1, _, e =>
        have h4 := Mx.fin_step e
        obtain ⟨f1, f2, f3, f4⟩ := fin_op e
        obtain ⟨h5, h6⟩ := h4
        subst f1 f2 h5 h6
        have hfr : fr = 0 ∧ T.tkd (i' - 1) ≠ 38 ∧ T.tkd (i' - 1) ≠ 50 ∧ T.tkd (i' - 1) ≠ 52 := by
          obtain ⟨es, Ws, W, c, X, hi, hlv, htg, ha0, hai, h | h | h | h⟩ := hE
          · exact absurd h.1 (by decide)
          · exact ⟨h.2.1, h.2.2.2.2.1, h.2.2.2.2.2.1, h.2.2.2.2.2.2.1⟩
          · obtain ⟨_, _, _, _, _, _, f, es', cn, co1, fr1, op', _, _, hop, _⟩ := h
            cases hop
          · obtain ⟨_, _, _, _, hch, _, _, f, es', he, _⟩ := h
            subst he
            exact hch.elim
        obtain ⟨g1, g2, g3, g4⟩ := hfr
        subst g1
        refine ⟨Nat.le_refl _, s, bh, co, ?_, hE, fun x => f3 ⟨x, g2⟩, ?_⟩
        · rw [Nat.sub_self]; rfl
        · by_cases d : 0 < rkM (T.tkd i')
          · exact absurd ⟨d, g2, g3, g4⟩ f4
          · omega
      | (false, (w', fr', bh', co', i', lv', op')), h1, h2, e =>
        obtain ⟨n, s', e1, e2, e3⟩ := h1
        have hlt : i < i' := h2.2
        have e1 : i' = i + n := e1
        have him := hI.at'
        have ih := sim_run hT hB fu h2.1 e3 (by omega)
        show SimE T B sm a m i s (Mx.run T.tkd fu (w', fr', bh', co', i', lv', op'))
        cases er : Mx.run T.tkd fu (w', fr', bh', co', i', lv', op') with
        | inl j =>
          rw [er] at ih
          obtain ⟨h5, h6, s2, h7, h8⟩ := ih
          refine ⟨by omega, h6, s2, ?_, h8⟩
          rw [show j - i = n + (j - i') by omega, nxs_add, e2, Option.bind_some, ← e1]
          exact h7
        | inr q =>
          obtain ⟨j, lv2⟩ := q
          rw [er] at ih
          obtain ⟨h5, s2, bh2, co2, h7, h8⟩ := ih
          refine ⟨by omega, s2, bh2, co2, ?_, h8⟩
          rw [show j - i = n + (j - i') by omega, nxs_add, e2, Option.bind_some, ← e1]
          exact h7
end Sim
end
