section
/-! the reference's own functions of reading -/
section Md
variable {T : Tks} {m N5 : Nat} {a5 : Nat → Int32}
variable {n2 : Nat} {b2 : Nat → Int32}
variable {q1 q2 q3 q4 q5 q6 q7 q8 q9 : Int32}
theorem Mo_kd (hk : KdIs m N5 a5 T.tkd) {i p : Nat} (hi : i < m) (hp : p < 57) : (a5 (Int32.toNatClampNeg (nI i)) = nI p) = (T.tkd i = p) := by
  have h57 := hk.lt i
  rw [Mo_a5 hk hi, nI_eq' (by omega) (by omega)]
theorem Mo_rdE (hT : TkOK T m) (hk : KdIs m N5 a5 T.tkd) (hr : RkIs n2 b2) {N i lv : Nat} {b : Nat → Int32} {l : List Int32} {bad sz : Int32} (hv : Vec N b l) (hN : N ≤ 600) (hi : i < m) (hlv : lv ≤ 60) :
    Mx.End m N bad (F_Mo_readExpression q1 q2 q3 q4 (nI i) bad (nI lv) q5 q6 sz q7 N5 a5 N b n2 b2) (rdE T.tkd i lv) := by
  have hm := hT.le
  unfold F_Mo_readExpression rdE
  exact RErun hk hr FU (w := 1) (fr := 0) (bh := 0) (co := 0) (op := []) ⟨hi, by omega, fun h => absurd h (by decide), by omega, by omega, hlv, by show 0 + 0 + 0 ≤ lv; omega, fun e he => absurd he List.not_mem_nil⟩ hv.clear hN (by unfold FU; omega)
theorem Mo_sev4 (hT : TkOK T m) (hk : KdIs m N5 a5 T.tkd) (hr : RkIs n2 b2) {lv : Nat} {bad : Int32} (hlv : lv ≤ 60) : ∀ (fu n i N : Nat) (b : Nat → Int32) (l : List Int32) (sz : Int32), n ≤ 7 → i < m → m - i < fu → Vec N b l → N ≤ 600 →
    Mx.End m N bad (F_Mo_readSeveral_4 q1 q2 q3 q4 q5 q6 q7 N5 a5 n2 b2 (fu + 1) 1 (nI n) (nI i) bad (nI lv) sz N b) (rdSev T.tkd fu n i lv)
  | 0, n, i, N, b, l, sz, _, hi, h, _, _ => by omega
  | fu + 1, n, i, N, b, l, sz, hn, hi, hf, hv, hN => by
    have h1 := Mo_rdE hT hk hr (q1 := q1) (q2 := q2) (q3 := q3) (q4 := q4) (q5 := q5) (q6 := q6) (q7 := q7) (bad := bad) (sz := sz) hv hN hi hlv
    have h2 := rdE_fact hT hi hlv
    rw [F_Mo_readSeveral_4, if_neg (show ¬ (1 : Int32) = 0 by decide), rdSev]
    cases e : rdE T.tkd i lv with
    | inl j =>
      rw [e] at h1
      obtain ⟨hj, lv', sz', N', b', c, s, eX, hO⟩ := h1
      exact ⟨hj, lv', sz', N', b', c, s, bw_ok (c' := 0) (s' := 0) eX rfl, hO⟩
    | inr q =>
      obtain ⟨j, lv2⟩ := q
      rw [e] at h1 h2
      obtain ⟨hij, _, h2⟩ := h2
      subst h2
      obtain ⟨hj, hlv2, N1, b1, c1, s1, eX, hO⟩ := h1
      show Mx.End m N bad _ (if T.tkd j = 54 then (if n + 1 = 8 then .inl j else rdSev T.tkd fu (n + 1) (j + 1) lv2) else .inr (j, lv2))
      have hn1 : nI n + 1 = nI (n + 1) := nI_add' n 1
      by_cases c : T.tkd j = 54
      · rw [if_pos c]
        have hj1 : j + 1 < m := hk.go hj (by omega)
        by_cases d : n + 1 = 8
        · rw [if_pos d]
          refine ⟨hj, nI lv2, 0, N1, b1, c1, s1, bw_ok (c' := 0) (s' := 0) eX ?_, hO⟩
          show (if (1 : Int32) = 0 then _ else _) = _
          rw [if_neg (by decide), Mo_kind hk hj, Option.bind_some, if_pos (show a5 (Int32.toNatClampNeg (nI j)) = 54 from (Mo_kd hk hj (p := 54) (by omega)).mpr c)]
          unfold F_Mo_readSeveral_34
          rw [if_neg (show ¬ (1 : Int32) = 0 by decide), hn1, d, if_pos (show nI 8 = 8 from rfl)]
        · rw [if_neg d]
          have ih := Mo_sev4 hT hk hr (bad := bad) hlv fu (n + 1) (j + 1) N1 b1 [] 0 (by omega) hj1 (by omega) hO.vec hO.le
          refine Mx.End_pre hO.grow (fun R c2 s2 h => bw_ok eX ?_) _ ih
          show (if (1 : Int32) = 0 then _ else _) = _
          rw [if_neg (by decide), Mo_kind hk hj, Option.bind_some, if_pos (show a5 (Int32.toNatClampNeg (nI j)) = 54 from (Mo_kd hk hj (p := 54) (by omega)).mpr c)]
          unfold F_Mo_readSeveral_34 F_Mo_readSeveral_50
          rw [if_neg (show ¬ (1 : Int32) = 0 by decide), if_neg (show ¬ (1 : Int32) = 0 by decide), hn1, if_neg (show ¬ nI (n + 1) = 8 by rw [show (8 : Int32) = nI 8 from rfl, nI_eq' (by omega) (by omega)]; exact d), show nI j + 1 = nI (j + 1) from nI_add' j 1]
          exact h
      · rw [if_neg c]
        refine ⟨hj, hlv2, N1, b1, c1, s1, bw_ok (c' := 0) (s' := 0) eX ?_, hO⟩
        show (if (1 : Int32) = 0 then _ else _) = _
        rw [if_neg (by decide), Mo_kind hk hj, Option.bind_some, if_neg (show ¬ a5 (Int32.toNatClampNeg (nI j)) = 54 from fun h => c ((Mo_kd hk hj (p := 54) (by omega)).mp h))]
        unfold F_Mo_readSeveral_34 F_Mo_readSeveral_50
        rw [if_pos (show (0 : Int32) = 0 from rfl), if_pos (show (0 : Int32) = 0 from rfl)]
        rw [F_Mo_readSeveral_4, if_pos (show (0 : Int32) = 0 from rfl)]
theorem Mo_sev (hT : TkOK T m) (hk : KdIs m N5 a5 T.tkd) (hr : RkIs n2 b2) {N i lv : Nat} {b : Nat → Int32} {l : List Int32} {bad sz : Int32} (hv : Vec N b l) (hN : N ≤ 600) (hi : i < m) (hlv : lv ≤ 60) :
    Mx.End m N bad (F_Mo_readSeveral q1 q2 q3 q4 (nI i) bad (nI lv) q5 q6 sz q7 N5 a5 N b n2 b2) (rdSev T.tkd FU 0 i lv) := by
  have hm := hT.le
  have h := Mo_sev4 hT hk hr (q1 := q1) (q2 := q2) (q3 := q3) (q4 := q4) (q5 := q5) (q6 := q6) (q7 := q7) (bad := bad) hlv 999999 0 i N b l sz (by omega) hi (by omega) hv hN
  have e : rdSev T.tkd FU 0 i lv = rdSev T.tkd 999999 0 i lv := by
    have key : ∀ (f1 f2 n i : Nat), i < m → m - i < f1 → m - i < f2 → rdSev T.tkd f1 n i lv = rdSev T.tkd f2 n i lv := by
      intro f1
      induction f1 with
      | zero => intro f2 n i _ h; omega
      | succ f1 ih =>
        intro f2 n i hi h1 h2
        match f2, h2 with
        | f2 + 1, h2 =>
          rw [rdSev, rdSev]
          have h3 := rdE_fact hT hi hlv
          cases e : rdE T.tkd i lv with
          | inl j => rfl
          | inr q =>
            obtain ⟨j, lv2⟩ := q
            rw [e] at h3
            obtain ⟨a1, a2, a3⟩ := h3
            subst a3
            show (if T.tkd j = 54 then (if n + 1 = 8 then .inl j else rdSev T.tkd f1 (n + 1) (j + 1) lv2) else .inr (j, lv2) : Sum Nat (Nat × Nat)) = (if T.tkd j = 54 then (if n + 1 = 8 then .inl j else rdSev T.tkd f2 (n + 1) (j + 1) lv2) else .inr (j, lv2))
            by_cases c : T.tkd j = 54
            · have := hT.go a2 (by omega)
              rw [if_pos c, if_pos c, ih f2 (n + 1) (j + 1) this (by omega) (by omega)]
            · rw [if_neg c, if_neg c]
    exact key FU 999999 0 i hi (by unfold FU; omega) (by omega)
  rw [e]
  exact h
theorem Mo_cond (hT : TkOK T m) (hk : KdIs m N5 a5 T.tkd) (hr : RkIs n2 b2) {N i lv : Nat} {b : Nat → Int32} {l : List Int32} {bad sz : Int32} (hv : Vec N b l) (hN : N ≤ 600) (hi : i < m) (hlv : lv ≤ 60) :
    Mx.End m N bad (F_Mo_readCondition q1 q2 q3 q4 (nI i) bad (nI lv) q5 q6 q7 N5 a5 sz N b n2 b2) (match rdCond T.tkd i lv with | .inl j => .inl j | .inr j => .inr (j, lv)) := by
  have hO0 : OpIs N N b [] 0 0 := ⟨hv.clear, Grow.rfl, hN⟩
  unfold F_Mo_readCondition rdCond
  rw [show (50 : Int32) = nI 50 from rfl, Mo_enter hk hi (by omega) hlv]
  by_cases c : T.tkd i = 50
  · by_cases d : lv = 60
    · rw [if_pos c, if_pos d, if_neg (fun x => x.2 d)]
      exact ⟨hi, nI lv, sz, N, b, 0, 0, rfl, hO0⟩
    · rw [if_pos c, if_neg d, if_pos ⟨c, d⟩, Option.bind_some]
      dsimp only
      rw [if_neg (show ¬ (1 : Int32) = 0 by decide)]
      have hi1 : i + 1 < m := hk.go hi (by omega)
      have h1 := Mo_rdE hT hk hr (q1 := q1) (q2 := q2) (q3 := q3) (q4 := q4) (q5 := q5) (q6 := q6) (q7 := q7) (bad := bad) (sz := sz) (lv := lv + 1) hv hN hi1 (by omega)
      have h2 := rdE_fact hT (lv := lv + 1) hi1 (by omega)
      cases e : rdE T.tkd (i + 1) (lv + 1) with
      | inl j =>
        rw [e] at h1
        obtain ⟨hj, lv', sz', N', b', c', s, eX, hO⟩ := h1
        exact ⟨hj, lv', sz', N', b', c', s, bw_ok (c' := 0) (s' := 0) eX rfl, hO⟩
      | inr q =>
        obtain ⟨j, lv2⟩ := q
        rw [e] at h1 h2
        obtain ⟨hij, _, h2⟩ := h2
        subst h2
        obtain ⟨hj, hlv2, N1, b1, c1, s1, eX, hO⟩ := h1
        show Mx.End m N bad _ (match (if T.tkd j = 51 then .inr (j + 1) else .inl j : Sum Nat Nat) with | .inl j => .inl j | .inr j => .inr (j, lv))
        by_cases g : T.tkd j = 51
        · rw [if_pos g]
          have hj1 : j + 1 < m := hk.go hj (by omega)
          refine ⟨hj1, hlv, N1, b1, c1, s1, bw_ok (c' := 0) (s' := 0) eX ?_, hO⟩
          show (if (1 : Int32) = 0 then _ else _) = _
          rw [if_neg (by decide), show (51 : Int32) = nI 51 from rfl, Mo_leave hk hj (by omega), if_pos g]
          show some ((1, nI (j + 1), bad, nI (lv + 1) - 1, 0, N1, b1), 0, 0) = _
          rw [nI_p1]
        · rw [if_neg g]
          refine ⟨hj, nI (lv + 1) - 1, 0, N1, b1, c1, s1, bw_ok (c' := 0) (s' := 0) eX ?_, hO⟩
          show (if (1 : Int32) = 0 then _ else _) = _
          rw [if_neg (by decide), show (51 : Int32) = nI 51 from rfl, Mo_leave hk hj (by omega), if_neg g]
          rfl
  · rw [if_neg c, if_neg (fun x => c x.1)]
    exact ⟨hi, nI lv, sz, N, b, 0, 0, rfl, hO0⟩
theorem Mo_tE9 (hT : TkOK T m) (hk : KdIs m N5 a5 T.tkd) : ∀ (fu n k : Nat), k < m → 1 ≤ n → n ≤ 8 → 8 - n < fu → F_Mo_targetsEnd_9 q1 N5 a5 fu (nI n) (nI k) = some (match tE T.tkd fu n k with | .inl e => nI e | .inr _ => -1)
  | 0, n, k, _, _, _, h => by omega
  | fu + 1, n, k, hkm, hn1, hn8, hf => by
    have hle := hT.le
    rw [F_Mo_targetsEnd_9, if_neg (show ¬ (8 : Int32) < nI n by rw [show (8 : Int32) = nI 8 from rfl, nI_lt' (by omega) (by omega)]; omega), Mo_at hk hkm, Option.bind_some, Option.bind_some]
    have e2 : (a5 (Int32.toNatClampNeg (nI k)) = 2) = (T.tkd k = 2) := Mo_kd hk hkm (p := 2) (by omega)
    have e49 : (a5 (Int32.toNatClampNeg (nI k)) = 49) = (T.tkd k = 49) := Mo_kd hk hkm (p := 49) (by omega)
    have key : T.tkd k = 2 ∨ T.tkd k = 49 → F_Mo_targetsEnd_42 q1 N5 a5 (nI n) (nI k) (F_Mo_targetsEnd_9 q1 N5 a5 fu) = some (match tE T.tkd (fu + 1) n k with | .inl e => nI e | .inr _ => -1) := by
      intro h
      have h1 : k + 1 < m := hk.go hkm (by omega)
      have e53 : (a5 (Int32.toNatClampNeg (nI (k + 1))) = 53) = (T.tkd (k + 1) = 53) := Mo_kd hk h1 (p := 53) (by omega)
      have e54 : (a5 (Int32.toNatClampNeg (nI (k + 1))) = 54) = (T.tkd (k + 1) = 54) := Mo_kd hk h1 (p := 54) (by omega)
      unfold F_Mo_targetsEnd_42
      rw [show nI k + 1 = nI (k + 1) from nI_add' k 1, show nI (k + 1) + 1 = nI (k + 2) from nI_add' (k + 1) 1, Mo_at hk h1, Option.bind_some, Option.bind_some, tE, if_neg (show ¬ (T.tkd k ≠ 2 ∧ T.tkd k ≠ 49) from fun x => h.elim x.1 x.2)]
      by_cases c : T.tkd (k + 1) = 53
      · have h2 : k + 2 < m := hk.go h1 (by omega)
        have e56 : (a5 (Int32.toNatClampNeg (nI (k + 2))) = 56) = (T.tkd (k + 2) = 56) := Mo_kd hk h2 (p := 56) (by omega)
        rw [if_pos (e53.mpr c), if_pos c, Mo_at hk h2, Option.bind_some]
        by_cases d : T.tkd (k + 2) = 56
        · rw [if_pos (e56.mpr d), if_pos d]
        · rw [if_neg (fun x => d (e56.mp x)), if_neg d]
      · rw [if_neg (fun x => c (e53.mp x)), if_neg c]
        by_cases d : T.tkd (k + 1) = 54
        · have h2 : k + 2 < m := hk.go h1 (by omega)
          rw [if_pos (e54.mpr d), if_pos d]
          by_cases g : n = 8
          · rw [if_pos g, if_pos (show nI n = 8 by rw [g]; rfl)]
          · rw [if_neg g, if_neg (show ¬ nI n = 8 by rw [show (8 : Int32) = nI 8 from rfl, nI_eq' (by omega) (by omega)]; exact g), show nI n + 1 = nI (n + 1) from nI_add' n 1]
            exact Mo_tE9 hT hk fu (n + 1) (k + 2) h2 (by omega) (by omega) (by omega)
        · rw [if_neg (fun x => d (e54.mp x)), if_neg d]
    by_cases c : T.tkd k = 2
    · rw [if_pos (e2.mpr c)]
      exact key (Or.inl c)
    · rw [if_neg (fun x => c (e2.mp x))]
      by_cases d : T.tkd k = 49
      · rw [if_pos (e49.mpr d)]
        exact key (Or.inr d)
      · rw [if_neg (fun x => d (e49.mp x)), tE, if_pos ⟨c, d⟩]
/-- enough is enough -/
theorem tE_fu {K : Nat → Nat} : ∀ (f1 f2 n k : Nat), n ≤ 8 → 8 - n < f1 → 8 - n < f2 → tE K f1 n k = tE K f2 n k
  | 0, _, n, _, _, h, _ => by omega
  | _ + 1, 0, n, _, _, _, h => by omega
  | f1 + 1, f2 + 1, n, k, hn, h1, h2 => by
    rw [tE, tE]
    by_cases d : n = 8
    · rw [if_pos d, if_pos d]
    · rw [if_neg d, if_neg d, tE_fu f1 f2 (n + 1) (k + 2) (by omega) (by omega) (by omega)]
theorem Mo_tE (hT : TkOK T m) (hk : KdIs m N5 a5 T.tkd) {i : Nat} (hi : i + 1 < m) : F_Mo_targetsEnd q1 q2 q3 q4 (nI i) q5 q6 q7 q8 q9 N5 a5 = some (match tE T.tkd 9 1 (i + 1) with | .inl e => nI e | .inr _ => -1) := by
  unfold F_Mo_targetsEnd
  rw [show nI i + 1 = nI (i + 1) from nI_add' i 1, ← tE_fu FU 9 1 (i + 1) (by omega) (by unfold FU; omega) (by omega)]
  exact Mo_tE9 hT hk FU 1 (i + 1) hi (by omega) (by omega) (by unfold FU; omega)
/-- a bracket's end -/
theorem Mo_cl4 (hk : KdIs m N5 a5 T.tkd) : ∀ (fu k d e : Nat), clos T.tkd fu k d = some e → e < m → d ≤ k → k < m → F_Mo_closing_4 q1 N5 a5 fu (nI k) (nI d) = some (nI e)
  | 0, k, d, e, h, _, _, _ => by cases h
  | fu + 1, k, d, e, h, he, hd, hkm => by
    have hN := hk.le; have hN2 := hk.room
    have e50 : (a5 (Int32.toNatClampNeg (nI k)) = 50) = (T.tkd k = 50) := Mo_kd hk hkm (p := 50) (by omega)
    have e51 : (a5 (Int32.toNatClampNeg (nI k)) = 51) = (T.tkd k = 51) := Mo_kd hk hkm (p := 51) (by omega)
    have e52 : (a5 (Int32.toNatClampNeg (nI k)) = 52) = (T.tkd k = 52) := Mo_kd hk hkm (p := 52) (by omega)
    have e53 : (a5 (Int32.toNatClampNeg (nI k)) = 53) = (T.tkd k = 53) := Mo_kd hk hkm (p := 53) (by omega)
    have hk1 : nI k + 1 = nI (k + 1) := nI_add' k 1
    have hk2 : nI (k + 1) - 1 = nI k := nI_p1 k
    rw [clos] at h
    rw [F_Mo_closing_4, Mo_at hk hkm, Option.bind_some]
    simp only [e50, e51, e52, e53]
    have hgo : ∀ d', 0 < d' → clos T.tkd fu (k + 1) d' = some e → k + 1 < m := by
      intro d' hd' h'
      by_cases c : k + 1 < m
      · exact c
      · exfalso
        have : ∀ (f j dd : Nat), clos T.tkd f j dd = some e → j ≤ e := by
          intro f
          induction f with
          | zero => intro j dd hh; cases hh
          | succ f ih =>
            intro j dd hh
            rw [clos] at hh
            by_cases cc : 0 < dpt (T.tkd j) dd
            · rw [if_pos cc] at hh
              have := ih _ _ hh
              omega
            · rw [if_neg cc] at hh
              have := Option.some.inj hh
              omega
        have := this _ _ _ h'
        omega
    by_cases o : T.tkd k = 50 ∨ T.tkd k = 52
    · rw [dpt_open o, if_pos (by omega)] at h
      have : F_Mo_closing_28 (nI k) (nI d) (F_Mo_closing_4 q1 N5 a5 fu) = some (nI e) := by
        unfold F_Mo_closing_28
        rw [hk1, show nI d + 1 = nI (d + 1) from nI_add' d 1, if_pos (show (0 : Int32) < nI (d + 1) by rw [show (0 : Int32) = nI 0 from rfl, nI_lt' (by omega) (by omega)]; omega)]
        exact Mo_cl4 hk fu (k + 1) (d + 1) e h he (by omega) (hgo _ (by omega) h)
      by_cases o1 : T.tkd k = 50
      · rw [if_pos o1]; exact this
      · rw [if_neg o1, if_pos (o.resolve_left o1)]; exact this
    · rw [if_neg (fun x => o (Or.inl x)), if_neg (fun x => o (Or.inr x))]
      by_cases c : T.tkd k = 51 ∨ T.tkd k = 53
      · have : F_Mo_closing_48 (nI k) (nI d) (F_Mo_closing_4 q1 N5 a5 fu) = some (nI e) := by
          unfold F_Mo_closing_48
          rw [hk1, hk2]
          match d, h, hd with
          | 0, h, hd =>
            rw [show dpt (T.tkd k) 0 = 0 by unfold dpt; rw [if_neg o, if_pos c]] at h
            rw [if_neg (by omega)] at h
            rw [if_neg (show ¬ (0 : Int32) < nI 0 - 1 by decide), Option.some.inj h]
          | d + 1, h, hd =>
            rw [dpt_close c] at h
            rw [nI_p1]
            by_cases d0 : 0 < d
            · rw [if_pos d0] at h
              rw [if_pos (show (0 : Int32) < nI d by rw [show (0 : Int32) = nI 0 from rfl, nI_lt' (by omega) (by omega)]; omega)]
              exact Mo_cl4 hk fu (k + 1) d e h he (by omega) (hgo _ d0 h)
            · rw [if_neg d0] at h
              rw [if_neg (show ¬ (0 : Int32) < nI d by rw [show (0 : Int32) = nI 0 from rfl, nI_lt' (by omega) (by omega)]; omega), Option.some.inj h]
        by_cases c1 : T.tkd k = 51
        · rw [if_pos c1]; exact this
        · rw [if_neg c1, if_pos (c.resolve_left c1)]; exact this
      · rw [if_neg (fun x => c (Or.inl x)), if_neg (fun x => c (Or.inr x)), hk1, hk2]
        rw [dpt_mid (fun x => o (Or.inl x)) (fun x => c (Or.inl x)) (fun x => o (Or.inr x)) (fun x => c (Or.inr x))] at h
        by_cases d0 : 0 < d
        · rw [if_pos d0] at h
          rw [if_pos (show (0 : Int32) < nI d by rw [show (0 : Int32) = nI 0 from rfl, nI_lt' (by omega) (by omega)]; omega)]
          exact Mo_cl4 hk fu (k + 1) d e h he (by omega) (hgo _ d0 h)
        · rw [if_neg d0] at h
          rw [if_neg (show ¬ (0 : Int32) < nI d by rw [show (0 : Int32) = nI 0 from rfl, nI_lt' (by omega) (by omega)]; omega), Option.some.inj h]
theorem Mo_cl (hk : KdIs m N5 a5 T.tkd) {q1' : Int32} {k e : Nat} (h : clos T.tkd FU k 0 = some e) (he : e < m) (hkm : k < m) : F_Mo_closing (nI k) q1 q2 q3 q4 q5 q6 q7 q8 q9 q1' N5 a5 = some (nI e) := by
  have hN := hk.le; have hN2 := hk.room
  unfold F_Mo_closing
  exact Mo_cl4 hk FU k 0 e h he (by omega) hkm
end Md
end
