section
section Md
variable {T : Tks} {m N5 : Nat} {a5 : Nat → Int32}
variable {n2 : Nat} {b2 : Nat → Int32}
variable {q1 q2 q3 q4 q5 q6 q7 q8 q9 : Int32}
/-- an expression that has been read is one -/
theorem rdE_vv (hT : TkOK T m) {i lv j lv' : Nat} (hi : i < m) (hlv : lv ≤ 60) (h : rdE T.tkd i lv = .inr (j, lv')) : ∃ t ρ, VV T 0 ρ i j t := by
  have h1 := expr_run (sm := fun _ _ _ => false) (B := (0, fm_0 18 0 0, [], [], [])) (lv := lv) hT ⟨rfl, rfl, Or.inl rfl, fun h => absurd (show (18 : Int32) = 20 from h) (by decide), fun h => absurd (show (18 : Int32) = 20 from h) (by decide)⟩ hi hlv (fun h => absurd (show (18 : Int32) = 20 from h) (by decide)) (fun h => absurd (show (18 : Int32) = 52 from h) (by decide)) (Nat.zero_le _)
  rw [h] at h1
  obtain ⟨_, _, _, _, t, ρ, s', hv, _⟩ := h1
  exact ⟨t, ρ, hv⟩
theorem Mo_tg70 (hk : KdIs m N5 a5 T.tkd) {b : Nat} (hb : b ≤ m) : ∀ (fu k d c : Nat), b - k < fu → k ≤ b → d ≤ k → c ≤ k → (k < b → (0 < d ∨ T.tkd k = 50) ∧ ∃ f, clos T.tkd f k d = some (b - 1)) → F_Mo_isTarget_70 (nI b) q1 N5 a5 fu (nI k) (nI d) (nI c) = some (if c + cmm T.tkd (b - k) k d < 2 then 1 else 0)
  | 0, k, d, c, h, _, _, _, _ => by omega
  | fu + 1, k, d, c, h, hkb, hd, hc, hH => by
    have hN := hk.le; have hN2 := hk.room
    rw [F_Mo_isTarget_70]
    by_cases e : k = b
    · subst e
      rw [if_pos (show nI k ≤ nI k by rw [nI_le' (by omega) (by omega)]; omega), Nat.sub_self, cmm, Nat.add_zero]
      by_cases g : c < 2
      · rw [if_pos g, if_neg (show ¬ (2 : Int32) ≤ nI c by rw [show (2 : Int32) = nI 2 from rfl, nI_le' (by omega) (by omega)]; omega)]
      · rw [if_neg g, if_pos (show (2 : Int32) ≤ nI c by rw [show (2 : Int32) = nI 2 from rfl, nI_le' (by omega) (by omega)]; omega)]
    · have hkm : k < m := by omega
      obtain ⟨hd0, f, hf⟩ := hH (by omega)
      have e50 : (a5 (Int32.toNatClampNeg (nI k)) = 50) = (T.tkd k = 50) := Mo_kd hk hkm (p := 50) (by omega)
      have e51 : (a5 (Int32.toNatClampNeg (nI k)) = 51) = (T.tkd k = 51) := Mo_kd hk hkm (p := 51) (by omega)
      have e52 : (a5 (Int32.toNatClampNeg (nI k)) = 52) = (T.tkd k = 52) := Mo_kd hk hkm (p := 52) (by omega)
      have e53 : (a5 (Int32.toNatClampNeg (nI k)) = 53) = (T.tkd k = 53) := Mo_kd hk hkm (p := 53) (by omega)
      have e54 : (a5 (Int32.toNatClampNeg (nI k)) = 54) = (T.tkd k = 54) := Mo_kd hk hkm (p := 54) (by omega)
      rw [if_neg (show ¬ nI b ≤ nI k by rw [nI_le' (by omega) (by omega)]; omega), Mo_at hk hkm, Option.bind_some]
      simp only [e50, e51, e52, e53]
      have hnx : k + 1 < b → (0 < dpt (T.tkd k) d ∨ T.tkd (k + 1) = 50) ∧ ∃ f, clos T.tkd f (k + 1) (dpt (T.tkd k) d) = some (b - 1) := by
        intro h1
        match f, hf with
        | f + 1, hf =>
          rw [clos] at hf
          by_cases g : 0 < dpt (T.tkd k) d
          · rw [if_pos g] at hf
            exact ⟨Or.inl g, f, hf⟩
          · rw [if_neg g] at hf
            have := Option.some.inj hf
            omega
      have key : ∀ d', dpt (T.tkd k) d = d' → d' ≤ k + 1 → F_Mo_isTarget_131 a5 (nI k) (nI c) (F_Mo_isTarget_70 (nI b) q1 N5 a5 fu) (nI d') = some (if c + cmm T.tkd (b - k) k d < 2 then 1 else 0) := by
        intro d' hd' hd2
        rw [hd'] at hnx
        unfold F_Mo_isTarget_131
        simp only [e54]
        rw [show nI k + 1 = nI (k + 1) from nI_add' k 1, show nI c + 1 = nI (c + 1) from nI_add' c 1, show b - k = (b - (k + 1)) + 1 by omega, cmm, hd']
        by_cases g : T.tkd k = 54
        · rw [if_pos g]
          by_cases g1 : d' = 1
          · rw [if_pos (show nI d' = 1 by rw [g1]; rfl), if_pos (show T.tkd k = 54 ∧ d' = 1 from ⟨g, g1⟩), Mo_tg70 hk hb fu (k + 1) d' (c + 1) (by omega) (by omega) (by omega) (by omega) hnx, Nat.add_assoc]
          · rw [if_neg (show ¬ nI d' = 1 by rw [show (1 : Int32) = nI 1 from rfl, nI_eq' (by omega) (by omega)]; exact g1), if_neg (show ¬ (T.tkd k = 54 ∧ d' = 1) from fun x => g1 x.2), Mo_tg70 hk hb fu (k + 1) d' c (by omega) (by omega) (by omega) (by omega) hnx, Nat.zero_add]
        · rw [if_neg g, if_neg (show ¬ (T.tkd k = 54 ∧ d' = 1) from fun x => g x.1), Mo_tg70 hk hb fu (k + 1) d' c (by omega) (by omega) (by omega) (by omega) hnx, Nat.zero_add]
      by_cases o : T.tkd k = 50 ∨ T.tkd k = 52
      · have := key (d + 1) (dpt_open o) (by omega)
        rw [← show nI d + 1 = nI (d + 1) from nI_add' d 1] at this
        by_cases o1 : T.tkd k = 50
        · rw [if_pos o1]; exact this
        · rw [if_neg o1, if_pos (o.resolve_left o1)]; exact this
      · rw [if_neg (fun x => o (Or.inl x)), if_neg (fun x => o (Or.inr x))]
        by_cases cl : T.tkd k = 51 ∨ T.tkd k = 53
        · have hd1 : 0 < d := hd0.resolve_right (fun x => o (Or.inl x))
          have hp : dpt (T.tkd k) d = d - 1 := by
            have := dpt_close (d := d - 1) cl
            rw [show d - 1 + 1 = d by omega] at this
            exact this
          have := key (d - 1) hp (by omega)
          rw [← show nI d - 1 = nI (d - 1) from nI_sub' hd1] at this
          by_cases c1 : T.tkd k = 51
          · rw [if_pos c1]; exact this
          · rw [if_neg c1, if_pos (cl.resolve_left c1)]; exact this
        · rw [if_neg (fun x => cl (Or.inl x)), if_neg (fun x => cl (Or.inr x))]
          exact key d (dpt_mid (fun x => o (Or.inl x)) (fun x => cl (Or.inl x)) (fun x => o (Or.inr x)) (fun x => cl (Or.inr x))) (by omega)
theorem Mo_tg (hT : TkOK T m) (hk : KdIs m N5 a5 T.tkd) {q0 : Int32} {a b : Nat} {t : Tr Lb} {ρ : Nat} (hv : VV T 0 ρ a b t) (hb : b < m) : F_Mo_isTarget (nI a) (nI b) q1 q2 q3 q4 q5 q6 q7 q8 q9 q0 N5 a5 = some (if isTg T.tkd a b = true then 1 else 0) := by
  have hm := hT.le
  have hab := hv.lt
  have e2 : (a5 (Int32.toNatClampNeg (nI a)) = 2) = (T.tkd a = 2) := Mo_kd hk (by omega) (p := 2) (by omega)
  unfold F_Mo_isTarget isTg
  rw [Mo_at hk (by omega), Option.bind_some, show nI a + 1 = nI (a + 1) from nI_add' a 1, show nI a + 3 = nI (a + 3) from nI_add' a 3, show nI b - 1 = nI (b - 1) from nI_sub' (show 1 ≤ b by omega)]
  simp only [e2]
  by_cases c2 : T.tkd a = 2
  · rw [if_pos c2]
    by_cases c1 : b = a + 1
    · rw [if_pos (show nI b = nI (a + 1) by rw [c1])]
      simp only [c2, c1, decide_true, Bool.true_and, Bool.true_or, if_true]
    · have ha1 : a + 1 < m := by omega
      have e50 : (a5 (Int32.toNatClampNeg (nI (a + 1))) = 50) = (T.tkd (a + 1) = 50) := Mo_kd hk ha1 (p := 50) (by omega)
      rw [if_neg (show ¬ nI b = nI (a + 1) by rw [nI_eq' (by omega) (by omega)]; exact c1), Mo_at hk ha1, Option.bind_some]
      simp only [e50]
      by_cases c5 : T.tkd (a + 1) = 50
      · rw [if_pos c5]
        obtain ⟨fv, hx⟩ := hv
        have hcl : ∃ e, clos T.tkd FU (a + 1) 0 = some e ∧ e < b := by
          rcases Vx.first hx c2 c5 (by omega) with hw | ⟨e, he1, he2, he3⟩
          · obtain ⟨l, _, h1, _, _⟩ := with_facts hw (by omega)
            exact ⟨b - 1, h1, by omega⟩
          · exact ⟨e, he3.closed (Or.inl c5) (Or.inl he2) FU (by unfold FU; omega), by omega⟩
        obtain ⟨e, hc, heb⟩ := hcl
        rw [Mo_cl hk hc (by omega) ha1, Option.bind_some, hc]
        by_cases ce : e = b - 1
        · rw [if_pos (show nI e = nI (b - 1) by rw [ce])]
          by_cases c3 : b = a + 3
          · rw [if_pos (show nI b = nI (a + 3) by rw [c3])]
            simp only [c3, decide_true, Bool.not_true, Bool.and_false, Bool.false_and, Bool.or_false]
            rw [if_neg]
            simp
          · rw [if_neg (show ¬ nI b = nI (a + 3) by rw [nI_eq' (by omega) (by omega)]; exact c3)]
            have h7 := Mo_tg70 hk (q1 := q0) (b := b) (by omega) FU (a + 1) 0 0 (by unfold FU; omega) (by omega) (by omega) (by omega) (fun _ => ⟨Or.inr c5, FU, by rw [hc, ce]⟩)
            rw [Nat.zero_add] at h7
            refine Eq.trans h7 ?_
            simp only [c2, c1, c5, c3, ce, decide_true, decide_false, Bool.true_and, Bool.false_or, Bool.not_false, Bool.and_true, decide_eq_true_eq]
        · rw [if_neg (show ¬ nI e = nI (b - 1) by rw [nI_eq' (by omega) (by omega)]; exact ce)]
          rw [if_neg]
          simp only [c1, decide_false, Bool.false_or, Bool.and_eq_true, decide_eq_true_eq, Option.some.injEq]
          intro h
          exact ce h.2.1.1.2
      · rw [if_neg c5, if_neg]
        simp only [c1, c5, decide_false, Bool.false_or, Bool.false_and, Bool.and_false]
        exact Bool.false_ne_true
  · rw [if_neg c2, if_neg]
    simp only [c2, decide_false, Bool.false_and]
    exact Bool.false_ne_true
end Md
end
