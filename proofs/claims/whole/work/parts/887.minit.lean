section
/-! the reference's constructor: its table of digits -/
def dg (N i : Nat) : Nat := N / 10 ^ i % 10
def cr (N i : Nat) : Nat := 2 * (N % 10 ^ i) / 10 ^ i
theorem dg_lt (N i : Nat) : dg N i < 10 := Nat.mod_lt _ (by decide)
theorem cr_lt (N i : Nat) : cr N i < 2 := by
  unfold cr
  have hp : 0 < 10 ^ i := Nat.pow_pos (by decide)
  have := Nat.mod_lt N hp
  exact Nat.div_lt_of_lt_mul (by omega)
theorem dg_two (N v : Nat) : dg (2 * N) v = (2 * dg N v + cr N v) % 10 ∧ cr N (v + 1) = (2 * dg N v + cr N v) / 10 := by
  unfold dg cr
  rw [Nat.pow_succ]
  have hp : 0 < 10 ^ v := Nat.pow_pos (by decide)
  generalize 10 ^ v = P at hp ⊢
  have h1 : N % P + P * (N / P) = N := Nat.mod_add_div N P
  have e1 : 2 * N / P = 2 * (N % P) / P + 2 * (N / P) := by
    have e0 : 2 * N = 2 * (N % P) + P * (2 * (N / P)) := by
      rw [Nat.mul_left_comm P 2, ← Nat.mul_add, h1]
    rw [e0, Nat.add_mul_div_left _ _ hp]
  have e2 : N % (P * 10) = N % P + P * (N / P % 10) := Nat.mod_mul
  refine ⟨by rw [e1]; omega, ?_⟩
  rw [e2, ← Nat.div_div_eq_div_mul, Nat.mul_add, Nat.mul_left_comm 2 P, Nat.add_mul_div_left _ _ hp, Nat.add_comm]
theorem tw_ok : ∀ d, d < 10 → ∀ c, c < 2 → (2 * nI d + nI c) / 10 = nI ((2 * d + c) / 10) ∧ (2 * nI d + nI c) - (2 * nI d + nI c) / 10 * 10 = nI ((2 * d + c) % 10) := by decide +kernel
theorem tw_4 (N : Nat) : ∀ (k v fu : Nat) (b : Nat → Int32), v + k = 309 → k < fu → (∀ i, i < v → b i = nI (dg (2 * N) i)) → (∀ i, v ≤ i → i < 309 → b i = nI (dg N i)) → ∃ b', F_Mo_twice_4 309 fu (nI v) (nI (cr N v)) b = some b' ∧ ∀ i, i < 309 → b' i = nI (dg (2 * N) i) := by
  intro k
  induction k with
  | zero =>
    intro v fu b hv hf h1 h2
    obtain ⟨fu, rfl⟩ : ∃ m, fu = m + 1 := ⟨fu - 1, by omega⟩
    refine ⟨b, ?_, fun i hi => h1 i (by omega)⟩
    rw [F_Mo_twice_4, if_pos (show (309 : Int32) ≤ nI v by rw [show (309 : Int32) = nI 309 from rfl, nI_le' (by omega) (by omega)]; omega)]
  | succ k ih =>
    intro v fu b hv hf h1 h2
    obtain ⟨fu, rfl⟩ : ∃ m, fu = m + 1 := ⟨fu - 1, by omega⟩
    have hb := h2 v (Nat.le_refl _) (by omega)
    obtain ⟨t1, t2⟩ := tw_ok (dg N v) (dg_lt N v) (cr N v) (cr_lt N v)
    obtain ⟨d1, d2⟩ := dg_two N v
    rw [F_Mo_twice_4, if_neg (show ¬ (309 : Int32) ≤ nI v by rw [show (309 : Int32) = nI 309 from rfl, nI_le' (by omega) (by omega)]; omega), inb_ok (by omega) (by omega), inb_ok (by omega) (by omega), nI_clamp' (by omega), hb, t2, t1, ← d1, ← d2, show nI v + 1 = nI (v + 1) from nI_add' v 1]
    refine ih (v + 1) fu _ (by omega) (by omega) (fun i hi => ?_) (fun i hi hi2 => ?_)
    · unfold upd
      by_cases c : i = v
      · rw [if_pos c, c]
      · rw [if_neg c]; exact h1 i (by omega)
    · unfold upd
      rw [if_neg (by omega)]
      exact h2 i (by omega) hi2
theorem tw_1 {N : Nat} {b : Nat → Int32} (h : ∀ i, i < 309 → b i = nI (dg N i)) : ∃ b', F_Mo_twice 309 b = some b' ∧ ∀ i, i < 309 → b' i = nI (dg (2 * N) i) := by
  have hc : cr N 0 = 0 := by unfold cr; rw [Nat.pow_zero, Nat.mod_one]
  obtain ⟨b', e, h'⟩ := tw_4 N 309 0 FU b (by omega) (by unfold FU; omega) (fun i hi => by omega) (fun i _ hi => h i hi)
  rw [hc] at e
  exact ⟨b', e, h'⟩
def bor (v : Nat) : Nat := if 2 ^ 1024 % 10 ^ v < 2 ^ 970 % 10 ^ v then 1 else 0
def sbC (v : Nat) : Bool := (decide ((0 : Int32) ≤ nI (dg (2 ^ 1024) v) - nI (dg (2 ^ 970) v) - nI (bor v)) == decide (bor (v + 1) = 0)) && decide ((if (0 : Int32) ≤ nI (dg (2 ^ 1024) v) - nI (dg (2 ^ 970) v) - nI (bor v) then nI (dg (2 ^ 1024) v) - nI (dg (2 ^ 970) v) - nI (bor v) else nI (dg (2 ^ 1024) v) - nI (dg (2 ^ 970) v) - nI (bor v) + 10) = nI (dg (2 ^ 1024 - 2 ^ 970) v))
set_option maxRecDepth 100000 in
theorem sb_all : (List.range 309).all sbC = true := by decide +kernel
set_option maxRecDepth 100000 in
theorem bnd_dg : (List.range 309).all (fun i => dg (2 ^ 1024 - 2 ^ 970) (308 - i) == bnd i) = true := by decide +kernel
theorem bor_or (v : Nat) : bor v = 0 ∨ bor v = 1 := by
  unfold bor
  by_cases c : 2 ^ 1024 % 10 ^ v < 2 ^ 970 % 10 ^ v
  · rw [if_pos c]; exact Or.inr rfl
  · rw [if_neg c]; exact Or.inl rfl
theorem bor_0 : bor 0 = 0 := by
  unfold bor
  rw [Nat.pow_zero, Nat.mod_one, Nat.mod_one]
  exact if_neg (Nat.lt_irrefl 0)
theorem sbv_at {v : Nat} (hv : v < 309) : ((0 : Int32) ≤ nI (dg (2 ^ 1024) v) - nI (dg (2 ^ 970) v) - nI (bor v) ∧ bor (v + 1) = 0 ∧ nI (dg (2 ^ 1024) v) - nI (dg (2 ^ 970) v) - nI (bor v) = nI (dg (2 ^ 1024 - 2 ^ 970) v)) ∨ (¬ (0 : Int32) ≤ nI (dg (2 ^ 1024) v) - nI (dg (2 ^ 970) v) - nI (bor v) ∧ bor (v + 1) = 1 ∧ nI (dg (2 ^ 1024) v) - nI (dg (2 ^ 970) v) - nI (bor v) + 10 = nI (dg (2 ^ 1024 - 2 ^ 970) v)) := by
  have h := List.all_eq_true.mp sb_all v (List.mem_range.mpr hv)
  unfold sbC at h
  have hb := bor_or (v + 1)
  generalize nI (dg (2 ^ 1024) v) - nI (dg (2 ^ 970) v) - nI (bor v) = t at h ⊢
  generalize nI (dg (2 ^ 1024 - 2 ^ 970) v) = r at h ⊢
  rw [Bool.and_eq_true] at h
  obtain ⟨ha, hd⟩ := h
  have hd := of_decide_eq_true hd
  have ha := beq_iff_eq.mp ha
  by_cases c : (0 : Int32) ≤ t
  · rw [if_pos c] at hd
    rw [decide_eq_true c] at ha
    exact Or.inl ⟨c, of_decide_eq_true ha.symm, hd⟩
  · rw [if_neg c] at hd
    rw [decide_eq_false c] at ha
    exact Or.inr ⟨c, hb.resolve_left (of_decide_eq_false ha.symm), hd⟩
theorem sb_762 {y : Nat → Int32} (hy : ∀ i, i < 309 → y i = nI (dg (2 ^ 970) i)) : ∀ (k v fu : Nat) (b : Nat → Int32), v + k = 309 → k < fu → (∀ i, i < v → b i = nI (dg (2 ^ 1024 - 2 ^ 970) i)) → (∀ i, v ≤ i → i < 309 → b i = nI (dg (2 ^ 1024) i)) → ∃ b', F_Mo_init_762 fu (nI v) (nI (bor v)) b y = some (b', 0, 0) ∧ ∀ i, i < 309 → b' i = nI (dg (2 ^ 1024 - 2 ^ 970) i) := by
  intro k
  induction k with
  | zero =>
    intro v fu b hv hf h1 h2
    obtain ⟨fu, rfl⟩ : ∃ m, fu = m + 1 := ⟨fu - 1, by omega⟩
    refine ⟨b, ?_, fun i hi => h1 i (by omega)⟩
    rw [F_Mo_init_762, if_pos (show (309 : Int32) ≤ nI v by rw [show (309 : Int32) = nI 309 from rfl, nI_le' (by omega) (by omega)]; omega)]
  | succ k ih =>
    intro v fu b hv hf h1 h2
    obtain ⟨fu, rfl⟩ : ∃ m, fu = m + 1 := ⟨fu - 1, by omega⟩
    have hb := h2 v (Nat.le_refl _) (by omega)
    have hyv := hy v (by omega)
    have step : ∀ w : Int32, w = nI (dg (2 ^ 1024 - 2 ^ 970) v) → ∃ b', F_Mo_init_762 fu (nI (v + 1)) (nI (bor (v + 1))) (upd b v w) y = some (b', 0, 0) ∧ ∀ i, i < 309 → b' i = nI (dg (2 ^ 1024 - 2 ^ 970) i) := by
      intro w hw
      refine ih (v + 1) fu _ (by omega) (by omega) (fun i hi => ?_) (fun i hi hi2 => ?_)
      · unfold upd
        by_cases c : i = v
        · rw [if_pos c, c]; exact hw
        · rw [if_neg c]; exact h1 i (by omega)
      · unfold upd
        rw [if_neg (by omega)]
        exact h2 i (by omega) hi2
    rw [F_Mo_init_762, if_neg (show ¬ (309 : Int32) ≤ nI v by rw [show (309 : Int32) = nI 309 from rfl, nI_le' (by omega) (by omega)]; omega), inb_ok (by omega) (by omega), inb_ok (by omega) (by omega), nI_clamp' (by omega), hb, hyv]
    unfold F_Mo_init_793
    rw [inb_ok (by omega) (by omega), inb_ok (by omega) (by omega), inb_ok (by omega) (by omega), inb_ok (by omega) (by omega), nI_clamp' (by omega), hb, hyv, show nI v + 1 = nI (v + 1) from nI_add' v 1]
    rcases sbv_at (show v < 309 by omega) with ⟨c1, c2, c3⟩ | ⟨c1, c2, c3⟩
    · rw [if_pos c1, if_pos c1]
      have := step _ c3
      rw [c2] at this
      exact this
    · rw [if_neg c1, if_neg c1]
      have := step _ c3
      rw [c2] at this
      exact this
theorem dg_one : (List.range 309).all (fun i => decide (upd (fun _ => (0 : Int32)) (Int32.toNatClampNeg 0) 1 i = nI (dg 1 i))) = true := by decide +kernel
theorem dg_1 : ∀ i, i < 309 → upd (fun _ => (0 : Int32)) (Int32.toNatClampNeg 0) 1 i = nI (dg (2 ^ 0) i) := fun i hi => of_decide_eq_true (List.all_eq_true.mp dg_one i (List.mem_range.mpr hi))
theorem sb_741 {x : Nat → Int32} (hx : ∀ i, i < 309 → x i = nI (dg (2 ^ 1024) i)) : ∀ (k v fu : Nat) (y : Nat → Int32), v + k = 970 → k < fu → (∀ i, i < 309 → y i = nI (dg (2 ^ v) i)) → ∃ b', F_Mo_init_741 fu (nI v) x y = some (b', 0, 0) ∧ ∀ i, i < 309 → b' i = nI (dg (2 ^ 1024 - 2 ^ 970) i) := by
  intro k
  induction k with
  | zero =>
    intro v fu y hv hf hy
    obtain ⟨fu, rfl⟩ : ∃ m, fu = m + 1 := ⟨fu - 1, by omega⟩
    rw [F_Mo_init_741, if_pos (show (970 : Int32) ≤ nI v by rw [show (970 : Int32) = nI 970 from rfl, nI_le' (by omega) (by omega)]; omega)]
    have hv : v = 970 := by omega
    rw [hv] at hy
    have hq := sb_762 hy 309 0 FU x (by omega) (by unfold FU; omega) (fun i hi => by omega) (fun i _ hi => hx i hi)
    rw [bor_0] at hq
    exact hq
  | succ k ih =>
    intro v fu y hv hf hy
    obtain ⟨fu, rfl⟩ : ∃ m, fu = m + 1 := ⟨fu - 1, by omega⟩
    obtain ⟨y', e, hy'⟩ := tw_1 hy
    rw [F_Mo_init_741, if_neg (show ¬ (970 : Int32) ≤ nI v by rw [show (970 : Int32) = nI 970 from rfl, nI_le' (by omega) (by omega)]; omega), e, Option.bind_some, show nI v + 1 = nI (v + 1) from nI_add' v 1]
    exact ih (v + 1) fu y' (by omega) (by omega) (fun i hi => by rw [Nat.pow_succ, Nat.mul_comm]; exact hy' i hi)
theorem sb_709 : ∀ (k v fu : Nat) (x : Nat → Int32), v + k = 1024 → k < fu → (∀ i, i < 309 → x i = nI (dg (2 ^ v) i)) → ∃ b', F_Mo_init_709 fu (nI v) x = some (b', 1, 309) ∧ ∀ i, i < 309 → b' i = nI (dg (2 ^ 1024 - 2 ^ 970) i) := by
  intro k
  induction k with
  | zero =>
    intro v fu x hv hf hx
    obtain ⟨fu, rfl⟩ : ∃ m, fu = m + 1 := ⟨fu - 1, by omega⟩
    have hv : v = 1024 := by omega
    rw [hv] at hx
    obtain ⟨b', e, h'⟩ := sb_741 hx 970 0 FU (upd (fun _ => (0 : Int32)) (Int32.toNatClampNeg 0) 1) (by omega) (by unfold FU; omega) dg_1
    refine ⟨b', ?_, h'⟩
    rw [F_Mo_init_709, if_pos (show (1024 : Int32) ≤ nI v by rw [show (1024 : Int32) = nI 1024 from rfl, nI_le' (by omega) (by omega)]; omega), show (0 : Int32) = nI 0 from rfl, inb_ok (by omega) (by omega)]
    rw [show (0 : Int32) = nI 0 from rfl] at e
    rw [e]
    rfl
  | succ k ih =>
    intro v fu x hv hf hx
    obtain ⟨fu, rfl⟩ : ∃ m, fu = m + 1 := ⟨fu - 1, by omega⟩
    obtain ⟨x', e, hx'⟩ := tw_1 hx
    rw [F_Mo_init_709, if_neg (show ¬ (1024 : Int32) ≤ nI v by rw [show (1024 : Int32) = nI 1024 from rfl, nI_le' (by omega) (by omega)]; omega), e, Option.bind_some, show nI v + 1 = nI (v + 1) from nI_add' v 1]
    exact ih (v + 1) fu x' (by omega) (by omega) (fun i hi => by rw [Nat.pow_succ, Nat.mul_comm]; exact hx' i hi)
theorem inb27 (k : Nat) (h : k < 27) {α : Type} (X : Option α) : inb (nI k) 27 X = X := inb_ok h (by omega)
theorem inb309 {α : Type} (X : Option α) : inb 0 309 X = X := inb_ok (i := 0) (by omega) (by omega)
theorem Nm_i : F_Nm_init = some ((), 1, 16) := by unfold F_Nm_init; exact nwa_ok (n := 16) (by omega)
theorem nm2 {X : Option ((Nat → Int32) × Nat × Nat)} {r : Nat → Int32} {c s : Nat} (h : X = some (r, c, s)) : al 1 2 (bw F_Nm_init fun _ => X) = some (r, c + 2, s + 18) := by
  subst h
  rw [Nm_i]
  show some (r, 1 + (1 + c), 2 + (16 + s)) = _
  rw [show 1 + (1 + c) = c + 2 by omega, show 2 + (16 + s) = s + 18 by omega]
theorem Mo_700 : ∃ b', F_Mo_init_700 = some (b', 1, 309) ∧ ∀ i, i < 309 → b' (308 - i) = nI (bnd i) := by
  obtain ⟨b', e, h'⟩ := sb_709 1024 0 FU (upd (fun _ => (0 : Int32)) (Int32.toNatClampNeg 0) 1) (by omega) (by unfold FU; omega) dg_1
  refine ⟨b', ?_, fun i hi => ?_⟩
  · unfold F_Mo_init_700
    rw [inb309]
    exact e
  · rw [h' (308 - i) (by omega), beq_iff_eq.mp (List.all_eq_true.mp bnd_dg i (List.mem_range.mpr hi))]
theorem Mo_ini : ∃ (b' : Nat → Int32) (c s : Nat), F_Mo_init = some (b', c, s) ∧ c ≤ 100 ∧ s ≤ 2000 ∧ ∀ i, i < 309 → b' (308 - i) = nI (bnd i) := by
  obtain ⟨b', e, h'⟩ := Mo_700
  have e667 : F_Mo_init_667 = some (b', 7, 363) := by unfold F_Mo_init_667; exact nm2 (nm2 (nm2 e))
  have e634 : F_Mo_init_634 = some (b', 13, 417) := by unfold F_Mo_init_634; exact nm2 (nm2 (nm2 e667))
  have e601 : F_Mo_init_601 = some (b', 19, 471) := by unfold F_Mo_init_601; exact nm2 (nm2 (nm2 e634))
  have e568 : F_Mo_init_568 = some (b', 25, 525) := by unfold F_Mo_init_568; exact nm2 (nm2 (nm2 e601))
  have e535 : F_Mo_init_535 = some (b', 31, 579) := by unfold F_Mo_init_535; exact nm2 (nm2 (nm2 e568))
  have e499 : F_Mo_init_499 = some (b', 36, 924) := by unfold F_Mo_init_499; rw [nm2 (nm2 e535)]; exact nwa_ok (n := 309) (by omega)
  have e466 : F_Mo_init_466 = some (b', 42, 978) := by unfold F_Mo_init_466; exact nm2 (nm2 (nm2 e499))
  have e433 : F_Mo_init_433 = some (b', 48, 1032) := by unfold F_Mo_init_433; exact nm2 (nm2 (nm2 e466))
  have e400 : F_Mo_init_400 = some (b', 54, 1086) := by unfold F_Mo_init_400; exact nm2 (nm2 (nm2 e433))
  have e256 : F_Mo_init_256 = some (b', 55, 1113) := by
    unfold F_Mo_init_256
    rw [e400]
    refine (congrArg (nwa 27) ((inb27 0 (by omega) _).trans ((inb27 1 (by omega) _).trans ((inb27 2 (by omega) _).trans ((inb27 3 (by omega) _).trans ((inb27 4 (by omega) _).trans ((inb27 5 (by omega) _).trans ((inb27 6 (by omega) _).trans ((inb27 7 (by omega) _).trans ((inb27 8 (by omega) _).trans ((inb27 9 (by omega) _).trans ((inb27 10 (by omega) _).trans ((inb27 11 (by omega) _).trans ((inb27 12 (by omega) _).trans ((inb27 13 (by omega) _).trans ((inb27 14 (by omega) _).trans ((inb27 15 (by omega) _).trans ((inb27 16 (by omega) _).trans ((inb27 17 (by omega) _).trans ((inb27 18 (by omega) _).trans ((inb27 19 (by omega) _).trans ((inb27 20 (by omega) _).trans ((inb27 21 (by omega) _).trans ((inb27 22 (by omega) _).trans ((inb27 23 (by omega) _).trans ((inb27 24 (by omega) _).trans ((inb27 25 (by omega) _).trans (inb27 26 (by omega) _)))))))))))))))))))))))))))).trans (nwa_ok (n := 27) (by omega))
  have e91 : F_Mo_init_91 = some (b', 56, 1140) := by unfold F_Mo_init_91; rw [e256, al_some]
  have e0 : F_Mo_init = some (b', 57, 1154) := by unfold F_Mo_init; rw [e91, al_some]
  exact ⟨b', 57, 1154, e0, by omega, by omega, h'⟩
theorem Eq_ini : ∃ c s : Nat, F_Eq_init = some ((), c, s) ∧ c ≤ 100 ∧ s ≤ 5000 := ⟨_, _, rfl, by decide, by decide⟩
end
