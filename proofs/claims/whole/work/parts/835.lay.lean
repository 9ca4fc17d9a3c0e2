section
/-! what stands outside of all brackets, by places -/
/-- the depth before the token n behind a, where it is d before a -/
def dpF (K : Nat → Nat) (a d : Nat) : Nat → Nat
  | 0 => d
  | n + 1 => dpt (K (a + n)) (dpF K a d n)
def dp (K : Nat → Nat) (a i : Nat) : Nat := dpF K a 0 (i - a)
theorem dp_self {K : Nat → Nat} {a : Nat} : dp K a a = 0 := by unfold dp; rw [Nat.sub_self]; rfl
theorem dp_succ {K : Nat → Nat} {a i : Nat} (h : a ≤ i) : dp K a (i + 1) = dpt (K i) (dp K a i) := by
  unfold dp
  rw [show i + 1 - a = (i - a) + 1 by omega, dpF, show a + (i - a) = i by omega]
theorem dp_shift {K : Nat → Nat} {a m : Nat} (ham : a ≤ m) (h : dp K a m = 0) : ∀ {i : Nat}, m ≤ i → dp K a i = dp K m i := by
  intro i hi
  obtain ⟨n, rfl⟩ : ∃ n, i = m + n := ⟨i - m, by omega⟩
  clear hi
  induction n with
  | zero => rw [Nat.add_zero, h, dp_self]
  | succ n ih => rw [← Nat.add_assoc, dp_succ (by omega), dp_succ (by omega), ih]
/-- the tokens from a to b - 1: their brackets are closed among themselves -/
def Lay (K : Nat → Nat) (a b : Nat) : Prop := a ≤ b ∧ (∀ i, a ≤ i → i < b → (K i = 51 ∨ K i = 53) → 0 < dp K a i) ∧ dp K a b = 0
/-- token i stands outside of the brackets of the tokens from a to b - 1 -/
def Top (K : Nat → Nat) (a b i : Nat) : Prop := a ≤ i ∧ i < b ∧ dp K a i = 0
theorem Lay.nil {K : Nat → Nat} {a : Nat} : Lay K a a := ⟨Nat.le_refl _, fun i h1 h2 => by omega, dp_self⟩
theorem Lay.trans {K : Nat → Nat} {a b c : Nat} (h : Lay K a b) (g : Lay K b c) : Lay K a c := by
  have h1 := h.1; have g1 := g.1
  refine ⟨by omega, fun i hi hc hk => ?_, by rw [dp_shift h1 h.2.2 g1]; exact g.2.2⟩
  by_cases d : i < b
  · exact h.2.1 i hi d hk
  · rw [dp_shift h1 h.2.2 (by omega)]; exact g.2.1 i (by omega) hc hk
theorem Top.split {K : Nat → Nat} {a b c i : Nat} (h : Lay K a b) (t : Top K a c i) : (i < b ∧ Top K a b i) ∨ (b ≤ i ∧ Top K b c i) := by
  by_cases d : i < b
  · exact Or.inl ⟨d, t.1, d, t.2.2⟩
  · exact Or.inr ⟨by omega, by omega, t.2.1, by rw [← dp_shift h.1 h.2.2 (by omega)]; exact t.2.2⟩
theorem Top.left {K : Nat → Nat} {a b c i : Nat} (t : Top K a b i) (h : b ≤ c) : Top K a c i := ⟨t.1, by have := t.2.1; omega, t.2.2⟩
theorem Top.right {K : Nat → Nat} {a b c i : Nat} (h : Lay K a b) (t : Top K b c i) : Top K a c i := ⟨by have := t.1; have := h.1; omega, t.2.1, by rw [dp_shift h.1 h.2.2 t.1]; exact t.2.2⟩
theorem Lay.one {K : Nat → Nat} {a : Nat} (h : K a ≠ 50) (h1 : K a ≠ 51) (h2 : K a ≠ 52) (h3 : K a ≠ 53) : Lay K a (a + 1) :=
  ⟨Nat.le_succ _, fun i hi hc hk => by
    have : i = a := by omega
    subst this
    exact (hk.elim h1 h3).elim, by rw [dp_succ (Nat.le_refl _), dp_self, dpt_mid h h1 h2 h3]⟩
theorem Top.one {K : Nat → Nat} {a i : Nat} (t : Top K a (a + 1) i) : i = a := by have := t.1; have := t.2.1; omega
theorem dp_in {K : Nat → Nat} {a c : Nat} (ho : K a = 50 ∨ K a = 52) (h : Lay K (a + 1) c) : ∀ i, a + 1 ≤ i → i ≤ c → dp K a i = dp K (a + 1) i + 1 := by
  intro i hi
  obtain ⟨n, rfl⟩ : ∃ n, i = a + 1 + n := ⟨i - (a + 1), by omega⟩
  clear hi
  induction n with
  | zero =>
    intro _
    rw [Nat.add_zero, dp_succ (Nat.le_refl _), dp_self, dp_self, dpt_open ho]
  | succ n ih =>
    intro hc
    rw [← Nat.add_assoc, dp_succ (by omega), dp_succ (by omega), ih (by omega)]
    have hh := h.2.1 (a + 1 + n) (by omega) (by omega)
    unfold dpt
    by_cases o : K (a + 1 + n) = 50 ∨ K (a + 1 + n) = 52
    · rw [if_pos o, if_pos o]
    · rw [if_neg o, if_neg o]
      by_cases e : K (a + 1 + n) = 51 ∨ K (a + 1 + n) = 53
      · have := hh e
        rw [if_pos e, if_pos e]; omega
      · rw [if_neg e, if_neg e]
theorem Lay.brk {K : Nat → Nat} {a c : Nat} (ho : K a = 50 ∨ K a = 52) (h : Lay K (a + 1) c) (hc : K c = 51 ∨ K c = 53) : Lay K a (c + 1) := by
  have h1 := h.1
  refine ⟨by omega, fun i hi hic hk => ?_, ?_⟩
  · by_cases d : i = a
    · subst d; omega
    · rw [dp_in ho h i (by omega) (by omega)]; omega
  · rw [dp_succ (by omega), dp_in ho h c h1 (Nat.le_refl _), h.2.2, dpt_close hc]
theorem Top.brk {K : Nat → Nat} {a c i : Nat} (ho : K a = 50 ∨ K a = 52) (h : Lay K (a + 1) c) (t : Top K a (c + 1) i) : i = a := by
  have h1 := t.1; have h2 := t.2.1
  by_cases d : i = a
  · exact d
  · have := dp_in ho h i (by omega) (by omega)
    have := t.2.2
    omega
theorem Lay.top {K : Nat → Nat} {a b : Nat} (h : a < b) : Top K a b a := ⟨Nat.le_refl _, h, dp_self⟩
/-- behind a token that stands outside -/
theorem Lay.step {K : Nat → Nat} {a b i : Nat} (h : Lay K a b) (t : Top K a b i) (h0 : K i ≠ 50) (h2 : K i ≠ 52) : dp K a (i + 1) = 0 := by
  rw [dp_succ t.1, t.2.2]
  have hc : ¬ (K i = 51 ∨ K i = 53) := fun x => by have := h.2.1 i t.1 t.2.1 x; have := t.2.2; omega
  exact dpt_mid h0 (fun x => hc (Or.inl x)) h2 (fun x => hc (Or.inr x))
theorem Lay.closes {K : Nat → Nat} {a b : Nat} (h : Lay K a b) : ∀ (n j fu : Nat), b - j = n → n < fu → a ≤ j → j ≤ b → 0 < dp K a j → ∃ e, clos K fu j (dp K a j) = some e ∧ j ≤ e ∧ e < b ∧ dp K a (e + 1) = 0
  | 0, j, fu, e, _, h1, h2, h3 => by
    have : j = b := by omega
    subst this
    have := h.2.2
    omega
  | n + 1, j, fu + 1, e, hf, h1, h2, h3 => by
    rw [clos, ← dp_succ h1]
    by_cases d : 0 < dp K a (j + 1)
    · rw [if_pos d]
      obtain ⟨e', g1, g2, g3, g4⟩ := Lay.closes h n (j + 1) fu (by omega) (by omega) (by omega) (by omega) d
      exact ⟨e', g1, by omega, g3, g4⟩
    · rw [if_neg d]
      exact ⟨j, rfl, Nat.le_refl _, by omega, by omega⟩
/-- a bracket that stands outside, and its end -/
theorem Lay.hop {K : Nat → Nat} {a b i : Nat} (h : Lay K a b) (t : Top K a b i) (ho : K i = 50 ∨ K i = 52) (hb : b < 2 ^ 17) : ∃ e, clos K FU i 0 = some e ∧ i < e ∧ e < b ∧ dp K a (e + 1) = 0 := by
  have t1 := t.1; have t2 := t.2.1
  have h1 : dp K a (i + 1) = 1 := by rw [dp_succ t.1, t.2.2, dpt_open ho]
  obtain ⟨e, g1, g2, g3, g4⟩ := Lay.closes h (b - (i + 1)) (i + 1) 999999 rfl (by omega) (by omega) (by omega) (by omega)
  refine ⟨e, ?_, by omega, g3, g4⟩
  rw [show FU = 999999 + 1 from rfl, clos, dpt_open ho, if_pos (by omega)]
  rw [h1] at g1
  exact g1
end
