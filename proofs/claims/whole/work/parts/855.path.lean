section
/-! the looks over statements -/
def opb (k : Nat) : Prop := k = 19 ∨ k = 10 ∨ k = 14 ∨ k = 15 ∨ k = 22
/-- from token i at depth d (of blocks) to the next -/
def Hop (K : Nat → Nat) (i d i' d' : Nat) : Prop := ((K i = 50 ∨ K i = 52) ∧ ∃ e, clos K FU i 0 = some e ∧ i < e ∧ i' = e + 1 ∧ d' = d) ∨ (opb (K i) ∧ i' = i + 1 ∧ d' = d + 1) ∨ (K i = 13 ∧ i' = i + 1 ∧ d = d' + 1) ∨ (K i ≠ 50 ∧ K i ≠ 52 ∧ ¬ opb (K i) ∧ K i ≠ 13 ∧ i' = i + 1 ∧ d' = d)
theorem Hop.lt {K : Nat → Nat} {i d i' d' : Nat} (h : Hop K i d i' d') : i < i' := by
  rcases h with ⟨_, e, _, h1, h2, _⟩ | ⟨_, h, _⟩ | ⟨_, h, _⟩ | ⟨_, _, _, _, h, _⟩ <;> omega
theorem Hop.up {K : Nat → Nat} {i d i' d' : Nat} (h : Hop K i d i' d') : Hop K i (d + 1) i' (d' + 1) := by
  rcases h with ⟨h0, e, h1, h2, h3, h4⟩ | ⟨h0, h1, h2⟩ | ⟨h0, h1, h2⟩ | ⟨a, b, c, e, f, g⟩
  · exact Or.inl ⟨h0, e, h1, h2, h3, by omega⟩
  · exact Or.inr (Or.inl ⟨h0, h1, by omega⟩)
  · exact Or.inr (Or.inr (Or.inl ⟨h0, h1, by omega⟩))
  · exact Or.inr (Or.inr (Or.inr ⟨a, b, c, e, f, by omega⟩))
/-- n hops from token i at depth d to token j at depth e, none from a token of a kind in st at depth 0 -/
def Pth (K : Nat → Nat) (st : Nat → Prop) : Nat → Nat → Nat → Nat → Nat → Prop
  | 0, i, d, j, e => i = j ∧ d = e
  | n + 1, i, d, j, e => (d = 0 → ¬ st (K i)) ∧ ∃ i' d', Hop K i d i' d' ∧ Pth K st n i' d' j e
theorem Pth.app {K : Nat → Nat} {st : Nat → Prop} : ∀ {n k i d j e j' e' : Nat}, Pth K st n i d j e → Pth K st k j e j' e' → Pth K st (n + k) i d j' e'
  | 0, k, i, d, j, e, j', e', ⟨h1, h2⟩, g => by subst h1 h2; rw [Nat.zero_add]; exact g
  | n + 1, k, i, d, j, e, j', e', ⟨h1, i', d', h2, h3⟩, g => by
    rw [show n + 1 + k = (n + k) + 1 by omega]
    exact ⟨h1, i', d', h2, Pth.app h3 g⟩
theorem Pth.up {K : Nat → Nat} {st st' : Nat → Prop} : ∀ {n i d j e : Nat}, Pth K st n i d j e → Pth K st' n i (d + 1) j (e + 1)
  | 0, i, d, j, e, ⟨h1, h2⟩ => ⟨h1, by omega⟩
  | n + 1, i, d, j, e, ⟨_, i', d', h2, h3⟩ => ⟨fun h => by omega, i', d' + 1, h2.up, Pth.up h3⟩
theorem Pth.mono {K : Nat → Nat} {st st' : Nat → Prop} (hs : ∀ k, st' k → st k) : ∀ {n i d j e : Nat}, Pth K st n i d j e → Pth K st' n i d j e
  | 0, i, d, j, e, h => h
  | n + 1, i, d, j, e, ⟨h1, i', d', h2, h3⟩ => ⟨fun h x => h1 h (hs _ x), i', d', h2, Pth.mono hs h3⟩
theorem Pth.one {K : Nat → Nat} {st : Nat → Prop} {i d i' d' : Nat} (h : Hop K i d i' d') (h1 : d = 0 → ¬ st (K i)) : Pth K st 1 i d i' d' := ⟨h1, i', d', h, rfl, rfl⟩
theorem Pth.len {K : Nat → Nat} {st : Nat → Prop} : ∀ {n i d j e : Nat}, Pth K st n i d j e → i + n ≤ j
  | 0, i, d, j, e, ⟨h1, _⟩ => by omega
  | n + 1, i, d, j, e, ⟨_, i', d', h2, h3⟩ => by have := h2.lt; have := Pth.len h3; omega
/-- a piece outside whose brackets no block begins or ends -/
theorem Lay.pth {K : Nat → Nat} {st : Nat → Prop} {a b d : Nat} (h : Lay K a b) (hb : b < 2 ^ 17) (ht : ∀ i, Top K a b i → ¬ opb (K i) ∧ K i ≠ 13 ∧ ¬ st (K i)) : ∀ (n i : Nat), b - i ≤ n → a ≤ i → i ≤ b → dp K a i = 0 → ∃ k, Pth K st k i d b d
  | 0, i, h1, h2, h3, h4 => by
    have : i = b := by omega
    subst this
    exact ⟨0, rfl, rfl⟩
  | n + 1, i, h1, h2, h3, h4 => by
    by_cases e : i = b
    · subst e; exact ⟨0, rfl, rfl⟩
    · have hti : Top K a b i := ⟨h2, by omega, h4⟩
      obtain ⟨k1, k2, k3⟩ := ht i hti
      by_cases o : K i = 50 ∨ K i = 52
      · obtain ⟨e, g1, g2, g3, g4⟩ := h.hop hti o hb
        obtain ⟨k, hp⟩ := Lay.pth (d := d) h hb ht n (e + 1) (by omega) (by omega) (by omega) g4
        exact ⟨k + 1, fun _ => k3, e + 1, d, Or.inl ⟨o, e, g1, g2, rfl, rfl⟩, hp⟩
      · obtain ⟨k, hp⟩ := Lay.pth (d := d) h hb ht n (i + 1) (by omega) (by omega) (by omega) (h.step hti (fun x => o (Or.inl x)) (fun x => o (Or.inr x)))
        exact ⟨k + 1, fun _ => k3, i + 1, d, Or.inr (Or.inr (Or.inr ⟨fun x => o (Or.inl x), fun x => o (Or.inr x), k1, k2, rfl, rfl⟩)), hp⟩
theorem dpF_first {K : Nat → Nat} : ∀ (k a d : Nat), dpF K a d (k + 1) = dpF K (a + 1) (dpt (K a) d) k
  | 0, a, d => rfl
  | k + 1, a, d => by
    rw [dpF, dpF_first k a d]
    show _ = dpt (K (a + 1 + k)) _
    rw [show a + (k + 1) = a + 1 + k by omega]
theorem TopP.at' {K : Nat → Nat} {P : Nat → Prop} : ∀ {n a d : Nat}, TopP K P n a d → ∀ k, k < n → dpF K a d k = 0 → P (K (a + k))
  | 0, a, d, _, k, hk, _ => by omega
  | n + 1, a, d, h, 0, _, h0 => h.1 h0
  | n + 1, a, d, h, k + 1, hk, h0 => by
    rw [dpF_first] at h0
    have := TopP.at' h.2.2 k (by omega) h0
    rw [show a + (k + 1) = a + 1 + k by omega]
    exact this
theorem E13.top {K : Nat → Nat} {a b i : Nat} (h : E13 K a b) (t : Top K a b i) : K i ≠ 13 := by
  have h1 := t.1; have h2 := t.2.1
  have := h.2.at' (i - a) (by omega) t.2.2
  rw [show a + (i - a) = i by omega] at this
  exact this
def stB (k : Nat) : Prop := k = 11 ∨ k = 12 ∨ k = 13 ∨ k = 23
section Md
variable {T : Tks} {m N5 : Nat} {a5 : Nat → Int32}
variable {q1 q2 q3 q4 q5 q6 q7 q8 q9 q0 : Int32}
theorem opb_one {k : Nat} (hk : k < 57) : F_Mo_opensBlock (nI k) = 0 ↔ ¬ opb k := by
  unfold F_Mo_opensBlock opb
  have e : ∀ j, j < 57 → (nI k = nI j) = (k = j) := fun j hj => nI_eq' (by omega) (by omega)
  have e19 : (nI k = 19) = (k = 19) := e 19 (by omega)
  have e10 : (nI k = 10) = (k = 10) := e 10 (by omega)
  have e14 : (nI k = 14) = (k = 14) := e 14 (by omega)
  have e15 : (nI k = 15) = (k = 15) := e 15 (by omega)
  have e22 : (nI k = 22) = (k = 22) := e 22 (by omega)
  simp only [e19, e10, e14, e15, e22]
  by_cases c1 : k = 19
  · rw [if_pos c1]; exact ⟨fun h => absurd h (by decide), fun h => absurd (Or.inl c1) h⟩
  · rw [if_neg c1]
    by_cases c2 : k = 10
    · rw [if_pos c2]; exact ⟨fun h => absurd h (by decide), fun h => absurd (Or.inr (Or.inl c2)) h⟩
    · rw [if_neg c2]
      by_cases c3 : k = 14
      · rw [if_pos c3]; exact ⟨fun h => absurd h (by decide), fun h => absurd (Or.inr (Or.inr (Or.inl c3))) h⟩
      · rw [if_neg c3]
        by_cases c4 : k = 15
        · rw [if_pos c4]; exact ⟨fun h => absurd h (by decide), fun h => absurd (Or.inr (Or.inr (Or.inr (Or.inl c4)))) h⟩
        · rw [if_neg c4]
          by_cases c5 : k = 22
          · rw [if_pos c5]; exact ⟨fun h => absurd h (by decide), fun h => absurd (Or.inr (Or.inr (Or.inr (Or.inr c5)))) h⟩
          · rw [if_neg c5]; exact ⟨fun _ h => by omega, fun _ => rfl⟩
theorem Mo_be4 (hT : TkOK T m) (hk : KdIs m N5 a5 T.tkd) : ∀ (n fu i d j e : Nat), Pth T.tkd stB n i d j e → j < m → d ≤ i → F_Mo_branchEnd_4 q1 q2 q3 q4 q5 q6 q7 q8 q9 q0 N5 a5 (fu + n) (nI d) (nI i) = F_Mo_branchEnd_4 q1 q2 q3 q4 q5 q6 q7 q8 q9 q0 N5 a5 fu (nI e) (nI j)
  | 0, fu, i, d, j, e, ⟨h1, h2⟩, _, _ => by subst h1 h2; rfl
  | n + 1, fu, i, d, j, e, ⟨h1, i', d', h2, h3⟩, hj, hd => by
    have hle := hT.le
    have hlt := h2.lt
    have hlen := h3.len
    have hkl := hk.lt i
    have him : i < m := by omega
    have ek : ∀ p, p < 57 → (a5 (Int32.toNatClampNeg (nI i)) = nI p) = (T.tkd i = p) := fun p hp => Mo_kd hk him hp
    have e12 : (a5 (Int32.toNatClampNeg (nI i)) = 12) = (T.tkd i = 12) := ek 12 (by omega)
    have e11 : (a5 (Int32.toNatClampNeg (nI i)) = 11) = (T.tkd i = 11) := ek 11 (by omega)
    have e23 : (a5 (Int32.toNatClampNeg (nI i)) = 23) = (T.tkd i = 23) := ek 23 (by omega)
    have e13 : (a5 (Int32.toNatClampNeg (nI i)) = 13) = (T.tkd i = 13) := ek 13 (by omega)
    have e50 : (a5 (Int32.toNatClampNeg (nI i)) = 50) = (T.tkd i = 50) := ek 50 (by omega)
    have e52 : (a5 (Int32.toNatClampNeg (nI i)) = 52) = (T.tkd i = 52) := ek 52 (by omega)
    have hgo : F_Mo_branchEnd_48 q1 q2 q3 q4 q5 q6 q7 q8 q9 q0 N5 a5 (nI d) (nI i) (F_Mo_branchEnd_4 q1 q2 q3 q4 q5 q6 q7 q8 q9 q0 N5 a5 (fu + n)) = F_Mo_branchEnd_4 q1 q2 q3 q4 q5 q6 q7 q8 q9 q0 N5 a5 fu (nI e) (nI j) := by
      unfold F_Mo_branchEnd_48
      simp only [e50, e52, e13]
      rcases h2 with ⟨ho, c, g1, g2, g3, g4⟩ | ⟨ho, g1, g2⟩ | ⟨ho, g1, g2⟩ | ⟨o1, o2, o3, o4, g1, g2⟩
      · subst g3 g4
        rw [Mo_cl hk g1 (by omega) him, Option.bind_some, show nI c + 1 = nI (c + 1) from nI_add' c 1]
        have := Mo_be4 hT hk n fu (c + 1) d' j e h3 hj (by omega)
        by_cases o1 : T.tkd i = 50
        · rw [if_pos o1]; exact this
        · rw [if_neg o1, if_pos (ho.resolve_left o1)]; exact this
      · subst g1 g2
        have hno : T.tkd i ≠ 50 ∧ T.tkd i ≠ 52 := by unfold opb at ho; omega
        rw [if_neg hno.1, if_neg hno.2, Mo_a5 hk him]
        unfold nm
        dsimp only
        rw [if_neg (fun x => (opb_one hkl).mp x ho), show nI d + 1 = nI (d + 1) from nI_add' d 1, show nI i + 1 = nI (i + 1) from nI_add' i 1]
        exact Mo_be4 hT hk n fu (i + 1) (d + 1) j e h3 hj (by omega)
      · subst g1 g2
        rw [if_neg (by omega), if_neg (by omega), Mo_a5 hk him]
        unfold nm
        dsimp only
        rw [if_pos ((opb_one hkl).mpr (fun x => by unfold opb at x; omega)), if_pos ho, nI_p1, show nI i + 1 = nI (i + 1) from nI_add' i 1]
        exact Mo_be4 hT hk n fu (i + 1) d' j e h3 hj (by omega)
      · subst g1 g2
        rw [if_neg o1, if_neg o2, Mo_a5 hk him]
        unfold nm
        dsimp only
        rw [if_pos ((opb_one hkl).mpr o3), if_neg o4, show nI i + 1 = nI (i + 1) from nI_add' i 1]
        exact Mo_be4 hT hk n fu (i + 1) d' j e h3 hj (by omega)
    rw [show fu + (n + 1) = fu + n + 1 from rfl, F_Mo_branchEnd_4, Mo_at hk him, Option.bind_some]
    simp only [e12, e11, e23, e13]
    by_cases c : d = 0
    · have := h1 c
      unfold stB at this
      rw [if_pos (show nI d = 0 by rw [c]; rfl), if_neg (by omega), if_neg (by omega), if_neg (by omega), if_neg (by omega)]
      exact hgo
    · rw [if_neg (show ¬ nI d = 0 by rw [show (0 : Int32) = nI 0 from rfl, nI_eq' (by omega) (by omega)]; exact c)]
      exact hgo
/-- the end of a branch -/
theorem Mo_be (hT : TkOK T m) (hk : KdIs m N5 a5 T.tkd) {n i j : Nat} (h : Pth T.tkd stB n i 0 j 0) (hj : j < m) (hs : stB (T.tkd j)) : F_Mo_branchEnd (nI i) q1 q2 q3 q4 q5 q6 q7 q8 q9 q0 N5 a5 = some (nI j) := by
  have hle := hT.le
  have hlen := h.len
  unfold F_Mo_branchEnd
  have e := Mo_be4 hT hk (q1 := q1) (q2 := q2) (q3 := q3) (q4 := q4) (q5 := q5) (q6 := q6) (q7 := q7) (q8 := q8) (q9 := q9) (q0 := q0) n (FU - n - 1 + 1) i 0 j 0 h hj (Nat.zero_le _)
  rw [show FU - n - 1 + 1 + n = FU by unfold FU; omega] at e
  have ek : ∀ p, p < 57 → (a5 (Int32.toNatClampNeg (nI j)) = nI p) = (T.tkd j = p) := fun p hp => Mo_kd hk hj hp
  have e12 : (a5 (Int32.toNatClampNeg (nI j)) = 12) = (T.tkd j = 12) := ek 12 (by omega)
  have e11 : (a5 (Int32.toNatClampNeg (nI j)) = 11) = (T.tkd j = 11) := ek 11 (by omega)
  have e23 : (a5 (Int32.toNatClampNeg (nI j)) = 23) = (T.tkd j = 23) := ek 23 (by omega)
  have e13 : (a5 (Int32.toNatClampNeg (nI j)) = 13) = (T.tkd j = 13) := ek 13 (by omega)
  refine e.trans ?_
  rw [F_Mo_branchEnd_4, Mo_at hk hj, Option.bind_some, if_pos (show nI 0 = (0 : Int32) from rfl)]
  simp only [e12, e11, e23, e13]
  unfold stB at hs
  by_cases c1 : T.tkd j = 12
  · rw [if_pos c1]
  · rw [if_neg c1]
    by_cases c2 : T.tkd j = 11
    · rw [if_pos c2]
    · rw [if_neg c2]
      by_cases c3 : T.tkd j = 23
      · rw [if_pos c3]
      · rw [if_neg c3, if_pos (by omega)]
end Md
end
