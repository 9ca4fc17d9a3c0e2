section
section Md
variable {T : Tks} {m N5 N6 : Nat} {a5 a6 : Nat → Int32}
variable {q1 q2 q3 q4 q5 q6 q7 q8 q9 q0 z6 : Int32}
/-- the nodes of a list of names -/
theorem Mo_nn3 (hT : TkOK T m) (hk : KdIs m N5 a5 T.tkd) (hp6 : PlIs m N6 a6 T) {tg : Bool} {a p to : Nat} {C : NC} {f : NFn} {G : Tr Lb} (h : NdS C f G) (hp : Tr.OnP G p) (hto : to ≤ m) : ∀ (n : Nat) (t : Tr Lb), NmL T tg a n t → Tr.sz G + n ≤ 16400 → (0 < n → a + 2 * n ≤ to + 1) →
    ∃ (C' : NC) (f' : NFn) (c s : Nat), NdS C' f' (Tr.appAt t G p) ∧ GrowA C C' c s ∧ ∀ fu R c' s', F_Mo_nameNodes_3 (nI p) (nI to) q1 q2 q3 q4 q5 q6 q7 q8 q9 q0 N5 a5 z6 N6 a6 fu (nI (a + 2 * n)) (nI (Tr.sz G + n)) C'.1 f'.1 (nI (Tr.sz G + n)) C'.2.1 f'.2.1 (nI (Tr.sz G + n)) C'.2.2.1 f'.2.2.1 (nI (Tr.sz G + n)) C'.2.2.2.1 f'.2.2.2.1 (nI (Tr.sz G + n)) C'.2.2.2.2.1 f'.2.2.2.2.1 (nI (Tr.sz G + n)) C'.2.2.2.2.2.1 f'.2.2.2.2.2.1 (nI (Tr.sz G + n)) C'.2.2.2.2.2.2.1 f'.2.2.2.2.2.2.1 (nI (Tr.sz G + n)) C'.2.2.2.2.2.2.2 f'.2.2.2.2.2.2.2 = some (R, c', s') → F_Mo_nameNodes_3 (nI p) (nI to) q1 q2 q3 q4 q5 q6 q7 q8 q9 q0 N5 a5 z6 N6 a6 (fu + n) (nI a) (nI (Tr.sz G)) C.1 f.1 (nI (Tr.sz G)) C.2.1 f.2.1 (nI (Tr.sz G)) C.2.2.1 f.2.2.1 (nI (Tr.sz G)) C.2.2.2.1 f.2.2.2.1 (nI (Tr.sz G)) C.2.2.2.2.1 f.2.2.2.2.1 (nI (Tr.sz G)) C.2.2.2.2.2.1 f.2.2.2.2.2.1 (nI (Tr.sz G)) C.2.2.2.2.2.2.1 f.2.2.2.2.2.2.1 (nI (Tr.sz G)) C.2.2.2.2.2.2.2 f.2.2.2.2.2.2.2 = some (R, c + c', s + s')
  | 0, t, ht, _, _ => by
    have ht : t = .leaf := ht
    subst ht
    refine ⟨C, f, 0, 0, by rw [Tr.appAt_nil]; exact h, GrowA.rfl, fun fu R c' s' hh => ?_⟩
    rw [Nat.zero_add, Nat.zero_add]
    exact hh
  | n + 1, t, ⟨t0, h1, h2, h3⟩, hsz, hn => by
    have hle := hT.le
    have hn := hn (by omega)
    obtain ⟨C1, f1, c1, s1, g1, g2, g3⟩ := Mo_nn3 hT hk hp6 h hp hto n t0 h1 (by omega) (fun _ => by omega)
    have hs0 : Tr.sz t0 = n := h1.sz
    have hG1 : Tr.sz (Tr.appAt t0 G p) = Tr.sz G + n := by rw [Tr.sz_appAt G p hp, hs0]
    have hp1 : Tr.OnP (Tr.appAt t0 G p) p := Tr.OnP_le G p p hp hp (Nat.le_refl _)
    have him : a + 2 * n < m := by omega
    have e2 : (a5 (Int32.toNatClampNeg (nI (a + 2 * n))) = 2) = (T.tkd (a + 2 * n) = 2) := Mo_kd hk him (p := 2) (by omega)
    have hsz1 : nI (Tr.sz G + n) + 1 = nI (Tr.sz G + (n + 1)) := nI_add' _ 1
    have step : ∀ (k w : Int32), t = Tr.app t0 (Tr.nd (k, T.tpl (a + 2 * n), -1, w, nI (a + 2 * n)) .leaf) → (if T.tkd (a + 2 * n) = 2 then (32 : Int32) else 5) = k → ∃ (C' : NC) (f' : NFn) (c s : Nat), NdS C' f' (Tr.appAt t G p) ∧ GrowA C C' c s ∧ ∀ fu R c' s', F_Mo_nameNodes_3 (nI p) (nI to) q1 q2 q3 q4 q5 q6 q7 q8 q9 q0 N5 a5 z6 N6 a6 fu (nI (a + 2 * (n + 1))) (nI (Tr.sz G + (n + 1))) C'.1 f'.1 (nI (Tr.sz G + (n + 1))) C'.2.1 f'.2.1 (nI (Tr.sz G + (n + 1))) C'.2.2.1 f'.2.2.1 (nI (Tr.sz G + (n + 1))) C'.2.2.2.1 f'.2.2.2.1 (nI (Tr.sz G + (n + 1))) C'.2.2.2.2.1 f'.2.2.2.2.1 (nI (Tr.sz G + (n + 1))) C'.2.2.2.2.2.1 f'.2.2.2.2.2.1 (nI (Tr.sz G + (n + 1))) C'.2.2.2.2.2.2.1 f'.2.2.2.2.2.2.1 (nI (Tr.sz G + (n + 1))) C'.2.2.2.2.2.2.2 f'.2.2.2.2.2.2.2 = some (R, c', s') → F_Mo_nameNodes_3 (nI p) (nI to) q1 q2 q3 q4 q5 q6 q7 q8 q9 q0 N5 a5 z6 N6 a6 (fu + (n + 1)) (nI a) (nI (Tr.sz G)) C.1 f.1 (nI (Tr.sz G)) C.2.1 f.2.1 (nI (Tr.sz G)) C.2.2.1 f.2.2.1 (nI (Tr.sz G)) C.2.2.2.1 f.2.2.2.1 (nI (Tr.sz G)) C.2.2.2.2.1 f.2.2.2.2.1 (nI (Tr.sz G)) C.2.2.2.2.2.1 f.2.2.2.2.2.1 (nI (Tr.sz G)) C.2.2.2.2.2.2.1 f.2.2.2.2.2.2.1 (nI (Tr.sz G)) C.2.2.2.2.2.2.2 f.2.2.2.2.2.2.2 = some (R, c + c', s + s') := by
      intro k w ht hkk
      obtain ⟨C2, f2, c2, s2, w1, w2, w3⟩ := Mo_leaf hT hp6 (q1 := q1) (q2 := q2) (q3 := q3) (q4 := q4) (q5 := q5) (q6 := q6) (q7 := q7) (q8 := q8) (q9 := q9) (z6 := z6) (k := k) (i := a + 2 * n) g1 hp1 (by rw [hG1]; omega) him w
      rw [hG1] at w1
      rw [Tr.appAt_app G p hp, ← ht] at w2
      refine ⟨C2, f2, c1 + c2, s1 + s2, w2, g2.trans w3, fun fu R c' s' hh => ?_⟩
      rw [show fu + (n + 1) = fu + 1 + n by omega, show c1 + c2 + c' = c1 + (c2 + c') by omega, show s1 + s2 + s' = s1 + (s2 + s') by omega]
      refine g3 (fu + 1) R _ _ ?_
      rw [F_Mo_nameNodes_3, if_neg (show ¬ nI to ≤ nI (a + 2 * n) by rw [nI_le' (by omega) (by omega)]; omega), Mo_at hk him, Option.bind_some]
      simp only [e2]
      have e4 : nI (a + 2 * n) + 2 = nI (a + 2 * (n + 1)) := nI_add' _ 2
      rw [hsz1, e4]
      by_cases c0 : T.tkd (a + 2 * n) = 2
      · rw [if_pos c0] at hkk ⊢
        rw [hkk]
        exact bw_ok w1 hh
      · rw [if_neg c0] at hkk ⊢
        rw [hkk]
        exact bw_ok w1 hh
    rcases h3 with ⟨h3, h4⟩ | ⟨_, h3, h4⟩
    · exact step 32 (T.twd (a + 2 * n)) h4 (if_pos h3)
    · exact step 5 1 h4 (if_neg (by omega))
theorem Mo_nn (hT : TkOK T m) (hk : KdIs m N5 a5 T.tkd) (hp6 : PlIs m N6 a6 T) {tg : Bool} {a p to n : Nat} {t : Tr Lb} {C : NC} {f : NFn} {G : Tr Lb} (h : NdS C f G) (hp : Tr.OnP G p) (hto : to ≤ m) (ht : NmL T tg a n t) (hsz : Tr.sz G + n ≤ 16400) (hn : (n = 0 ∧ to ≤ a) ∨ (0 < n ∧ to + 1 = a + 2 * n)) (ha : a ≤ 20000) :
    ∃ (C' : NC) (f' : NFn) (c s : Nat), F_Mo_nameNodes (nI p) (nI a) (nI to) q1 q2 q3 q4 q5 q6 q7 q8 q9 q0 N5 a5 z6 N6 a6 (nI (Tr.sz G)) C.1 f.1 (nI (Tr.sz G)) C.2.1 f.2.1 (nI (Tr.sz G)) C.2.2.1 f.2.2.1 (nI (Tr.sz G)) C.2.2.2.1 f.2.2.2.1 (nI (Tr.sz G)) C.2.2.2.2.1 f.2.2.2.2.1 (nI (Tr.sz G)) C.2.2.2.2.2.1 f.2.2.2.2.2.1 (nI (Tr.sz G)) C.2.2.2.2.2.2.1 f.2.2.2.2.2.2.1 (nI (Tr.sz G)) C.2.2.2.2.2.2.2 f.2.2.2.2.2.2.2 = some ((nI (Tr.sz G + n), nI (Tr.sz G + n), nI (Tr.sz G + n), nI (Tr.sz G + n), nI (Tr.sz G + n), nI (Tr.sz G + n), nI (Tr.sz G + n), nI (Tr.sz G + n), C'.1, f'.1, C'.2.1, f'.2.1, C'.2.2.1, f'.2.2.1, C'.2.2.2.1, f'.2.2.2.1, C'.2.2.2.2.1, f'.2.2.2.2.1, C'.2.2.2.2.2.1, f'.2.2.2.2.2.1, C'.2.2.2.2.2.2.1, f'.2.2.2.2.2.2.1, C'.2.2.2.2.2.2.2, f'.2.2.2.2.2.2.2), c, s) ∧ NdS C' f' (Tr.appAt t G p) ∧ GrowA C C' c s := by
  have hle := hT.le
  obtain ⟨C1, f1, c1, s1, g1, g2, g3⟩ := Mo_nn3 hT hk hp6 (q1 := q1) (q2 := q2) (q3 := q3) (q4 := q4) (q5 := q5) (q6 := q6) (q7 := q7) (q8 := q8) (q9 := q9) (q0 := q0) (z6 := z6) h hp hto n t ht hsz (fun _ => by omega)
  refine ⟨C1, f1, c1 + 0, s1 + 0, ?_, g1, g2⟩
  unfold F_Mo_nameNodes
  have e : FU = (FU - n - 1 + 1) + n := by unfold FU; omega
  have w := g3 (FU - n - 1 + 1) ((nI (Tr.sz G + n), nI (Tr.sz G + n), nI (Tr.sz G + n), nI (Tr.sz G + n), nI (Tr.sz G + n), nI (Tr.sz G + n), nI (Tr.sz G + n), nI (Tr.sz G + n), C1.1, f1.1, C1.2.1, f1.2.1, C1.2.2.1, f1.2.2.1, C1.2.2.2.1, f1.2.2.2.1, C1.2.2.2.2.1, f1.2.2.2.2.1, C1.2.2.2.2.2.1, f1.2.2.2.2.2.1, C1.2.2.2.2.2.2.1, f1.2.2.2.2.2.2.1, C1.2.2.2.2.2.2.2, f1.2.2.2.2.2.2.2)) 0 0 (by
    rw [F_Mo_nameNodes_3, if_pos (show nI to ≤ nI (a + 2 * n) by rw [nI_le' (by omega) (by omega)]; omega)])
  rw [← e] at w
  exact w
end Md
end
