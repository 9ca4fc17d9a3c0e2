section
/-- the reference's texts: places, ends, characters -/
abbrev TxA (n : Nat) (x : Nat → Nat) (N6 : Nat) (a6 : Nat → Int32) (N7 : Nat) (a7 : Nat → Int32) (N4 : Nat) (a4 : Nat → Int32) : Prop := (∀ i, i < (cutE n x).length → a6 i = nI ((cutE n x).getD i (0, 0, 0)).2.1) ∧ (∀ i, i < (cutE n x).length → a7 i = nI ((cutE n x).getD i (0, 0, 0)).2.2) ∧ (∀ i, i < n → a4 i = nI (x i)) ∧ ((cutE n x).length ≤ N6) ∧ ((cutE n x).length ≤ N7) ∧ (n ≤ N4)
theorem TxA.pl {n : Nat} {x : Nat → Nat} {N6 : Nat} {a6 : Nat → Int32} {N7 : Nat} {a7 : Nat → Int32} {N4 : Nat} {a4 : Nat → Int32} (h : TxA n x N6 a6 N7 a7 N4 a4) : ∀ i, i < (cutE n x).length → a6 i = nI ((cutE n x).getD i (0, 0, 0)).2.1 := h.1
theorem TxA.en {n : Nat} {x : Nat → Nat} {N6 : Nat} {a6 : Nat → Int32} {N7 : Nat} {a7 : Nat → Int32} {N4 : Nat} {a4 : Nat → Int32} (h : TxA n x N6 a6 N7 a7 N4 a4) : ∀ i, i < (cutE n x).length → a7 i = nI ((cutE n x).getD i (0, 0, 0)).2.2 := h.2.1
theorem TxA.ch {n : Nat} {x : Nat → Nat} {N6 : Nat} {a6 : Nat → Int32} {N7 : Nat} {a7 : Nat → Int32} {N4 : Nat} {a4 : Nat → Int32} (h : TxA n x N6 a6 N7 a7 N4 a4) : ∀ i, i < n → a4 i = nI (x i) := h.2.2.1
theorem TxA.n6 {n : Nat} {x : Nat → Nat} {N6 : Nat} {a6 : Nat → Int32} {N7 : Nat} {a7 : Nat → Int32} {N4 : Nat} {a4 : Nat → Int32} (h : TxA n x N6 a6 N7 a7 N4 a4) : (cutE n x).length ≤ N6 := h.2.2.2.1
theorem TxA.n7 {n : Nat} {x : Nat → Nat} {N6 : Nat} {a6 : Nat → Int32} {N7 : Nat} {a7 : Nat → Int32} {N4 : Nat} {a4 : Nat → Int32} (h : TxA n x N6 a6 N7 a7 N4 a4) : (cutE n x).length ≤ N7 := h.2.2.2.2.1
theorem TxA.n4 {n : Nat} {x : Nat → Nat} {N6 : Nat} {a6 : Nat → Int32} {N7 : Nat} {a7 : Nat → Int32} {N4 : Nat} {a4 : Nat → Int32} (h : TxA n x N6 a6 N7 a7 N4 a4) : n ≤ N4 := h.2.2.2.2.2
section Nm
variable {n : Nat} {x : Nat → Nat} {N6 N7 N4 : Nat} {a6 a7 a4 : Nat → Int32}
variable {q1 q2 q3 q4 q5 q6 q7 q8 q9 z4 z6 z7 : Int32}
/-- a name lies in the text -/
theorem nm_in (ht : TextIs n x) {a : Nat} (ha : a < (cutE n x).length) (hk : (tkT n x).tkd a = 2) : ((cutE n x).getD a (0, 0, 0)).2.1 < ((cutE n x).getD a (0, 0, 0)).2.2 ∧ ((cutE n x).getD a (0, 0, 0)).2.2 ≤ n := by
  obtain ⟨f, p, hs⟩ := cut_suf ht a ha
  have hk : ((cutE n x).getD a (0, 0, 0)).1 = 2 := hk
  rw [hs.at] at hk ⊢
  have hk : cutK n x a p = 2 := hk
  rcases hs.next ht with ⟨h, _⟩ | ⟨_, _, _, h1, h2, _⟩
  · omega
  · exact ⟨h1, h2⟩
theorem Mo_sn49 (ht : TextIs n x) (hx : TxA n x N6 a6 N7 a7 N4 a4) {a b w : Nat} (ha : a < (cutE n x).length) (hb : b < (cutE n x).length) (hw : ((cutE n x).getD a (0, 0, 0)).2.2 = ((cutE n x).getD a (0, 0, 0)).2.1 + w) (hwa : ((cutE n x).getD a (0, 0, 0)).2.1 + w ≤ n) (hwb : ((cutE n x).getD b (0, 0, 0)).2.1 + w ≤ n) : ∀ (fu v : Nat), w - v < fu → v ≤ w →
    F_Mo_sameName_49 (nI a) (nI b) a7 z6 N6 a6 z4 N4 a4 fu (nI v) 1 = some (if ((List.range' v (w - v)).all fun k => x (((cutE n x).getD a (0, 0, 0)).2.1 + k) == x (((cutE n x).getD b (0, 0, 0)).2.1 + k)) = true then 1 else 0)
  | 0, v, h, _ => by omega
  | fu + 1, v, h, hv => by
    have h4 := ht.le
    have hm := (tkOK ht).le
    have hn6 := hx.n6
    have hn4 := hx.n4
    have ea : a7 (Int32.toNatClampNeg (nI a)) - a6 (Int32.toNatClampNeg (nI a)) = nI w := by
      rw [nI_clamp' (by omega), hx.en a ha, hx.pl a ha, hw, nI_sub' (by omega)]
      congr 1
      omega
    rw [F_Mo_sameName_49, ea]
    by_cases c : v = w
    · subst c
      rw [if_pos (show nI v ≤ nI v by rw [nI_le' (by omega) (by omega)]; omega), Nat.sub_self]
      rfl
    · rw [if_neg (show ¬ nI w ≤ nI v by rw [nI_le' (by omega) (by omega)]; omega), if_neg (show ¬ (1 : Int32) = 0 by decide)]
      have hia : F_Nm_at (nI a) z6 N6 a6 = some () := Nm_at (by omega) (by omega)
      have hib : F_Nm_at (nI b) z6 N6 a6 = some () := Nm_at (by omega) (by omega)
      rw [hia, Option.bind_some, nI_clamp' (show a < 2 ^ 31 by omega), nI_clamp' (show b < 2 ^ 31 by omega), hx.pl a ha, hx.pl b hb, nI_add', nI_add', Nm_at (by omega) (by omega), Option.bind_some, hib, Option.bind_some, Nm_at (by omega) (by omega), Option.bind_some, nI_clamp' (by omega), nI_clamp' (by omega), hx.ch _ (by omega), hx.ch _ (by omega), show nI v + 1 = nI (v + 1) from nI_add' v 1]
      have hba := ht.byte (((cutE n x).getD a (0, 0, 0)).2.1 + v) (by omega)
      have hbb := ht.byte (((cutE n x).getD b (0, 0, 0)).2.1 + v) (by omega)
      rw [show w - v = (w - (v + 1)) + 1 by omega, List.range'_succ, List.all_cons]
      by_cases d : x (((cutE n x).getD a (0, 0, 0)).2.1 + v) = x (((cutE n x).getD b (0, 0, 0)).2.1 + v)
      · rw [if_pos (by rw [d]), Mo_sn49 ht hx ha hb hw hwa hwb fu (v + 1) (by omega) (by omega), d, beq_self_eq_true, Bool.true_and]
      · rw [if_neg (by rw [nI_eq' (by omega) (by omega)]; exact d)]
        rw [show (x (((cutE n x).getD a (0, 0, 0)).2.1 + v) == x (((cutE n x).getD b (0, 0, 0)).2.1 + v)) = false from beq_eq_false_iff_ne.mpr d, Bool.false_and, if_neg Bool.false_ne_true]
        obtain ⟨f2, rfl⟩ : ∃ f2, fu = f2 + 1 := ⟨fu - 1, by omega⟩
        rw [F_Mo_sameName_49, ea]
        by_cases e : nI w ≤ nI (v + 1)
        · rw [if_pos e]
        · rw [if_neg e, if_pos rfl]
theorem Mo_same (ht : TextIs n x) (hx : TxA n x N6 a6 N7 a7 N4 a4) {a b : Nat} (ha : a < (cutE n x).length) (hb : b < (cutE n x).length) (hka : (tkT n x).tkd a = 2) (hkb : (tkT n x).tkd b = 2) :
    F_Mo_sameName (nI a) (nI b) q1 q2 q3 q4 q5 q6 q7 q8 q9 z7 N7 a7 z6 N6 a6 z4 N4 a4 = some (if sameT (tkT n x) (smI n x) a b = true then 1 else 0) := by
  have h4 := ht.le
  have hm := (tkOK ht).le
  have hn6 := hx.n6
  have hn7 := hx.n7
  obtain ⟨pa, pa2⟩ := nm_in ht ha hka
  obtain ⟨pb, pb2⟩ := nm_in ht hb hkb
  unfold F_Mo_sameName
  rw [Nm_at (show a < N7 by omega) (by omega), Option.bind_some, Nm_at (show a < N6 by omega) (by omega), Option.bind_some, Nm_at (show b < N7 by omega) (by omega), Option.bind_some, Nm_at (show b < N6 by omega) (by omega), Option.bind_some]
  have ea : a7 (Int32.toNatClampNeg (nI a)) - a6 (Int32.toNatClampNeg (nI a)) = nI (((cutE n x).getD a (0, 0, 0)).2.2 - ((cutE n x).getD a (0, 0, 0)).2.1) := by
    rw [nI_clamp' (by omega), hx.en a ha, hx.pl a ha, nI_sub' (by omega)]
  have eb : a7 (Int32.toNatClampNeg (nI b)) - a6 (Int32.toNatClampNeg (nI b)) = nI (((cutE n x).getD b (0, 0, 0)).2.2 - ((cutE n x).getD b (0, 0, 0)).2.1) := by
    rw [nI_clamp' (by omega), hx.en b hb, hx.pl b hb, nI_sub' (by omega)]
  rw [ea, eb]
  unfold sameT
  have ta : (tkT n x).twd a = nI (((cutE n x).getD a (0, 0, 0)).2.2 - ((cutE n x).getD a (0, 0, 0)).2.1) := rfl
  have tb : (tkT n x).twd b = nI (((cutE n x).getD b (0, 0, 0)).2.2 - ((cutE n x).getD b (0, 0, 0)).2.1) := rfl
  have tpa : (tkT n x).tpl a = nI ((cutE n x).getD a (0, 0, 0)).2.1 := rfl
  have tpb : (tkT n x).tpl b = nI ((cutE n x).getD b (0, 0, 0)).2.1 := rfl
  rw [ta, tb, tpa, tpb]
  by_cases c : ((cutE n x).getD a (0, 0, 0)).2.2 - ((cutE n x).getD a (0, 0, 0)).2.1 = ((cutE n x).getD b (0, 0, 0)).2.2 - ((cutE n x).getD b (0, 0, 0)).2.1
  · rw [if_pos (by rw [c]), c, beq_self_eq_true, Bool.true_and]
    have h1 := Mo_sn49 (z4 := z4) (z6 := z6) ht hx (w := ((cutE n x).getD b (0, 0, 0)).2.2 - ((cutE n x).getD b (0, 0, 0)).2.1) ha hb (by omega) (by omega) (by omega) FU 0 (by unfold FU; omega) (by omega)
    refine Eq.trans h1 ?_
    congr 1
    have key : ((List.range' 0 (((cutE n x).getD b (0, 0, 0)).2.2 - ((cutE n x).getD b (0, 0, 0)).2.1 - 0)).all fun k => x (((cutE n x).getD a (0, 0, 0)).2.1 + k) == x (((cutE n x).getD b (0, 0, 0)).2.1 + k)) = smI n x (nI ((cutE n x).getD a (0, 0, 0)).2.1) (nI ((cutE n x).getD b (0, 0, 0)).2.1) (nI (((cutE n x).getD b (0, 0, 0)).2.2 - ((cutE n x).getD b (0, 0, 0)).2.1)) := by
      unfold smI
      rw [nI_clamp' (by omega), Nat.sub_zero, ← List.range_eq_range', Bool.eq_iff_iff, List.all_eq_true, List.all_eq_true]
      have pt : ∀ k, k < ((cutE n x).getD b (0, 0, 0)).2.2 - ((cutE n x).getD b (0, 0, 0)).2.1 → ((x (((cutE n x).getD a (0, 0, 0)).2.1 + k) == x (((cutE n x).getD b (0, 0, 0)).2.1 + k)) = true ↔ (chI n x (nI ((cutE n x).getD a (0, 0, 0)).2.1 + nI k) == chI n x (nI ((cutE n x).getD b (0, 0, 0)).2.1 + nI k)) = true) := by
        intro k hk
        have hba := ht.byte (((cutE n x).getD a (0, 0, 0)).2.1 + k) (by omega)
        have hbb := ht.byte (((cutE n x).getD b (0, 0, 0)).2.1 + k) (by omega)
        have ci : ∀ p, p < n → chI n x (nI p) = nI (x p) := by
          intro p hp
          unfold chI
          rw [if_neg (show ¬ nI p < 0 by rw [nI_nn (by omega)]; exact id), nI_clamp' (by omega)]
          unfold chr
          rw [if_pos hp]
        rw [nI_add', nI_add', ci _ (by omega), ci _ (by omega), beq_iff_eq, beq_iff_eq, nI_eq' (by omega) (by omega)]
      constructor
      · intro h k hk
        exact (pt k (List.mem_range.mp hk)).mp (h k hk)
      · intro h k hk
        exact (pt k (List.mem_range.mp hk)).mpr (h k hk)
    rw [key]
  · rw [if_neg (by rw [nI_eq' (by omega) (by omega)]; exact c)]
    rw [show (nI (((cutE n x).getD a (0, 0, 0)).2.2 - ((cutE n x).getD a (0, 0, 0)).2.1) == nI (((cutE n x).getD b (0, 0, 0)).2.2 - ((cutE n x).getD b (0, 0, 0)).2.1)) = false from beq_eq_false_iff_ne.mpr (by rw [ne_eq, nI_eq' (by omega) (by omega)]; exact c), Bool.false_and, if_neg Bool.false_ne_true]
    rw [show FU = (FU - 1) + 1 by unfold FU; omega, F_Mo_sameName_49]
    by_cases e : a7 (Int32.toNatClampNeg (nI a)) - a6 (Int32.toNatClampNeg (nI a)) ≤ 0
    · rw [if_pos e]
    · rw [if_neg e, if_pos rfl]
end Nm
end
