section
section Nm
variable {n : Nat} {x : Nat → Nat} {N5 N6 N7 N4 : Nat} {a5 a6 a7 a4 : Nat → Int32}
variable {q1 q2 q3 q4 q5 q6 q7 q8 q9 z4 z5 z6 z7 : Int32}
/-- whether two tokens of the text are the same name -/
abbrev SNm (n : Nat) (x : Nat → Nat) : Nat → Nat → Bool := sameT (tkT n x) (smI n x)
theorem Mo_nm21 (ht : TextIs n x) (hx : TxA n x N6 a6 N7 a7 N4 a4) {a j : Nat} {bad : Int32} {Kf : Int32 → Option (Int32 × Int32 × Int32)} (ha : a + 2 * j < (cutE n x).length) (hkj : (tkT n x).tkd (a + 2 * j) = 2) (hkk : ∀ k, k < j → (tkT n x).tkd (a + 2 * k) = 2) : ∀ (fu k : Nat), j - k < fu → k ≤ j →
    F_Mo_readNames_21 q1 q2 q3 q4 (nI a) bad q5 q6 q7 z5 N5 a5 z7 N7 a7 z6 N6 a6 z4 N4 a4 (nI (a + 2 * j)) Kf fu (nI (a + 2 * k)) 1 = F_Mo_readNames_58 q1 q2 q3 q4 (nI a) bad q5 q6 q7 z5 N5 a5 (nI (a + 2 * j)) Kf 0 (if ((List.range' k (j - k)).any fun i => SNm n x (a + 2 * i) (a + 2 * j)) = true then 0 else 1)
  | 0, k, h, _ => by omega
  | fu + 1, k, h, hkj2 => by
    have hm := (tkOK ht).le
    rw [F_Mo_readNames_21]
    by_cases c : k = j
    · subst c
      rw [if_pos (show nI (a + 2 * k) ≤ nI (a + 2 * k) by rw [nI_le' (by omega) (by omega)]; omega), Nat.sub_self]
      rfl
    · rw [if_neg (show ¬ nI (a + 2 * j) ≤ nI (a + 2 * k) by rw [nI_le' (by omega) (by omega)]; omega), if_neg (show ¬ (1 : Int32) = 0 by decide), Mo_same ht hx (by omega) ha (hkk k (by omega)) hkj, Option.bind_some, show nI (a + 2 * k) + 2 = nI (a + 2 * (k + 1)) from nI_add' _ 2]
      rw [show j - k = (j - (k + 1)) + 1 by omega, List.range'_succ, List.any_cons]
      by_cases d : sameT (tkT n x) (smI n x) (a + 2 * k) (a + 2 * j) = true
      · rw [if_pos d, if_neg (show ¬ (1 : Int32) = 0 by decide), show SNm n x (a + 2 * k) (a + 2 * j) = true from d, Bool.true_or, if_pos rfl]
        obtain ⟨f2, rfl⟩ : ∃ f2, fu = f2 + 1 := ⟨fu - 1, by omega⟩
        rw [F_Mo_readNames_21]
        by_cases e : nI (a + 2 * j) ≤ nI (a + 2 * (k + 1))
        · rw [if_pos e]; rfl
        · rw [if_neg e, if_pos rfl]; rfl
      · rw [if_neg d, if_pos rfl, Mo_nm21 ht hx ha hkj hkk fu (k + 1) (by omega) (by omega), show SNm n x (a + 2 * k) (a + 2 * j) = false from Bool.eq_false_iff.mpr d, Bool.false_or]
theorem Mo_nm5 (ht : TextIs n x) (hk : KdIs (cutE n x).length N5 a5 (tkT n x).tkd) (hx : TxA n x N6 a6 N7 a7 N4 a4) {a : Nat} {bad : Int32} : ∀ (fu j : Nat), (cutE n x).length - (a + 2 * j) < fu → a + 2 * j < (cutE n x).length → j ≤ 7 → (∀ k, k < j → (tkT n x).tkd (a + 2 * k) = 2) →
    match rdNm (tkT n x).tkd (SNm n x) a fu j with
    | .inl e => e < (cutE n x).length ∧ F_Mo_readNames_5 q1 q2 q3 q4 (nI a) bad q5 q6 q7 z5 N5 a5 z7 N7 a7 z6 N6 a6 z4 N4 a4 fu (nI (a + 2 * j)) = some (0, nI e, nI e)
    | .inr e => e < (cutE n x).length ∧ F_Mo_readNames_5 q1 q2 q3 q4 (nI a) bad q5 q6 q7 z5 N5 a5 z7 N7 a7 z6 N6 a6 z4 N4 a4 fu (nI (a + 2 * j)) = some (1, nI e, bad)
  | 0, j, h, _, _, _ => by omega
  | fu + 1, j, h, hj, hj7, hkk => by
    have hm := (tkOK ht).le
    have e2 : (a5 (Int32.toNatClampNeg (nI (a + 2 * j))) = 2) = ((tkT n x).tkd (a + 2 * j) = 2) := Mo_kd hk hj (p := 2) (by omega)
    rw [rdNm, F_Mo_readNames_5, Mo_kind hk hj, Option.bind_some]
    simp only [e2]
    by_cases c : (tkT n x).tkd (a + 2 * j) = 2
    · rw [if_pos c]
      have h21 := Mo_nm21 (q1 := q1) (q2 := q2) (q3 := q3) (q4 := q4) (q5 := q5) (q6 := q6) (q7 := q7) (z4 := z4) (z5 := z5) (z6 := z6) (z7 := z7) (N5 := N5) (a5 := a5) (bad := bad) (Kf := F_Mo_readNames_5 q1 q2 q3 q4 (nI a) bad q5 q6 q7 z5 N5 a5 z7 N7 a7 z6 N6 a6 z4 N4 a4 fu) ht hx hj c hkk FU 0 (by unfold FU; omega) (by omega)
      have h21 : F_Mo_readNames_21 q1 q2 q3 q4 (nI a) bad q5 q6 q7 z5 N5 a5 z7 N7 a7 z6 N6 a6 z4 N4 a4 (nI (a + 2 * j)) (F_Mo_readNames_5 q1 q2 q3 q4 (nI a) bad q5 q6 q7 z5 N5 a5 z7 N7 a7 z6 N6 a6 z4 N4 a4 fu) FU (nI a) 1 = _ := h21
      rw [h21, Nat.sub_zero, ← List.range_eq_range']
      by_cases d : ((List.range j).any fun k => SNm n x (a + 2 * k) (a + 2 * j)) = false
      · rw [d, if_neg Bool.false_ne_true, if_pos ⟨c, rfl⟩]
        unfold F_Mo_readNames_58
        have h1 : a + 2 * j + 1 < (cutE n x).length := hk.go hj (by omega)
        have e54 : (a5 (Int32.toNatClampNeg (nI (a + 2 * j + 1))) = 54) = ((tkT n x).tkd (a + 2 * j + 1) = 54) := Mo_kd hk h1 (p := 54) (by omega)
        rw [if_neg (show ¬ (1 : Int32) = 0 by decide), show nI (a + 2 * j) + 1 = nI (a + 2 * j + 1) from nI_add' _ 1, Mo_kind hk h1, Option.bind_some]
        simp only [e54]
        by_cases g : (tkT n x).tkd (a + 2 * j + 1) = 54
        · rw [if_pos g, if_pos g, show nI (a + 2 * j + 1) - nI a = nI (2 * j + 1) from by rw [nI_sub' (by omega)]; congr 1; omega]
          have hdiv : nI (2 * j + 1) / 2 = nI j := by
            have : ∀ j, j ≤ 7 → nI (2 * j + 1) / 2 = nI j := by decide
            exact this j hj7
          rw [hdiv]
          by_cases g7 : j = 7
          · rw [if_pos g7, if_pos (show nI j = 7 by rw [g7]; rfl)]
            exact ⟨h1, rfl⟩
          · rw [if_neg g7, if_neg (show ¬ nI j = 7 by rw [show (7 : Int32) = nI 7 from rfl, nI_eq' (by omega) (by omega)]; exact g7), show nI (a + 2 * j + 1) + 1 = nI (a + 2 * (j + 1)) from nI_add' _ 1]
            refine Mo_nm5 ht hk hx fu (j + 1) (by omega) (by have := hk.go h1 (show 1 < (tkT n x).tkd (a + 2 * j + 1) by omega); omega) (by omega) (fun k hk => ?_)
            by_cases e : k = j
            · rw [e]; exact c
            · exact hkk k (by omega)
        · rw [if_neg g, if_neg g]
          exact ⟨h1, rfl⟩
      · have d' : ((List.range j).any fun k => SNm n x (a + 2 * k) (a + 2 * j)) = true := by
          cases hh : ((List.range j).any fun k => SNm n x (a + 2 * k) (a + 2 * j)) with
          | true => rfl
          | false => exact absurd hh d
        rw [if_neg (fun y => d y.2), d', if_pos rfl]
        exact ⟨hj, rfl⟩
    · rw [if_neg c, if_neg (fun y => c y.1)]
      refine ⟨hj, ?_⟩
      rw [show FU = (FU - 1) + 1 by unfold FU; omega, F_Mo_readNames_21]
      by_cases e : nI (a + 2 * j) ≤ nI a
      · rw [if_pos e]; rfl
      · rw [if_neg e, if_pos rfl]; rfl
theorem Mo_nms (ht : TextIs n x) (hk : KdIs (cutE n x).length N5 a5 (tkT n x).tkd) (hx : TxA n x N6 a6 N7 a7 N4 a4) {a : Nat} {bad : Int32} (ha : a < (cutE n x).length) :
    match rdNm (tkT n x).tkd (SNm n x) a FU 0 with
    | .inl e => e < (cutE n x).length ∧ F_Mo_readNames q1 q2 q3 q4 (nI a) bad q5 q6 q7 z5 N5 a5 z7 N7 a7 z6 N6 a6 z4 N4 a4 = some (0, nI e, nI e)
    | .inr e => e < (cutE n x).length ∧ F_Mo_readNames q1 q2 q3 q4 (nI a) bad q5 q6 q7 z5 N5 a5 z7 N7 a7 z6 N6 a6 z4 N4 a4 = some (1, nI e, bad) := by
  have hm := (tkOK ht).le
  exact Mo_nm5 ht hk hx FU 0 (by unfold FU; omega) ha (by omega) (fun k hk => by omega)
theorem Mo_isf4 (ht : TextIs n x) (hx : TxA n x N6 a6 N7 a7 N4 a4) {p : Nat} {N22 : Nat} {b22 : Nat → Int32} (hp : p < (cutE n x).length) (hkp : (tkT n x).tkd p = 2) (fs : List Nat) (hv : Vec N22 b22 (fs.map nI)) (hfs : ∀ q ∈ fs, q < (cutE n x).length ∧ (tkT n x).tkd q = 2) : ∀ (fu k : Nat), fs.length - k < fu → k ≤ fs.length → ∀ (v : Nat), v ≤ 1 →
    F_Mo_isFunction_4 (nI p) q1 q2 q3 q4 q5 q6 q7 q8 q9 (nI fs.length) N22 b22 z7 N7 a7 z6 N6 a6 z4 N4 a4 fu (nI k) (nI v) = some (if v = 1 ∨ ((fs.drop k).any fun q => SNm n x q p) = true then 1 else 0)
  | 0, k, h, _, _, _ => by omega
  | fu + 1, k, h, hkl, v, hv1 => by
    have hm := (tkOK ht).le
    have hle := hv.le
    have hro := hv.room
    rw [List.length_map] at hle
    rw [F_Mo_isFunction_4]
    by_cases c : k = fs.length
    · subst c
      rw [if_pos (show nI fs.length ≤ nI fs.length by rw [nI_le' (by omega) (by omega)]; omega), List.drop_length, List.any_nil]
      by_cases d : v = 1
      · rw [if_pos (Or.inl d), d]; rfl
      · rw [if_neg (fun y => y.elim d (fun z => Bool.false_ne_true z)), show v = 0 by omega]; rfl
    · rw [if_neg (show ¬ nI fs.length ≤ nI k by rw [nI_le' (by omega) (by omega)]; omega), show nI k + 1 = nI (k + 1) from nI_add' k 1]
      by_cases d : v = 0
      · subst d
        have hkl2 : k < fs.length := by omega
        have hat := hv.at' k (by rw [List.length_map]; exact hkl2)
        rw [List.getElem_map] at hat
        obtain ⟨g1, g2⟩ := hfs fs[k] (List.getElem_mem hkl2)
        rw [if_pos (show nI 0 = 0 from rfl), Nm_at (by omega) (by omega), Option.bind_some, nI_clamp' (by omega), hat, Mo_same ht hx g1 hp g2 hkp, Option.bind_some, List.drop_eq_getElem_cons hkl2, List.any_cons]
        by_cases e : sameT (tkT n x) (smI n x) fs[k] p = true
        · rw [if_pos e, if_neg (show ¬ (1 : Int32) = 0 by decide)]
          have ih := Mo_isf4 ht hx hp hkp fs hv hfs fu (k + 1) (by omega) (by omega) 1 (by omega)
          rw [if_pos (Or.inl rfl)] at ih
          rw [show SNm n x fs[k] p = true from e, Bool.true_or, if_pos (Or.inr rfl)]
          exact ih
        · rw [if_neg e, if_pos rfl]
          have ih := Mo_isf4 ht hx hp hkp fs hv hfs fu (k + 1) (by omega) (by omega) 0 (by omega)
          rw [show SNm n x fs[k] p = false from Bool.eq_false_iff.mpr e, Bool.false_or]
          exact ih
      · have hv' : v = 1 := by omega
        subst hv'
        rw [if_neg (show ¬ nI 1 = 0 by decide)]
        have ih := Mo_isf4 ht hx hp hkp fs hv hfs fu (k + 1) (by omega) (by omega) 1 (by omega)
        rw [if_pos (Or.inl rfl)] at ih
        rw [if_pos (Or.inl rfl)]
        exact ih
theorem Mo_isf (ht : TextIs n x) (hx : TxA n x N6 a6 N7 a7 N4 a4) {p : Nat} {N22 : Nat} {b22 : Nat → Int32} (hp : p < (cutE n x).length) (hkp : (tkT n x).tkd p = 2) (fs : List Nat) (hv : Vec N22 b22 (fs.map nI)) (hfs : ∀ q ∈ fs, q < (cutE n x).length ∧ (tkT n x).tkd q = 2) (hl : fs.length < 1000000) :
    F_Mo_isFunction (nI p) q1 q2 q3 q4 q5 q6 q7 q8 q9 (nI fs.length) N22 b22 z7 N7 a7 z6 N6 a6 z4 N4 a4 = some (if (fs.any fun q => SNm n x q p) = true then 1 else 0) := by
  have hle := hv.le
  have hro := hv.room
  rw [List.length_map] at hle
  have hfl : fs.length < 1000000 := hl
  have h := Mo_isf4 (q1 := q1) (q2 := q2) (q3 := q3) (q4 := q4) (q5 := q5) (q6 := q6) (q7 := q7) (q8 := q8) (q9 := q9) (z4 := z4) (z6 := z6) (z7 := z7) ht hx hp hkp fs hv hfs FU 0 (by unfold FU; omega) (by omega) 0 (by omega)
  unfold F_Mo_isFunction
  refine Eq.trans h ?_
  rw [List.drop_zero]
  congr 1
  by_cases c : (fs.any fun q => SNm n x q p) = true
  · rw [if_pos (Or.inr c), if_pos c]
  · rw [if_neg (fun y => y.elim (fun z => absurd z (by decide)) c), if_neg c]
end Nm
/-- the open blocks as the reference holds them -/
abbrev BlV (N : Nat) (b : Nat → Int32) (bl : List Nat) : Prop := Vec N b (bl.reverse.map nI)
/-- the latest open block, or -1 -/
def hdI : List Nat → Int32
  | [] => -1
  | k :: _ => nI k
section Bl
variable {N : Nat} {b : Nat → Int32} {q1 q2 q3 q4 q5 q6 q7 q8 q9 : Int32}
theorem Bl_at {p s : List Nat} {k : Nat} (hv : BlV N b (p ++ k :: s)) : b s.length = nI k := by
  have h := hv.at' s.length (by rw [List.length_map, List.length_reverse, List.length_append, List.length_cons]; omega)
  rw [h, List.getElem_map]
  congr 1
  have e : (p ++ k :: s).reverse = s.reverse ++ (k :: p.reverse) := by
    rw [List.reverse_append, List.reverse_cons, List.append_assoc]; rfl
  have : (p ++ k :: s).reverse[s.length]? = some k := by
    rw [e, List.getElem?_append_right (by rw [List.length_reverse]; omega), List.length_reverse, Nat.sub_self]
    rfl
  rw [List.getElem?_eq_getElem (by rw [List.length_reverse, List.length_append, List.length_cons]; omega)] at this
  exact Option.some.inj this
theorem Mo_blk {bl : List Nat} (hv : BlV N b bl) : F_Mo_block q1 q2 q3 q4 q5 q6 q7 q8 q9 (nI bl.length) N b = some (hdI bl) := by
  have hle := hv.le
  have hro := hv.room
  rw [List.length_map, List.length_reverse] at hle
  unfold F_Mo_block
  match bl, hv, hle with
  | [], hv, hle => rfl
  | k :: s, hv, hle =>
    rw [List.length_cons] at hle ⊢
    rw [if_neg (show ¬ nI (s.length + 1) = 0 by rw [show (0 : Int32) = nI 0 from rfl, nI_eq' (by omega) (by omega)]; omega), nI_p1, nI_clamp' (by omega), Bl_at (p := []) hv]
    unfold F_Nm_last
    rw [nI_p1, inb_ok (by omega) (by omega)]
    rfl
theorem Mo_lp10 (bl : List Nat) (hv : BlV N b bl) : ∀ (s p : List Nat), bl = p ++ s → BlOK s → (∀ k ∈ s, k < 57) → ∀ fu, s.length < fu → F_Mo_isInLoop_10 q1 N b fu (nI s.length - 1) = some (if lpN s = 0 then 0 else 1)
  | [], p, hb, _, _, fu, hf => by
    obtain ⟨f2, rfl⟩ : ∃ f2, fu = f2 + 1 := ⟨fu - 1, by simp only [List.length_nil] at hf; omega⟩
    rw [F_Mo_isInLoop_10, if_pos (show nI ([] : List Nat).length - 1 < 0 by decide)]
    unfold F_Mo_isInLoop_59
    rw [if_pos (show nI ([] : List Nat).length - 1 < 0 by decide)]
    rfl
  | k :: s, p, hb, hok, hlt, fu, hf => by
    have hle := hv.le
    have hro := hv.room
    rw [List.length_map, List.length_reverse, hb, List.length_append, List.length_cons] at hle
    obtain ⟨f2, rfl⟩ : ∃ f2, fu = f2 + 1 := ⟨fu - 1, by omega⟩
    rw [hb] at hv
    have hbk := Bl_at hv
    rw [← hb] at hv
    have hk57 := hlt k List.mem_cons_self
    rw [List.length_cons, nI_p1, F_Mo_isInLoop_10, if_neg (show ¬ nI s.length < 0 by rw [nI_nn (by omega)]; exact id), Nm_at (by omega) (by omega), Option.bind_some, Option.bind_some, Option.bind_some, nI_clamp' (by omega), hbk]
    unfold F_Mo_isInLoop_59
    rw [if_neg (show ¬ nI s.length < 0 by rw [nI_nn (by omega)]; exact id), Nm_at (by omega) (by omega), Option.bind_some, nI_clamp' (by omega), hbk]
    rw [show (19 : Int32) = nI 19 from rfl, show (14 : Int32) = nI 14 from rfl, show (15 : Int32) = nI 15 from rfl, lpN]
    simp only [nI_eq' (show k < 2 ^ 31 by omega) (show 19 < 2 ^ 31 by omega), nI_eq' (show k < 2 ^ 31 by omega) (show 14 < 2 ^ 31 by omega), nI_eq' (show k < 2 ^ 31 by omega) (show 15 < 2 ^ 31 by omega)]
    by_cases c : k = 19
    · rw [if_pos c, if_pos c]
      have := hok.1 c
      subst this
      rw [if_neg (show ¬ (k = 14 ∨ k = 15) by omega)]
      rfl
    · rw [if_neg c, if_neg c]
      by_cases d : k = 14 ∨ k = 15
      · rw [if_pos d, if_neg (show ¬ lpN s + 1 = 0 by omega)]
        by_cases d1 : k = 14
        · rw [if_pos d1]
        · rw [if_neg d1, if_pos (d.resolve_left d1)]
      · rw [if_neg (fun y => d (Or.inl y)), if_neg (fun y => d (Or.inr y)), if_neg d, Nat.add_zero]
        have ih := Mo_lp10 bl hv s (p ++ [k]) (by rw [List.append_assoc]; exact hb) hok.2 (fun k hk => hlt k (List.mem_cons_of_mem _ hk)) f2 (by rw [List.length_cons] at hf; omega)
        rw [← show nI s.length + (-1) = nI s.length - 1 from (Int32.sub_eq_add_neg _ _).symm] at ih
        exact ih
theorem Mo_lp {bl : List Nat} (hv : BlV N b bl) (hok : BlOK bl) (hlt : ∀ k ∈ bl, k < 57) (hl : bl.length ≤ 60) : F_Mo_isInLoop q1 q2 q3 q4 q5 q6 q7 q8 q9 (nI bl.length) N b = some (if lpN bl = 0 then 0 else 1) := by
  unfold F_Mo_isInLoop
  exact Mo_lp10 bl hv bl [] rfl hok hlt FU (by unfold FU; omega)
end Bl
end
