section
section St
variable {n : Nat} {x : Nat → Nat} {N5 N6 N7 N4 : Nat} {a5 a6 a7 a4 : Nat → Int32}
variable {n2 : Nat} {c2 : Nat → Int32}
variable {q1 q2 q3 q4 q5 z0 z4 z5 z6 z7 : Int32}
variable {N0 N1 N2 i le : Nat} {b0 b1 b2 : Nat → Int32} {l0 : List Int32} {bad : Int32} {bl fs : List Nat}
theorem Ms_15 (ht : TextIs n x) (hk : KdIs (cutE n x).length N5 a5 (tkT n x).tkd) (hr : RkIs n2 c2) (h0 : N0 ≤ 600) (h1 : N1 ≤ 600) (h2 : N2 ≤ 65536) (hv0 : Vec N0 b0 l0) (hv1 : BlV N1 b1 bl) (hv2 : Vec N2 b2 (fs.map nI)) (hbl : bl.length ≤ 60) (hb57 : ∀ k ∈ bl, k < 57) (hi : i < (cutE n x).length) (hle : le ≤ i) (hkd : (tkT n x).tkd i = 15) : StM (cutE n x).length N0 N1 N2 bad (F_Mo_readStatement q1 q2 q3 q4 (nI i) bad (nI bl.length) (nI le) q5 z5 N5 a5 z0 N0 b0 n2 c2 (nI bl.length) N1 b1 z7 N7 a7 z6 N6 a6 z4 N4 a4 (nI fs.length) N2 b2) (stFor (tkT n x).tkd i bl fs) := by
  have hm := (tkOK ht).le
  unfold F_Mo_readStatement
  rw [Mo_kind hk hi, Option.bind_some, if_neg (show ¬ a5 (Int32.toNatClampNeg (nI i)) = 10 from fun h => by have := (Mo_kd hk hi (p := 10) (by omega)).mp h; omega), if_neg (show ¬ a5 (Int32.toNatClampNeg (nI i)) = 11 from fun h => by have := (Mo_kd hk hi (p := 11) (by omega)).mp h; omega), if_neg (show ¬ a5 (Int32.toNatClampNeg (nI i)) = 12 from fun h => by have := (Mo_kd hk hi (p := 12) (by omega)).mp h; omega), if_neg (show ¬ a5 (Int32.toNatClampNeg (nI i)) = 13 from fun h => by have := (Mo_kd hk hi (p := 13) (by omega)).mp h; omega), if_neg (show ¬ a5 (Int32.toNatClampNeg (nI i)) = 14 from fun h => by have := (Mo_kd hk hi (p := 14) (by omega)).mp h; omega), if_pos (show a5 (Int32.toNatClampNeg (nI i)) = 15 from (Mo_kd hk hi (p := 15) (by omega)).mpr hkd)]
  rw [Mo_a5 hk hi, hkd, Mo_enter hk hi (by omega) hbl, if_pos hkd]
  unfold stFor
  by_cases c60 : bl.length = 60
  · rw [if_pos c60, if_pos c60]
    exact StM.no h0 h1 h2 hv0 hv1 hv2 hi hle
  · rw [if_neg c60, if_neg c60, Option.bind_some]
    dsimp only
    have hi1 : i + 1 < (cutE n x).length := hk.go hi (by omega)
    rw [if_neg (show ¬ (1 : Int32) = 0 by decide), show (50 : Int32) = nI 50 from rfl, Mo_enter hk hi1 (by omega) (by omega)]
    by_cases c50 : (tkT n x).tkd (i + 1) = 50 ∧ bl.length + 1 ≠ 60
    · rw [if_pos c50.1, if_neg c50.2, if_neg (fun y => y c50), Option.bind_some]
      dsimp only
      have hi2 : i + 2 < (cutE n x).length := hk.go hi1 (by omega)
      rw [if_neg (show ¬ (1 : Int32) = 0 by decide), show nI (i + 1 + 1) = nI (i + 2) from rfl, show (2 : Int32) = nI 2 from rfl, Mo_take hk hi2 (by omega)]
      by_cases c2 : (tkT n x).tkd (i + 2) = 2
      · have hi3 : i + 3 < (cutE n x).length := hk.go hi2 (by omega)
        rw [if_pos c2, if_neg (fun y => y c2), Option.bind_some]
        dsimp only
        rw [if_neg (show ¬ (1 : Int32) = 0 by decide), show nI (i + 2 + 1) = nI (i + 3) from rfl, show (56 : Int32) = nI 56 from rfl, Mo_take hk hi3 (by omega)]
        by_cases c56 : (tkT n x).tkd (i + 3) = 56
        · have hi4 : i + 4 < (cutE n x).length := hk.go hi3 (by omega)
          rw [if_pos c56, if_neg (fun y => y c56), Option.bind_some]
          dsimp only
          rw [if_neg (show ¬ (1 : Int32) = 0 by decide), show nI (i + 3 + 1) = nI (i + 4) from rfl, show nI (bl.length + 1 + 1) = nI (bl.length + 2) from rfl]
          have hc := Mo_rdE (tkOK ht) hk hr (q1 := q1) (q2 := q2) (q3 := q3) (q4 := q4) (q5 := nI le) (q6 := q5) (q7 := z5) (bad := bad) (sz := z0) (lv := bl.length + 2) hv0 h0 hi4 (by omega)
          have hg := rdE_ge (tkOK ht) (i := i + 4) (lv := bl.length + 2) hi4 (by omega)
          cases e : rdE (tkT n x).tkd (i + 4) (bl.length + 2) with
          | inl j =>
            rw [e] at hc hg
            have hg := hg.1
            obtain ⟨hj, lv', sz', N', b', c', s, eX, hO⟩ := hc
            exact ⟨nI j, j, lv', le, sz', nI bl.length, nI fs.length, N', b', N1, b1, N2, b2, c', s, bw_ok (c' := 0) (s' := 0) eX rfl, Nat.max_eq_left (by omega), hj, by omega, hO.vec, hv1.clear, hv2.clear, ArG.of0 hO.grow hO.le h1 h2⟩
          | inr q =>
            obtain ⟨j, lv'⟩ := q
            rw [e] at hc hg
            obtain ⟨hg, _, hl⟩ := hg
            subst hl
            obtain ⟨hj, hlv, N', b', c', s, eX, hO⟩ := hc
            show StM _ _ _ _ _ _ (if (tkT n x).tkd j = 51 then .inr (j + 1, 15 :: bl, fs) else .inl j)
            by_cases c5 : (tkT n x).tkd j = 51
            · rw [if_pos c5]
              obtain ⟨N1', b1', c1, s1, e1, g1, g2, g3⟩ := blk_push (k := 15) hv1 hbl h1
              refine ⟨hk.go hj (by omega), le, 0, N', b', N1', b1', N2, b2, c' + c1, s + s1, bw_ok eX ?_, by omega, hO.vec, g1, hv2, (ArG.of0 hO.grow hO.le h1 h2).trans (ArG.of1 g2 hO.le g3 h2)⟩
              show (if (1 : Int32) = 0 then _ else _) = _
              rw [if_neg (by decide), show (51 : Int32) = nI 51 from rfl, Mo_leave hk hj (by omega), if_pos c5]
              rw [Option.bind_some, if_neg (show ¬ (1 : Int32) = 0 by decide)]
              refine bw_ok (c' := 0) (s' := 0) e1 ?_
              show some ((1, nI (j + 1), bad, nI (bl.length + 2) - 1, nI le, 0, nI bl.length + 1, nI fs.length, N', b', N1', b1', N2, b2), 0, 0) = _
              rw [show nI bl.length + 1 = nI (bl.length + 1) from nI_add' _ 1, show nI (bl.length + 2) - 1 = nI (bl.length + 1) from nI_p1 _]
              rfl
            · rw [if_neg c5]
              refine ⟨nI j, j, nI (bl.length + 2) - 1, le, 0, nI bl.length, nI fs.length, N', b', N1, b1, N2, b2, c', s, bw_ok (c' := 0) (s' := 0) eX ?_, Nat.max_eq_left (by omega), hj, by omega, hO.vec, hv1.clear, hv2.clear, ArG.of0 hO.grow hO.le h1 h2⟩
              show (if (1 : Int32) = 0 then _ else _) = _
              rw [if_neg (by decide), show (51 : Int32) = nI 51 from rfl, Mo_leave hk hj (by omega), if_neg c5]
              rfl
        · rw [if_neg c56, if_pos c56]
          exact StM.no h0 h1 h2 hv0 hv1 hv2 hi3 (by omega)
      · rw [if_neg c2, if_pos c2]
        exact StM.no h0 h1 h2 hv0 hv1 hv2 hi2 (by omega)
    · rw [if_pos c50]
      by_cases d : (tkT n x).tkd (i + 1) = 50
      · have d60 : bl.length + 1 = 60 := Decidable.of_not_not (fun y => c50 ⟨d, y⟩)
        rw [if_pos d, if_pos d60]
        exact StM.no h0 h1 h2 hv0 hv1 hv2 hi1 (by omega)
      · rw [if_neg d]
        exact StM.no h0 h1 h2 hv0 hv1 hv2 hi1 (by omega)
theorem Ms_any (ht : TextIs n x) (hk : KdIs (cutE n x).length N5 a5 (tkT n x).tkd) (hx : TxA n x N6 a6 N7 a7 N4 a4) (hr : RkIs n2 c2) (h0 : N0 ≤ 600) (h1 : N1 ≤ 600) (h2 : N2 ≤ 65536) (hv0 : Vec N0 b0 l0) (hv1 : BlV N1 b1 bl) (hv2 : Vec N2 b2 (fs.map nI)) (hbl : bl.length ≤ 60) (hb57 : ∀ k ∈ bl, k < 57) (hi : i < (cutE n x).length) (hle : le ≤ i) (hfs : ∀ q ∈ fs, q < (cutE n x).length ∧ (tkT n x).tkd q = 2) (hfl : fs.length < 16385) (hok : BlOK bl) : StM (cutE n x).length N0 N1 N2 bad (F_Mo_readStatement q1 q2 q3 q4 (nI i) bad (nI bl.length) (nI le) q5 z5 N5 a5 z0 N0 b0 n2 c2 (nI bl.length) N1 b1 z7 N7 a7 z6 N6 a6 z4 N4 a4 (nI fs.length) N2 b2) (stAny (tkT n x).tkd (SNm n x) i bl fs) := by
  unfold stAny
  by_cases c1 : (tkT n x).tkd i = 19
  · rw [if_pos c1]; exact Ms_19 ht hk hx hr h0 h1 h2 hv0 hv1 hv2 hbl hb57 hi hle hfs hfl c1
  rw [if_neg c1]
  by_cases c2 : (tkT n x).tkd i = 10 ∨ (tkT n x).tkd i = 14
  · rw [if_pos c2]
    rcases c2 with c2 | c2
    · exact Ms_10 ht hk hr h0 h1 h2 hv0 hv1 hv2 hbl hb57 hi hle c2
    · exact Ms_14 ht hk hr h0 h1 h2 hv0 hv1 hv2 hbl hb57 hi hle c2
  rw [if_neg c2]
  by_cases c3 : (tkT n x).tkd i = 15
  · rw [if_pos c3]; exact Ms_15 ht hk hr h0 h1 h2 hv0 hv1 hv2 hbl hb57 hi hle c3
  rw [if_neg c3]
  by_cases c4 : (tkT n x).tkd i = 22
  · rw [if_pos c4]; exact Ms_22 ht hk hr h0 h1 h2 hv0 hv1 hv2 hbl hb57 hi hle c4
  rw [if_neg c4]
  by_cases c5 : (tkT n x).tkd i = 11
  · rw [if_pos c5]; exact Ms_11 ht hk hr h0 h1 h2 hv0 hv1 hv2 hbl hb57 hi hle c5
  rw [if_neg c5]
  by_cases c6 : (tkT n x).tkd i = 12
  · rw [if_pos c6]; exact Ms_12 ht hk hr h0 h1 h2 hv0 hv1 hv2 hbl hb57 hi hle c6
  rw [if_neg c6]
  by_cases c7 : (tkT n x).tkd i = 23
  · rw [if_pos c7]; exact Ms_23 ht hk hr h0 h1 h2 hv0 hv1 hv2 hbl hb57 hi hle c7
  rw [if_neg c7]
  by_cases c8 : (tkT n x).tkd i = 13
  · rw [if_pos c8]; exact Ms_13 ht hk hr h0 h1 h2 hv0 hv1 hv2 hbl hb57 hi hle c8
  rw [if_neg c8]
  by_cases c9 : (tkT n x).tkd i = 16 ∨ (tkT n x).tkd i = 17 ∨ (tkT n x).tkd i = 18
  · rw [if_pos c9]
    rcases c9 with c9 | c9 | c9
    · exact Ms_16 ht hk hr h0 h1 h2 hv0 hv1 hv2 hbl hb57 hi hle hok c9
    · exact Ms_17 ht hk hr h0 h1 h2 hv0 hv1 hv2 hbl hb57 hi hle hok c9
    · exact Ms_18 ht hk hr h0 h1 h2 hv0 hv1 hv2 hbl hb57 hi hle c9
  rw [if_neg c9]
  by_cases c10 : (tkT n x).tkd i = 20 ∨ (tkT n x).tkd i = 21
  · rw [if_pos c10]
    rcases c10 with c10 | c10
    · exact Ms_20 ht hk hr h0 h1 h2 hv0 hv1 hv2 hbl hb57 hi hle c10
    · exact Ms_21 ht hk hr h0 h1 h2 hv0 hv1 hv2 hbl hb57 hi hle c10
  rw [if_neg c10]
  by_cases c11 : (tkT n x).tkd i = 52
  · rw [if_pos c11]; exact Ms_52 ht hk hr h0 h1 h2 hv0 hv1 hv2 hbl hb57 hi hle c11
  rw [if_neg c11]
  exact Ms_wk ht hk hr h0 h1 h2 hv0 hv1 hv2 hbl hb57 hi hle (fun y => by unfold wordK at y; omega) c11
end St
/-- what holds of the blocks and functions that a statement leaves -/
def Iv (K : Nat → Nat) : Sum Nat (Nat × List Nat × List Nat) → Prop
  | .inl _ => True
  | .inr (_, bl', fs') => (∀ k ∈ bl', k < 57) ∧ (∀ q ∈ fs', K q = 2)
theorem iv_ite {K : Nat → Nat} {p : Prop} [Decidable p] {x y : Sum Nat (Nat × List Nat × List Nat)} (h1 : p → Iv K x) (h2 : ¬ p → Iv K y) : Iv K (if p then x else y) := by
  by_cases c : p
  · rw [if_pos c]; exact h1 c
  · rw [if_neg c]; exact h2 c
theorem iv_cons {k : Nat} {bl : List Nat} (hk : k < 57) (hb : ∀ k ∈ bl, k < 57) : ∀ j ∈ k :: bl, j < 57 := fun j hj => by
  rcases List.mem_cons.mp hj with rfl | h
  · exact hk
  · exact hb j h
theorem iv_tail {bl : List Nat} (hb : ∀ k ∈ bl, k < 57) : ∀ j ∈ bl.tail, j < 57 := fun j hj => hb j (List.mem_of_mem_tail hj)
theorem iv_fb {K : Nat → Nat} {SN : Nat → Nat → Bool} {fs : List Nat} {res : Bool} {nm : Nat} (hf : ∀ q ∈ fs, K q = 2) : Iv K (stFb K SN fs res nm) := by
  have h := stFb_fs (K := K) (SN := SN) (fs := fs) (res := res) (nm := nm)
  cases e : stFb K SN fs res nm with
  | inl _ => trivial
  | inr q =>
    obtain ⟨i', bl', fs'⟩ := q
    rw [e] at h
    obtain ⟨h1, h2, h3⟩ := h
    subst h1 h2
    refine ⟨iv_cons (by omega) (fun _ h => absurd h List.not_mem_nil), fun q hq => ?_⟩
    rcases List.mem_append.mp hq with h | h
    · exact hf q h
    · rw [List.mem_singleton.mp h]; exact h3
theorem iv_wk {K : Nat → Nat} {i : Nat} {bl fs : List Nat} (hb : ∀ k ∈ bl, k < 57) (hf : ∀ q ∈ fs, K q = 2) : ∀ {o : Sum Nat (Nat × Nat)}, Iv K (stEd K bl fs o)
  | .inl _ => trivial
  | .inr (j, _) => iv_ite (fun _ => ⟨hb, hf⟩) fun _ => trivial
theorem iv_any {K : Nat → Nat} {SN : Nat → Nat → Bool} {i : Nat} {bl fs : List Nat} (hb : ∀ k ∈ bl, k < 57) (hf : ∀ q ∈ fs, K q = 2) : Iv K (stAny K SN i bl fs) := by
  unfold stAny
  refine iv_ite (fun c => ?_) fun _ => iv_ite (fun c => ?_) fun _ => iv_ite (fun c => ?_) fun _ => iv_ite (fun c => ?_) fun _ => iv_ite (fun c => ?_) fun _ => iv_ite (fun c => ?_) fun _ => iv_ite (fun c => ?_) fun _ => iv_ite (fun c => ?_) fun _ => iv_ite (fun c => ?_) fun _ => iv_ite (fun c => ?_) fun _ => iv_ite (fun c => ?_) fun _ => ?_
  · unfold stFun
    refine iv_ite (fun _ => trivial) fun _ => iv_ite (fun _ => ?_) fun _ => iv_ite (fun _ => iv_fb hf) fun _ => iv_fb hf
    cases rdNm K SN (i + 2) FU 0 with
    | inl j => trivial
    | inr j => exact iv_ite (fun _ => trivial) fun _ => iv_ite (fun _ => trivial) fun _ => iv_fb hf
  · unfold stIf
    refine iv_ite (fun _ => trivial) fun _ => ?_
    cases rdCond K (i + 1) (bl.length + 1) with
    | inl j => trivial
    | inr j => exact ⟨iv_cons (by omega) hb, hf⟩
  · unfold stFor
    refine iv_ite (fun _ => trivial) fun _ => iv_ite (fun _ => trivial) fun _ => iv_ite (fun _ => trivial) fun _ => iv_ite (fun _ => trivial) fun _ => ?_
    cases rdE K (i + 4) (bl.length + 2) with
    | inl j => trivial
    | inr q => exact iv_ite (fun _ => ⟨iv_cons (by omega) hb, hf⟩) fun _ => trivial
  · unfold stTry
    exact iv_ite (fun _ => trivial) fun _ => ⟨iv_cons (by omega) hb, hf⟩
  · unfold stElif
    refine iv_ite (fun _ => ?_) fun _ => trivial
    cases rdCond K (i + 1) bl.length with
    | inl j => trivial
    | inr j => exact ⟨hb, hf⟩
  · unfold stElse
    exact iv_ite (fun _ => ⟨iv_cons (by omega) (iv_tail hb), hf⟩) fun _ => trivial
  · unfold stElse
    exact iv_ite (fun _ => ⟨iv_cons (by omega) (iv_tail hb), hf⟩) fun _ => trivial
  · unfold stEnd
    exact iv_ite (fun _ => trivial) fun _ => ⟨iv_tail hb, hf⟩
  · exact iv_ite (fun _ => trivial) fun _ => iv_ite (fun _ => ⟨hb, hf⟩) fun _ => trivial
  · unfold stVals
    cases rdSev K FU 0 (i + 1) bl.length with
    | inl j => trivial
    | inr q => exact iv_ite (fun _ => ⟨hb, hf⟩) fun _ => trivial
  · unfold stRows
    refine iv_ite (fun _ => trivial) fun _ => ?_
    cases tE K 9 1 (i + 1) with
    | inr c => show Iv K (stTgt K c bl fs); rw [stTgt_ed]; exact iv_wk (i := i) hb hf
    | inl e =>
      have h : Iv K (stWork K i bl fs) := by rw [stWork_ed]; exact iv_wk (i := i) hb hf
      show Iv K (match stWork K i bl fs with | .inl j => .inl (max j e) | .inr x => .inr x)
      cases e2 : stWork K i bl fs with
      | inl j => trivial
      | inr q => rw [e2] at h; exact h
  · rw [stWork_ed]; exact iv_wk (i := i) hb hf
/-- what the reference's reading of a program says -/
def PgM (m N0 N1 N2 : Nat) (X : Option (StT × Nat × Nat)) : Sum Nat Nat → Prop
  | .inl j => ∃ at' bd lv le z0 z1 z2 N0' b0 N1' b1 N2' b2 c s, X = some ((0, at', nI bd, lv, nI le, z1, z2, z0, N1', b1, N2', b2, N0', b0), c, s) ∧ max bd le = j ∧ bd < m ∧ le < m ∧ Vec N0' b0 [] ∧ Vec N1' b1 [] ∧ Vec N2' b2 [] ∧ ArG N0 N1 N2 N0' N1' N2' c s
  | .inr _ => ∃ at' bd lv le z0 z1 z2 N0' b0 N1' b1 N2' b2 c s, X = some ((1, at', bd, lv, le, z1, z2, z0, N1', b1, N2', b2, N0', b0), c, s) ∧ Vec N0' b0 [] ∧ Vec N1' b1 [] ∧ Vec N2' b2 [] ∧ ArG N0 N1 N2 N0' N1' N2' c s
theorem PgM.pre {m N0 N1 N2 M0 M1 M2 c1 s1 : Nat} {X Y : Option (StT × Nat × Nat)} (g : ArG N0 N1 N2 M0 M1 M2 c1 s1) (hX : ∀ R c2 s2, Y = some (R, c2, s2) → X = some (R, c1 + c2, s1 + s2)) : ∀ {o : Sum Nat Nat}, PgM m M0 M1 M2 Y o → PgM m N0 N1 N2 X o
  | .inl _, ⟨at', bd, lv, le, z0, z1, z2, N0', b0, N1', b1, N2', b2, c, s, e, h1, h2, h3, v0, v1, v2, a⟩ => ⟨at', bd, lv, le, z0, z1, z2, N0', b0, N1', b1, N2', b2, c1 + c, s1 + s, hX _ _ _ e, h1, h2, h3, v0, v1, v2, g.trans a⟩
  | .inr _, ⟨at', bd, lv, le, z0, z1, z2, N0', b0, N1', b1, N2', b2, c, s, e, v0, v1, v2, a⟩ => ⟨at', bd, lv, le, z0, z1, z2, N0', b0, N1', b1, N2', b2, c1 + c, s1 + s, hX _ _ _ e, v0, v1, v2, g.trans a⟩
section Pg
variable {n : Nat} {x : Nat → Nat} {N5 N6 N7 N4 : Nat} {a5 a6 a7 a4 : Nat → Int32}
variable {n2 : Nat} {c2 : Nat → Int32}
variable {q1 q2 q3 q4 q5 z4 z5 z6 z7 : Int32}
theorem Mo_pg38 (ht : TextIs n x) (hk : KdIs (cutE n x).length N5 a5 (tkT n x).tkd) (hx : TxA n x N6 a6 N7 a7 N4 a4) (hr : RkIs n2 c2) {bad : Int32} : ∀ (fu i le N0 N1 N2 : Nat) (bl fs : List Nat) (b0 b1 b2 : Nat → Int32) (l0 : List Int32) (z0 : Int32) (s : Rs), (cutE n x).length - i < fu → SR (tkT n x) (cutE n x).length i bl fs s → N0 ≤ 600 → N1 ≤ 600 → N2 ≤ 65536 → Vec N0 b0 l0 → BlV N1 b1 bl → Vec N2 b2 (fs.map nI) → (∀ k ∈ bl, k < 57) → (∀ q ∈ fs, (tkT n x).tkd q = 2) → le ≤ i →
    PgM (cutE n x).length N0 N1 N2 (F_Mo_readProgram_38 q1 q2 q3 q4 q5 z5 N5 a5 n2 c2 z7 N7 a7 z6 N6 a6 z4 N4 a4 (fu + 1) 1 (nI i) bad (nI bl.length) (nI le) (nI bl.length) (nI fs.length) z0 N0 b0 N1 b1 N2 b2) (rdP (tkT n x).tkd (SNm n x) fu i bl fs)
  | 0, i, le, N0, N1, N2, bl, fs, b0, b1, b2, l0, z0, s, h, _, _, _, _, _, _, _, _, _, _ => by omega
  | fu + 1, i, le, N0, N1, N2, bl, fs, b0, b1, b2, l0, z0, s, hf, hR, h0, h1, h2, hv0, hv1, hv2, hb, hq, hle => by
    have hm := (tkOK ht).le
    obtain ⟨hi, hbl, hok, hfl, hfi⟩ : i < (cutE n x).length ∧ bl.length ≤ 60 ∧ BlOK bl ∧ fs.length ≤ i ∧ ∀ q ∈ fs, q < i := by
      obtain ⟨_, _, _, _, _, _, a1, a2, a3, a4, a5⟩ := hR
      exact ⟨a3, a1, a2, a4, a5⟩
    have ez : (a5 (Int32.toNatClampNeg (nI i)) = 0) = ((tkT n x).tkd i = 0) := Mo_kd hk hi (p := 0) (by omega)
    rw [rdP, F_Mo_readProgram_38, if_neg (show ¬ (1 : Int32) = 0 by decide), Mo_kind hk hi, Option.bind_some]
    by_cases c0 : (tkT n x).tkd i = 0
    · rw [if_pos (ez.mpr c0), if_pos c0]
      unfold F_Mo_readProgram_57
      rw [if_neg (show ¬ (1 : Int32) = 0 by decide)]
      by_cases cb : bl = []
      · subst cb
        rw [if_pos rfl, if_pos (show nI ([] : List Nat).length = 0 from rfl)]
        exact ⟨nI i, bad, nI 0, nI le, z0, nI 0, nI fs.length, N0, b0, N1, b1, N2, b2, 0, 0, rfl, hv0.clear, hv1.clear, hv2.clear, ArG.rfl h0 h1 h2⟩
      · have : bl.length ≠ 0 := fun h => cb (List.length_eq_zero_iff.mp h)
        rw [if_neg cb, if_neg (show ¬ nI bl.length = 0 by rw [show (0 : Int32) = nI 0 from rfl, nI_eq' (by omega) (by omega)]; exact this)]
        exact ⟨nI i, i, nI bl.length, le, z0, nI bl.length, nI fs.length, N0, b0, N1, b1, N2, b2, 0, 0, rfl, Nat.max_eq_left hle, hi, by omega, hv0.clear, hv1.clear, hv2.clear, ArG.rfl h0 h1 h2⟩
    · rw [if_neg (fun h => c0 (ez.mp h)), if_neg c0]
      have hS := Ms_any (q1 := q1) (q2 := q2) (q3 := q3) (q4 := q4) (q5 := q5) (z0 := z0) (z4 := z4) (z5 := z5) (z6 := z6) (z7 := z7) (bad := bad) ht hk hx hr h0 h1 h2 hv0 hv1 hv2 hbl hb hi hle (fun q hq2 => ⟨by have := hfi q hq2; omega, hq q hq2⟩) (by omega) hok
      have hst := stm_any (sm := smI n x) (tkOK ht) hR c0
      have hgt := any_gt (tkOK ht) (SN := SNm n x) (fs := fs) hi hbl
      have hiv := iv_any (K := (tkT n x).tkd) (SN := SNm n x) (i := i) hb hq
      cases e : stAny (tkT n x).tkd (SNm n x) i bl fs with
      | inl j =>
        rw [e] at hS
        obtain ⟨at', bd, lv, le', z0', z1, z2, N0', b0', N1', b1', N2', b2', c, s2, eX, g1, g2, g3, v0, v1, v2, ga⟩ := hS
        refine ⟨at', bd, lv, le', z0', z1, z2, N0', b0', N1', b1', N2', b2', c, s2, bw_ok (c' := 0) (s' := 0) eX ?_, g1, g2, g3, v0, v1, v2, ga⟩
        show F_Mo_readProgram_38 q1 q2 q3 q4 q5 z5 N5 a5 n2 c2 z7 N7 a7 z6 N6 a6 z4 N4 a4 (fu + 1) 0 at' (nI bd) lv (nI le') z1 z2 z0' N0' b0' N1' b1' N2' b2' = _
        rw [F_Mo_readProgram_38, if_pos (show (0 : Int32) = 0 from rfl)]
        unfold F_Mo_readProgram_57
        rw [if_pos (show (0 : Int32) = 0 from rfl)]
      | inr q =>
        obtain ⟨i', bl', fs'⟩ := q
        have e' : stAny (tkT n x).tkd (sameT (tkT n x) (smI n x)) i bl fs = .inr (i', bl', fs') := e
        rw [e] at hS hgt hiv
        rw [e'] at hst
        have hgt : i < i' := hgt
        obtain ⟨hi', le', z0', N0', b0', N1', b1', N2', b2', c, s2, eX, g1, v0, v1, v2, ga⟩ := hS
        obtain ⟨s', _, hR'⟩ := hst
        have ih := Mo_pg38 ht hk hx hr (bad := bad) fu i' le' N0' N1' N2' bl' fs' b0' b1' b2' [] z0' s' (by omega) hR' ga.l0 ga.l1 ga.l2 v0 v1 v2 hiv.1 hiv.2 g1
        exact PgM.pre ga (fun R c3 s3 h => bw_ok eX h) ih
theorem Mo_pg (ht : TextIs n x) (hk : KdIs (cutE n x).length N5 a5 (tkT n x).tkd) (hx : TxA n x N6 a6 N7 a7 N4 a4) (hr : RkIs n2 c2) {N0 N1 N2 : Nat} {b0 b1 b2 : Nat → Int32} {l0 l1 l2 : List Int32} {z0 z1 z2 y1 y2 y3 y4 : Int32} (h0 : N0 ≤ 600) (h1 : N1 ≤ 600) (h2 : N2 ≤ 65536) (hv0 : Vec N0 b0 l0) (hv1 : Vec N1 b1 l1) (hv2 : Vec N2 b2 l2) :
    PgM (cutE n x).length N0 N1 N2 (F_Mo_readProgram q1 q2 q3 q4 y1 y2 y3 y4 q5 z1 z2 z5 N5 a5 z0 N0 b0 n2 c2 N1 b1 z7 N7 a7 z6 N6 a6 z4 N4 a4 N2 b2) (rdP (tkT n x).tkd (SNm n x) 999999 0 [] []) := by
  have hm := (tkOK ht).le
  unfold F_Mo_readProgram
  exact Mo_pg38 ht hk hx hr 999999 0 0 N0 N1 N2 [] [] b0 b1 b2 l0 z0 Rs.init (by omega) (SR.init cut_pos) h0 h1 h2 hv0 hv1.clear hv2.clear (fun _ h => absurd h List.not_mem_nil) (fun _ h => absurd h List.not_mem_nil) (Nat.le_refl _)
end Pg
end
