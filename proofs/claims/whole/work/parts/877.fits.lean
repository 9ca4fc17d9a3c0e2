section
theorem Rw_cut0 {k : Nat} (h : k < 2 ^ 31) : F_Rw_cut 0 (nI k) = 0 := by
  unfold F_Rw_cut
  rw [if_neg (show ¬ (0 : Int32) < 0 by decide)]
  by_cases c : k = 0
  · subst c; rfl
  · rw [if_neg (show ¬ nI k ≤ 0 by rw [show (0 : Int32) = nI 0 from Eq.refl _, nI_le' h (by omega)]; omega)]
section P
variable {n : Nat} {x : Nat → Nat} {Ns : Nat} {bs : Nat → Int32}
variable {Nt : Nat} {bt : Nat → Int32} {F : Tr Lb}
/-- **the class's writing** -/
theorem Wr_fits (ht : TextIs n x) (hr : RowIs Ns bs n x) (h7 : (Tr.sz F + 1) * 7 ≤ Nt) (hNt : Nt ≤ 2 ^ 20) (hn0 : Tr.sz F + 1 ≤ 16390) (hTH : Tr.TH bt 0 (-1) (Tr.nd rootL F)) (hF : OKT n x SK F) {N3 : Nat} {b3 : Nat → Int32} {L3 : List Nat} (h3 : RowV N3 b3 L3) (d0 f0 : Int32) :
    ∃ (ok d' z' : Int32) (N' : Nat) (b' : Nat → Int32) (c s : Nat), F_Wr_fits d0 f0 (nI L3.length) (nI (Tr.sz F + 1)) Nt bt N3 b3 (nI n) Ns bs = some ((ok, d', ok, z', N', b'), c, s) ∧ Grow N3 N' c s ∧ (((wS (tkT n x) (txX n x) 0 F).length ≤ 65536 ∧ ok = 1 ∧ z' = nI (wS (tkT n x) (txX n x) 0 F).length ∧ ∃ L : List Nat, wS (tkT n x) (txX n x) 0 F = L.map nI ∧ RowV N' b' L) ∨ (65536 < (wS (tkT n x) (txX n x) 0 F).length ∧ ok = 0 ∧ ∃ L : List Nat, z' = nI L.length ∧ RowV N' b' L)) := by
  have hrow := h3.room
  have hlen := h3.le
  have hsz : Tr.sz (Tr.nd rootL F) = Tr.sz F + 1 := rfl
  have hM : AllM n x (Tr.nd rootL F) := ⟨MOK.plain kok0 (fun e => absurd e nt0) nn0.1 nn0.2.1 nn0.2.2, hF.1, trivial⟩
  obtain ⟨pL, hpL⟩ : ∃ pL : Lb, pL.k = -1 := ⟨⟨-1, 0, 0, 0, 0⟩, rfl⟩
  have hC : Ctx n x bt (Tr.sz F + 1) Nt (-1) pL (Tr.nd rootL F) 0 0 (Tr.nd rootL F) := by
    refine ⟨Or.inl ⟨rfl, hpL⟩, fun e => ?_, fun e => ?_, fun w' e1 e2 => ?_, ⟨fun _ => rfl, fun _ => rfl⟩, fun _ => rfl, fun _ e => absurd rfl e, ?_⟩
    · rw [hpL] at e; exact absurd e (by decide)
    · rw [hpL] at e; exact absurd e (by decide)
    · exfalso
      have h1 : ¬ nI w' < 0 := by rw [show (0 : Int32) = nI 0 from Eq.refl _, nI_lt' (by omega) (by omega)]; omega
      rw [← e1] at h1
      exact h1 (by decide)
    · show 1 < 2 ^ 20
      omega
  have hS0 : FS [] 1 0 N3 b3 := Or.inl ⟨by decide, rfl, rfl, [], rfl, h3.nil⟩
  have htr := Wr_trav ht hr h7 hNt hn0 (Tr.nd rootL F) 0 0 0 pL (Tr.nd rootL F) (-1) [] 1 0 N3 FU b3 (by show ¬ (1 : Nat) = 0; decide) hTH hM hC (by rw [hsz]; omega) (Nat.le_refl _) (by rw [hsz]; unfold FU; omega) hS0
  have hem : emF (tkT n x) (txX n x) (Tr.nd rootL F) pL (Tr.nd rootL F) 0 0 = wS (tkT n x) (txX n x) 0 F := by
    have h1 : lfW pL F 0 = [] := by unfold lfW; simp (decide := true) only [hpL, ↓reduceIte]
    have h2 : ∀ f, trW (txX n x) f pL rootL F = [] := fun f => by unfold trW; simp (decide := true) only [hpL, ↓reduceIte, or_false]
    have h3 : ∀ c, brW (tkT n x) pL (Tr.nd rootL F) 0 rootL c = [] := fun c => by
      have h4 : needW (tkT n x) pL (Tr.nd rootL F) 0 = 1 := by unfold needW; simp (decide := true) only [hpL, ↓reduceIte]
      unfold brW
      rw [h4]
      rfl
    have h5 : bgW (txX n x) rootL 0 = [] := rfl
    have h6 : fiW rootL 0 = [] := rfl
    rw [emF, emF, if_pos rfl, if_neg (show ¬ rootL.k = 3 by decide), h1, h2, h3, h3, h5, h6, ((emF_s F hF.2.1).2 hF.2.2 rootL F 0 0 (Or.inr rfl))]
    unfold wS
    simp only [List.nil_append, List.append_nil]
  rw [List.nil_append, hem, hsz] at htr
  unfold F_Wr_fits nm
  rw [Rw_cut0 (by omega)]
  rcases htr with ⟨d', z', N', b', c, s, L, y1, y2, y3, y4, y5⟩ | ⟨f', z', N', b', c, s, cc, y1, y2, y3, y4, y5, y6⟩
  · exact ⟨0, d', z', N', b', c, s, y1, y5, Or.inr ⟨y2, rfl, L, y3, y4⟩⟩
  · have hend : ∀ fu, F_Wr_fits_36 (nI (Tr.sz F + 1)) Nt bt (nI n) Ns bs (fu + 1) (nI (Tr.sz F + 1)) (nI 0) f' N' b' z' = some ((f', nI 0, f', z', N', b'), 0, 0) := fun fu => by
      rw [F_Wr_fits_36, if_pos (show nI (Tr.sz F + 1) ≤ nI (Tr.sz F + 1) by rw [nI_le' (by omega) (by omega)]; omega)]
      exact if_pos y1.f01.symm
    have hgo := y6 (f', nI 0, f', z', N', b') 0 0 (by
      unfold W68
      rw [show 0 + (Tr.sz F + 1) - 1 = Tr.sz F by omega, show FU - (Tr.sz F + 1) = (FU - (Tr.sz F + 1) - 1) + 1 by unfold FU; omega, show FU - cc = (FU - cc - 1) + 1 by unfold FU; omega, F_Wr_fits_68]
      by_cases c0 : nI (Tr.sz F) < nI cc
      · rw [if_pos c0, show nI (Tr.sz F) + 1 = nI (Tr.sz F + 1) from nI_add' _ 1]
        exact hend _
      · rw [if_neg c0, if_pos (by decide), show nI (Tr.sz F) + 1 = nI (Tr.sz F + 1) from nI_add' _ 1]
        exact hend _)
    refine ⟨f', nI 0, z', N', b', c + 0, s + 0, hgo, y2, ?_⟩
    rcases y1 with ⟨k1, k2, k3, L, k4, k5⟩ | ⟨k1, k2, L, k3, k4, k5⟩
    · exact Or.inl ⟨k1, k2, k3, L, k4, k5⟩
    · exact Or.inr ⟨k1, k2, L, k4, k5⟩
end P
end

section
/-! what the characters say of tokens -/
set_option maxRecDepth 100000 in
theorem kw_dec : (List.range 14).all (fun w => !(w == 0 || w == 1 || w == 2 || w == 3 || w == 4 || w == 5 || w == 9 || w == 12 || w == 13) || (gBn (40 + w)).map nI == kwW (10 + w)) = true := by decide +kernel
set_option maxRecDepth 100000 in
theorem sgC_dec : (List.range 256).all (fun c => [0, 124, 38, 61, 42, 47, 94].all (fun d => match sgIx c d with
  | some s => (s != 20 || c == 40) && (s != 21 || c == 41) && (s != 22 || c == 91) && (s != 23 || c == 93) && (s != 24 || c == 44) && (s != 25 || c == 59) && (s != 26 || c == 61) && (s != 8 || c == 58) && (s != 18 || c == 39) && (s != 10 || c == 45) && (s != 9 || c == 43) && (s != 19 || c == 126)
  | none => true)) = true := by decide +kernel
set_option maxRecDepth 100000 in
theorem sgL_one : sgL 20 = 1 ∧ sgL 21 = 1 ∧ sgL 22 = 1 ∧ sgL 23 = 1 ∧ sgL 24 = 1 ∧ sgL 25 = 1 ∧ sgL 26 = 1 ∧ sgL 8 = 1 ∧ sgL 18 = 1 ∧ sgL 19 = 1 := by decide +kernel
def sgCh (s c : Nat) : Prop := (s = 20 → c = 40) ∧ (s = 21 → c = 41) ∧ (s = 22 → c = 91) ∧ (s = 23 → c = 93) ∧ (s = 24 → c = 44) ∧ (s = 25 → c = 59) ∧ (s = 26 → c = 61) ∧ (s = 8 → c = 58) ∧ (s = 18 → c = 39) ∧ (s = 10 → c = 45) ∧ (s = 9 → c = 43) ∧ (s = 19 → c = 126)
theorem sg_ch {c d s : Nat} (hc : c < 256) (h : sgIx c d = some s) : sgCh s c := by
  have key : ∀ d, d ∈ [0, 124, 38, 61, 42, 47, 94] → sgIx c d = some s → sgCh s c := by
    intro d hd h
    have := List.all_eq_true.mp (List.all_eq_true.mp sgC_dec c (List.mem_range.mpr hc)) d hd
    rw [h] at this
    simp only [Bool.and_eq_true, Bool.or_eq_true, bne_iff_ne, beq_iff_eq] at this
    obtain ⟨⟨⟨⟨⟨⟨⟨⟨⟨⟨⟨a1, a2⟩, a3⟩, a4⟩, a5⟩, a6⟩, a7⟩, a8⟩, a9⟩, a10⟩, a11⟩, a12⟩ := this
    exact ⟨fun e => a1.resolve_left (fun x => x e), fun e => a2.resolve_left (fun x => x e), fun e => a3.resolve_left (fun x => x e), fun e => a4.resolve_left (fun x => x e), fun e => a5.resolve_left (fun x => x e), fun e => a6.resolve_left (fun x => x e), fun e => a7.resolve_left (fun x => x e), fun e => a8.resolve_left (fun x => x e), fun e => a9.resolve_left (fun x => x e), fun e => a10.resolve_left (fun x => x e), fun e => a11.resolve_left (fun x => x e), fun e => a12.resolve_left (fun x => x e)⟩
  by_cases h1 : d = 124
  · subst h1; exact key 124 (by decide) h
  by_cases h2 : d = 38
  · subst h2; exact key 38 (by decide) h
  by_cases h3 : d = 61
  · subst h3; exact key 61 (by decide) h
  by_cases h4 : d = 42
  · subst h4; exact key 42 (by decide) h
  by_cases h5 : d = 47
  · subst h5; exact key 47 (by decide) h
  by_cases h6 : d = 94
  · subst h6; exact key 94 (by decide) h
  rw [sgIx_other h1 h2 h3 h4 h5 h6] at h
  exact key 0 (by decide) h
section G
variable {n : Nat} {x : Nat → Nat}
theorem smt_map : ∀ (L : List Nat) (st : Nat), smt n x L st = true → st + L.length ≤ n → (List.range' st L.length).map (fun j => nI (x j)) = L.map nI
  | [], st, _, _ => rfl
  | c :: L, st, h, hn => by
    rw [smt, Bool.and_eq_true, beq_iff_eq] at h
    rw [List.length_cons] at hn
    rw [ltr_in (by omega)] at h
    rw [List.length_cons, List.range'_succ, List.map_cons, List.map_cons, smt_map L (st + 1) h.2 (by omega), h.1]
theorem tk_at (ht : TextIs n x) {i : Nat} (h : 1 < (tkT n x).tkd i) : ∃ st, ((cutE n x).getD i (0, 0, 0)).2.1 = st ∧ ((cutE n x).getD i (0, 0, 0)).2.2 = (tok n x st).2 ∧ (tkT n x).tkd i = (tok n x st).1 ∧ st < n ∧ (tok n x st).2 ≤ n := by
  have hi := kd_in ht h
  obtain ⟨f, p, hs⟩ := cut_suf ht i (by omega)
  have hat := hs.at
  have hp : skp n x p ≤ 65536 := by
    have := cut_pl ht i
    rw [hat] at this
    exact this
  have h' : 1 < cutK n x i p := by
    have : (tkT n x).tkd i = cutK n x i p := by
      show ((cutE n x).getD i (0, 0, 0)).1 = _
      rw [hat]
    omega
  have hk : cutK n x i p = (tok n x (skp n x p)).1 := by
    unfold cutK at h' ⊢
    by_cases c : i = 16384 ∧ (tok n x (skp n x p)).1 ≠ 0
    · rw [if_pos c] at h'; omega
    · rw [if_neg c]
  have hk1 : (tok n x (skp n x p)).1 ≠ 0 ∧ (tok n x (skp n x p)).1 ≠ 1 := by omega
  obtain ⟨_, _, g3, g4, _⟩ := tok_end ht hp
  refine ⟨skp n x p, by rw [hat], by rw [hat], ?_, (g3 hk1.1).2, g4 hk1.2 hk1.1⟩
  show ((cutE n x).getD i (0, 0, 0)).1 = _
  rw [hat]
  exact hk
theorem name_lt (st e : Nat) : nameTok n x st e < 24 := by
  unfold nameTok
  split
  · rename_i w hw
    have := List.mem_range.mp (List.mem_of_find?_eq_some hw)
    omega
  · split <;> omega
/-- a token of one or two signs -/
theorem tk_sign (ht : TextIs n x) {i : Nat} (h : 30 ≤ (tkT n x).tkd i) : ∃ st s, ((cutE n x).getD i (0, 0, 0)).2.1 = st ∧ ((cutE n x).getD i (0, 0, 0)).2.2 = st + sgL s ∧ (tkT n x).tkd i = 30 + s ∧ st < n ∧ sgIx (x st) (ltr n x (st + 1)) = some s := by
  obtain ⟨st, h1, h2, h3, h4, h5⟩ := tk_at ht (show 1 < (tkT n x).tkd i by omega)
  rw [h3] at h
  unfold tok at h h2 h3
  rw [if_pos h4] at h h2 h3
  by_cases c1 : isLet (x st) = true
  · rw [if_pos c1] at h
    have := name_lt (n := n) (x := x) st (nmEnd n x (st + 1))
    dsimp only at h
    omega
  rw [if_neg c1] at h h2 h3
  by_cases c2 : isDig (x st) = true
  · rw [if_pos c2] at h
    dsimp only at h
    unfold numTok at h
    split at h <;> omega
  rw [if_neg c2] at h h2 h3
  by_cases c3 : x st = 34
  · rw [if_pos c3] at h
    dsimp only at h
    unfold txTok at h
    split at h <;> omega
  rw [if_neg c3] at h h2 h3
  dsimp only at h h2 h3
  cases e : sgIx (x st) (ltr n x (st + 1)) with
  | none =>
    rw [e] at h
    exact absurd h (by show ¬ 30 ≤ 1; omega)
  | some s =>
    rw [e] at h2 h3
    exact ⟨st, s, h1, h2, h3, h4, e⟩
theorem tk_wrd (ht : TextIs n x) {i : Nat} (h : 10 ≤ (tkT n x).tkd i) (h' : (tkT n x).tkd i < 24) : ∃ w, w < 14 ∧ (tkT n x).tkd i = 10 + w ∧ txX n x i = (gBn (40 + w)).map nI := by
  obtain ⟨st, h1, h2, h3, h4, h5⟩ := tk_at ht (show 1 < (tkT n x).tkd i by omega)
  rw [h3] at h h'
  unfold tok at h h' h2 h3 h5
  rw [if_pos h4] at h h' h2 h3 h5
  by_cases c1 : isLet (x st) = true
  · rw [if_pos c1] at h h2 h3 h5
    dsimp only at h h2 h3 h5
    unfold nameTok at h h3
    cases e : wordIx n x st (nmEnd n x (st + 1) - st) with
    | none =>
      rw [e] at h
      dsimp only at h
      split at h <;> omega
    | some w =>
      rw [e] at h3
      have hw := List.mem_range.mp (List.mem_of_find?_eq_some e)
      have hf := List.find?_some e
      unfold wf at hf
      rw [Bool.and_eq_true, beq_iff_eq] at hf
      refine ⟨w, hw, h3, ?_⟩
      have hst : st ≤ nmEnd n x (st + 1) := by
        have := (nmEnd_le (n := n) (x := x) (i := st + 1) (by omega)).1
        omega
      unfold txX
      rw [h1, h2, ← hf.1]
      exact smt_map _ _ hf.2 (by rw [hf.1]; omega)
  rw [if_neg c1] at h h' h2 h3 h5
  by_cases c2 : isDig (x st) = true
  · rw [if_pos c2] at h
    dsimp only at h
    unfold numTok at h
    split at h <;> omega
  rw [if_neg c2] at h h' h2 h3 h5
  by_cases c3 : x st = 34
  · rw [if_pos c3] at h
    dsimp only at h
    unfold txTok at h
    split at h <;> omega
  rw [if_neg c3] at h h'
  dsimp only at h h'
  cases e : sgIx (x st) (ltr n x (st + 1)) with
  | none => rw [e] at h; exact absurd h (by show ¬ 10 ≤ 1; omega)
  | some s => rw [e] at h'; exact absurd h' (by show ¬ 30 + s < 24; omega)
/-- one sign alone -/
theorem tk_one (ht : TextIs n x) {i k c : Nat} (hk : (tkT n x).tkd i = k) (h30 : 30 ≤ k) (hl : sgL (k - 30) = 1) (hc : ∀ s d, s = k - 30 → sgCh s d → d = c) : txX n x i = [nI c] ∧ (tkT n x).twd i = 1 := by
  obtain ⟨st, s, h1, h2, h3, h4, h5⟩ := tk_sign ht (i := i) (by omega)
  have hs : s = k - 30 := by omega
  have hx := hc s (x st) hs (sg_ch (ht.byte st h4) h5)
  constructor
  · unfold txX
    rw [h1, h2, hs, hl, show st + 1 - st = 1 by omega]
    show [nI (x st)] = _
    rw [hx]
  · show nI (((cutE n x).getD i (0, 0, 0)).2.2 - ((cutE n x).getD i (0, 0, 0)).2.1) = 1
    rw [h1, h2, hs, hl, show st + 1 - st = 1 by omega]
    rfl
/-- **what the characters say of tokens** -/
theorem tkC (ht : TextIs n x) : TkC n x := by
  obtain ⟨l20, l21, l22, l23, l24, l25, l26, l8, l18, l19⟩ := sgL_one
  refine ⟨fun i => ⟨fun h => ?_, fun h => ?_, fun h => ?_, fun h => ?_, fun h => ?_, fun h => ?_, fun h => ?_, fun h => ?_⟩, fun i h => ?_, fun i h => ?_, fun i h => ?_, fun i h => ?_, fun i h => ?_⟩
  · exact (tk_one ht h (by omega) l20 (fun s d e g => g.1 e)).1
  · exact (tk_one ht h (by omega) l21 (fun s d e g => g.2.1 e)).1
  · exact (tk_one ht h (by omega) l22 (fun s d e g => g.2.2.1 e)).1
  · exact (tk_one ht h (by omega) l23 (fun s d e g => g.2.2.2.1 e)).1
  · exact (tk_one ht h (by omega) l24 (fun s d e g => g.2.2.2.2.1 e)).1
  · exact (tk_one ht h (by omega) l25 (fun s d e g => g.2.2.2.2.2.1 e)).1
  · exact (tk_one ht h (by omega) l26 (fun s d e g => g.2.2.2.2.2.2.1 e)).1
  · exact (tk_one ht h (by omega) l8 (fun s d e g => g.2.2.2.2.2.2.2.1 e)).1
  · obtain ⟨w, w1, w2, w3⟩ := tk_wrd ht (i := i) (by omega) (by omega)
    rw [w3, w2]
    have := List.all_eq_true.mp kw_dec w (List.mem_range.mpr w1)
    simp only [Bool.or_eq_true, Bool.not_eq_true', Bool.or_eq_false_iff, beq_eq_false_iff_ne, beq_iff_eq] at this
    exact this.resolve_left (fun y => by omega)
  · have h30 := rk_rng h
    obtain ⟨st, s, h1, h2, h3, h4, h5⟩ := tk_sign ht (i := i) (by omega)
    rw [h1, show chr n x st = nI (x st) from if_pos h4]
    have hsg : F_Sc_signs (nI (x st)) (chr n x (st + 1)) = nI (ck (30 + s)) := by
      by_cases c : st + 1 < n
      · rw [show chr n x (st + 1) = nI (x (st + 1)) from if_pos c, Sc_signs_n (ht.byte st h4) (ht.byte _ c)]
        rw [ltr_in c] at h5
        rw [h5]
        rfl
      · rw [show chr n x (st + 1) = -1 from if_neg c, Sc_signs_m (ht.byte st h4)]
        rw [ltr_out c] at h5
        rw [h5]
        rfl
    rw [hsg, ← h3]
    exact rk_ck ((tkOK ht).ok i)
  · obtain ⟨st, s, h1, h2, h3, h4, h5⟩ := tk_sign ht (i := i) (by omega)
    have hx := sg_ch (ht.byte st h4) h5
    obtain ⟨_, _, _, _, _, _, _, _, _, g10, g9, g19⟩ := hx
    have hb := ht.byte st h4
    rw [h1, show chr n x st = nI (x st) from if_pos h4, show (45 : Int32) = nI 45 from Eq.refl _, nI_eq' (by omega) (by omega)]
    constructor
    · intro e
      rcases h with h | h | h
      · exact h
      · have := g9 (by omega); omega
      · have := g19 (by omega); omega
    · intro e
      exact g10 (by omega)
  · exact (tk_one ht h (by omega) l18 (fun s d e g => g.2.2.2.2.2.2.2.2.1 e)).1
  · exact (tk_one ht h (by omega) l19 (fun s d e g => g.2.2.2.2.2.2.2.2.2.2.2 e)).2
end G
end
