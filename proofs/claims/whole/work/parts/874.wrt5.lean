section
theorem and1_nat (z : BitVec 32) : (z &&& 1#32) = BitVec.ofNat 32 (z.toNat % 2) := by
  apply BitVec.eq_of_toNat_eq
  have h := Nat.and_two_pow_sub_one_eq_mod z.toNat 1
  have h2 : z.toNat % 2 ^ 1 < 2 ^ 1 := Nat.mod_lt _ (by decide)
  rw [BitVec.toNat_and, show (1#32).toNat = 2 ^ 1 - 1 from rfl, h, BitVec.toNat_ofNat]
  omega
theorem nI_and1 {k : Nat} (h : k < 2 ^ 31) : nI k &&& 1 = nI (k % 2) := by
  apply Int32.toBitVec_inj.mp
  rw [Int32.toBitVec_and, nI_bv, nI_bv, show (1 : Int32).toBitVec = 1#32 from rfl, and1_nat, BitVec.toNat_ofNat]
  congr 1
  omega
section P
variable {n : Nat} {x : Nat → Nat} {Ns : Nat} {bs : Nat → Int32}
variable {n0 Nt : Nat} {bt : Nat → Int32}
variable {q : Nat} {a : Lb} {l : Tr Lb} {w : Int32}
/-- the whole's end, where r are the parts behind this one -/
theorem Wr_isElse (h7 : n0 * 7 ≤ Nt) (hNt : Nt ≤ 2 ^ 20) (h : NdC bt q a l w) (hq : q < n0) {w' : Nat} {p : Lb} {P r : Tr Lb} {w2 d f : Int32} (hw : w = nI w') (hw' : w' < n0) (hp : NdC bt w' p P w2) (hE : w' + 1 + Tr.sz P = q + 1 + Tr.sz l + Tr.sz r) (hs : q + 1 + Tr.sz l + Tr.sz r < 2 ^ 20) (hP : Tr.rt P < 2 ^ 20) : F_Wr_isElse w (nI q) d f (nI n0) Nt bt = some (if Tr.rt r = 0 ∧ Tr.rt P % 2 = 1 then 1 else 0) := by
  subst hw
  have hrr : Tr.rt r = 0 ↔ Tr.sz r = 0 := by
    constructor
    · intro e
      rw [Tr.rt0 e]; rfl
    · intro e
      have := Tr.rt_le r
      omega
  unfold F_Wr_isElse
  rw [getA h7 hNt h hq, Option.bind_some, getA h7 hNt hp hw', Option.bind_some]
  by_cases c : Tr.rt r = 0
  · have hz := hrr.mp c
    rw [if_pos (show nI (q + 1 + Tr.sz l) = nI (w' + 1 + Tr.sz P) by congr 1; omega), get3 h7 hNt hp hw', Option.bind_some, nI_and1 (by omega)]
    by_cases e : Tr.rt P % 2 = 1
    · rw [if_pos (show nI (Tr.rt P % 2) = 1 by rw [e]; rfl), if_pos ⟨c, e⟩]
    · rw [if_neg (show ¬ nI (Tr.rt P % 2) = 1 by rw [show (1 : Int32) = nI 1 from Eq.refl _, nI_eq' (by omega) (by omega)]; exact e), if_neg (fun y => e y.2)]
  · have hz : Tr.sz r ≠ 0 := fun e => c (hrr.mpr e)
    rw [if_neg (show ¬ nI (q + 1 + Tr.sz l) = nI (w' + 1 + Tr.sz P) by rw [nI_eq' (by omega) (by omega)]; omega), if_neg (fun y => c y.1)]
theorem Wr_op (ht : TextIs n x) (hr : RowIs Ns bs n x) (h7 : n0 * 7 ≤ Nt) (hNt : Nt ≤ 2 ^ 20) (h : NdC bt q a l w) (hq : q < n0) {W : List Int32} {f z d : Int32} {N : Nat} {b : Nat → Int32} (hk : a.k = 40) (hP : PTk n x a.pl a.wd a.tk) (hR : F_Rk_of (F_Sc_signs (chr n x (Int32.toNatClampNeg a.pl)) (chr n x (Int32.toNatClampNeg a.pl + 1))) = nI (rkM ((tkT n x).tkd (Int32.toNatClampNeg a.tk)))) (h8 : rkM ((tkT n x).tkd (Int32.toNatClampNeg a.tk)) ≤ 8) (hF : FS W f z N b) : PutR (F_Wr_putOperation (nI q) d f (nI n0) Nt bt (nI n) Ns bs z N b) N W (opW (tkT n x) (txX n x) a) := by
  have tok : ∀ {W : List Int32} {f z : Int32} {N : Nat} {b : Nat → Int32}, FS W f z N b → PutR (F_Wr_putToken (nI q) d f (nI n0) Nt bt (nI n) Ns bs z N b) N W (tkW (txX n x) a) := fun hF => Wr_tok ht hr h7 hNt h hq (getT h7 hNt h hq (by rw [hk]; decide)) hP hF
  have hrk : rkA (tkT n x) a = rkM ((tkT n x).tkd (Int32.toNatClampNeg a.tk)) := by
    unfold rkA
    rw [if_neg (by rw [hk]; decide), if_neg (by rw [hk]; decide), if_pos hk]
  unfold F_Wr_putOperation opW
  rw [Wr_rank ht hr h7 hNt h hq (fun _ => ⟨hP, hR⟩), Option.bind_some, hrk]
  by_cases c : rkM ((tkT n x).tkd (Int32.toNatClampNeg a.tk)) < 8
  · rw [if_neg (show ¬ nI (rkM ((tkT n x).tkd (Int32.toNatClampNeg a.tk))) = 8 by rw [show (8 : Int32) = nI 8 from Eq.refl _, nI_eq' (by omega) (by omega)]; omega), if_pos c]
    unfold F_Wr_putOperation_17
    exact (PutR.thn (pt26 hF) (fun f1 z1 N1 b1 hF1 => PutR.thn (tok hF1) (fun f2 z2 N2 b2 hF2 => (pt26 hF2).one))).cast (by simp only [List.append_assoc])
  · rw [if_pos (show nI (rkM ((tkT n x).tkd (Int32.toNatClampNeg a.tk))) = 8 by rw [show (8 : Int32) = nI 8 from Eq.refl _, nI_eq' (by omega) (by omega)]; omega), if_neg c]
    unfold F_Wr_putOperation_17
    exact (PutR.thn (pt16 hF) (fun f1 z1 N1 b1 hF1 => PutR.thn (tok hF1) (fun f2 z2 N2 b2 hF2 => (pt16 hF2).one))).cast (by simp only [List.nil_append, List.append_nil])
end P
/-- what is known of a whole when a part is entered -/
abbrev Whl (n : Nat) (x : Nat → Nat) (bt : Nat → Int32) (n0 : Nat) (w : Int32) (p : Lb) (P : Tr Lb) (q : Nat) (l r : Tr Lb) : Prop := (PC bt n0 w p P) ∧ (p.k = 40 → PTk n x p.pl p.wd p.tk ∧ F_Rk_of (F_Sc_signs (chr n x (Int32.toNatClampNeg p.pl)) (chr n x (Int32.toNatClampNeg p.pl + 1))) = nI (rkM ((tkT n x).tkd (Int32.toNatClampNeg p.tk))) ∧ rkM ((tkT n x).tkd (Int32.toNatClampNeg p.tk)) ≤ 8) ∧ (q + 1 + Tr.sz l + Tr.sz r < 2 ^ 20) ∧ (Tr.rt P < 2 ^ 20) ∧ (∀ w' : Nat, w = nI w' → w' < 2 ^ 20 → w' + 1 + Tr.sz P = q + 1 + Tr.sz l + Tr.sz r)
theorem Whl.pc {n : Nat} {x : Nat → Nat} {bt : Nat → Int32} {n0 : Nat} {w : Int32} {p : Lb} {P : Tr Lb} {q : Nat} {l r : Tr Lb} (h : Whl n x bt n0 w p P q l r) : PC bt n0 w p P := h.1
theorem Whl.op {n : Nat} {x : Nat → Nat} {bt : Nat → Int32} {n0 : Nat} {w : Int32} {p : Lb} {P : Tr Lb} {q : Nat} {l r : Tr Lb} (h : Whl n x bt n0 w p P q l r) : p.k = 40 → PTk n x p.pl p.wd p.tk ∧ F_Rk_of (F_Sc_signs (chr n x (Int32.toNatClampNeg p.pl)) (chr n x (Int32.toNatClampNeg p.pl + 1))) = nI (rkM ((tkT n x).tkd (Int32.toNatClampNeg p.tk))) ∧ rkM ((tkT n x).tkd (Int32.toNatClampNeg p.tk)) ≤ 8 := h.2.1
theorem Whl.sm {n : Nat} {x : Nat → Nat} {bt : Nat → Int32} {n0 : Nat} {w : Int32} {p : Lb} {P : Tr Lb} {q : Nat} {l r : Tr Lb} (h : Whl n x bt n0 w p P q l r) : q + 1 + Tr.sz l + Tr.sz r < 2 ^ 20 := h.2.2.1
theorem Whl.rt {n : Nat} {x : Nat → Nat} {bt : Nat → Int32} {n0 : Nat} {w : Int32} {p : Lb} {P : Tr Lb} {q : Nat} {l r : Tr Lb} (h : Whl n x bt n0 w p P q l r) : Tr.rt P < 2 ^ 20 := h.2.2.2.1
theorem Whl.en {n : Nat} {x : Nat → Nat} {bt : Nat → Int32} {n0 : Nat} {w : Int32} {p : Lb} {P : Tr Lb} {q : Nat} {l r : Tr Lb} (h : Whl n x bt n0 w p P q l r) : ∀ w' : Nat, w = nI w' → w' < 2 ^ 20 → w' + 1 + Tr.sz P = q + 1 + Tr.sz l + Tr.sz r := h.2.2.2.2
section P
variable {n : Nat} {x : Nat → Nat} {Ns : Nat} {bs : Nat → Int32}
variable {n0 Nt : Nat} {bt : Nat → Int32}
variable {q : Nat} {a : Lb} {l r : Tr Lb} {w : Int32} {p : Lb} {P : Tr Lb}
theorem Wr_ld (ht : TextIs n x) (hr : RowIs Ns bs n x) (h7 : n0 * 7 ≤ Nt) (hNt : Nt ≤ 2 ^ 20) (h : NdC bt q a l w) (hq : q < n0) (hp : Whl n x bt n0 w p P q l r) {W : List Int32} {f z : Int32} {N d : Nat} {b : Nat → Int32} (hd : d ≤ 20000) (hF : FS W f z N b) : PutR (F_Wr_lead w (nI q) (nI d) f (nI n0) Nt bt z N b (nI n) Ns bs) N W (ldW (tkT n x) (txX n x) p P a r d) := by
  have hk := PC.kk h7 hNt h hq hp.pc
  have hpar : p.k ≠ -1 → ∃ w' w2, w = nI w' ∧ w' < n0 ∧ NdC bt w' p P w2 ∧ KOK p.k ∧ w' < 2 ^ 20 := fun e => by
    rcases hp.pc with ⟨_, h2⟩ | h2
    · exact absurd h2 e
    · exact h2
  unfold F_Wr_lead ldW
  rw [PC.kind h7 hNt hp.pc, Option.bind_some]
  unfold KOK at hk
  rcases hk with e | e | e | e | e | e | e | e | e | e | e | e | e | e | e | e | e | e | e | e | e | e | e | e | e | e | e | e | e | e
  · have hF0 := hF
    simp (decide := true) only [e, ↓reduceIte, or_true, true_or, or_false, false_or]
    exact PutR.ret hF0
  · have hF0 := hF
    simp (decide := true) only [e, ↓reduceIte, or_true, true_or, or_false, false_or]
    exact PutR.ret hF0
  · have hF0 := hF
    simp (decide := true) only [e, ↓reduceIte, or_true, true_or, or_false, false_or]
    exact PutR.ret hF0
  · have hF0 := hF
    simp (decide := true) only [e, ↓reduceIte, or_true, true_or, or_false, false_or]
    exact (pt22 hF0).one
  · have hF0 := hF
    simp (decide := true) only [e, ↓reduceIte, or_true, true_or, or_false, false_or]
    exact PutR.ret hF0
  · have hF0 := hF
    simp (decide := true) only [e, ↓reduceIte, or_true, true_or, or_false, false_or]
    exact PutR.ret hF0
  · have hF0 := hF
    simp (decide := true) only [e, ↓reduceIte, or_true, true_or, or_false, false_or]
    exact PutR.ret hF0
  · have hF0 := hF
    simp (decide := true) only [e, ↓reduceIte, or_true, true_or, or_false, false_or]
    obtain ⟨w', w2, e1, e2, e3, _, e4⟩ := hpar (by rw [e]; decide)
    rw [getK h7 hNt h hq, Option.bind_some]
    by_cases c : a.k = 3
    · rw [if_pos c, if_pos c, Wr_isElse h7 hNt h hq e1 e2 e3 (hp.en w' e1 e4) hp.sm hp.rt, Option.bind_some]
      by_cases c2 : Tr.rt r = 0 ∧ Tr.rt P % 2 = 1
      · rw [if_pos c2, if_pos c2, if_neg (by decide)]
        exact (bl28 hd hF0).one
      · rw [if_neg c2, if_neg c2, if_pos rfl]
        exact PutR.ret hF0
    · rw [if_neg c, if_neg c]
      exact (bl27 hd hF0).one
  · have hF0 := hF
    simp (decide := true) only [e, ↓reduceIte, or_true, true_or, or_false, false_or]
    exact PutR.ret hF0
  · have hF0 := hF
    simp (decide := true) only [e, ↓reduceIte, or_true, true_or, or_false, false_or]
    exact PutR.ret hF0
  · have hF0 := hF
    simp (decide := true) only [e, ↓reduceIte, or_true, true_or, or_false, false_or]
    exact (bl29 hd hF0).one
  · have hF0 := hF
    simp (decide := true) only [e, ↓reduceIte, or_true, true_or, or_false, false_or]
    exact PutR.ret hF0
  · have hF0 := hF
    simp (decide := true) only [e, ↓reduceIte, or_true, true_or, or_false, false_or]
    exact PutR.ret hF0
  · have hF0 := hF
    simp (decide := true) only [e, ↓reduceIte, or_true, true_or, or_false, false_or]
    exact PutR.ret hF0
  · have hF0 := hF
    simp (decide := true) only [e, ↓reduceIte, or_true, true_or, or_false, false_or]
    exact (pt22 hF0).one
  · have hF0 := hF
    simp (decide := true) only [e, ↓reduceIte, or_true, true_or, or_false, false_or]
    exact (pt22 hF0).one
  · have hF0 := hF
    simp (decide := true) only [e, ↓reduceIte, or_true, true_or, or_false, false_or]
    exact PutR.ret hF0
  · have hF0 := hF
    simp (decide := true) only [e, ↓reduceIte, or_true, true_or, or_false, false_or]
    exact (pt24 hF0).one
  · have hF0 := hF
    simp (decide := true) only [e, ↓reduceIte, or_true, true_or, or_false, false_or]
    exact PutR.ret hF0
  · have hF0 := hF
    simp (decide := true) only [e, ↓reduceIte, or_true, true_or, or_false, false_or]
    exact PutR.ret hF0
  · have hF0 := hF
    simp (decide := true) only [e, ↓reduceIte, or_true, true_or, or_false, false_or]
    exact PutR.ret hF0
  · have hF0 := hF
    simp (decide := true) only [e, ↓reduceIte, or_true, true_or, or_false, false_or]
    exact (pt22 hF0).one
  · have hF0 := hF
    simp (decide := true) only [e, ↓reduceIte, or_true, true_or, or_false, false_or]
    exact PutR.ret hF0
  · have hF0 := hF
    simp (decide := true) only [e, ↓reduceIte, or_true, true_or, or_false, false_or]
    exact PutR.ret hF0
  · have hF0 := hF
    simp (decide := true) only [e, ↓reduceIte, or_true, true_or, or_false, false_or]
    exact (pt23 hF0).one
  · have hF0 := hF
    simp (decide := true) only [e, ↓reduceIte, or_true, true_or, or_false, false_or]
    exact (pt22 hF0).one
  · have hF0 := hF
    simp (decide := true) only [e, ↓reduceIte, or_true, true_or, or_false, false_or]
    exact PutR.ret hF0
  · have hF0 := hF
    simp (decide := true) only [e, ↓reduceIte, or_true, true_or, or_false, false_or]
    exact PutR.ret hF0
  · have hF0 := hF
    simp (decide := true) only [e, ↓reduceIte, or_true, true_or, or_false, false_or]
    obtain ⟨w', w2, e1, e2, e3, _⟩ := hpar (by rw [e]; decide)
    subst e1
    obtain ⟨o1, o2, o3⟩ := hp.op e
    exact (Wr_op ht hr h7 hNt e3 e2 e o1 o2 o3 hF0).one
  · have hF0 := hF
    simp (decide := true) only [e, ↓reduceIte, or_true, true_or, or_false, false_or]
    exact (pt25 hF0).one
theorem Wr_tr (ht : TextIs n x) (hr : RowIs Ns bs n x) (h7 : n0 * 7 ≤ Nt) (hNt : Nt ≤ 2 ^ 20) (h : NdC bt q a l w) (hq : q < n0) (hp : Whl n x bt n0 w p P q l r) {W : List Int32} {f z : Int32} {N d : Nat} {b : Nat → Int32} {first : Bool} (hf : first = true ↔ nI q = w + 1) (hrt : Tr.rt l < 2 ^ 20) (hfun : p.k = 1 → ∃ pl1 : Int32, F_Nd_tokenPlace w (nI n0) Nt bt = some pl1 ∧ PTk n x pl1 p.wd p.tk) (hF : FS W f z N b) : PutR (F_Wr_trail w (nI q) (nI d) f (nI n0) Nt bt z N b (nI n) Ns bs) N W (trW (txX n x) first p a l) := by
  have hk := PC.kk h7 hNt h hq hp.pc
  have hpar : p.k ≠ -1 → ∃ w' w2, w = nI w' ∧ w' < n0 ∧ NdC bt w' p P w2 ∧ KOK p.k ∧ w' < 2 ^ 20 := fun e => by
    rcases hp.pc with ⟨_, h2⟩ | h2
    · exact absurd h2 e
    · exact h2
  have key : F_Wr_trail w (nI q) (nI d) f (nI n0) Nt bt z N b (nI n) Ns bs = F_Wr_trail_12 w (nI q) (nI d) f (nI n0) Nt bt z N b (nI n) Ns bs (if first = true then 1 else 0) := by
    unfold F_Wr_trail
    by_cases c : nI q = w + 1
    · rw [if_pos c, if_pos (hf.mpr c)]
    · rw [if_neg c, if_neg (fun e => c (hf.mp e))]
  rw [key]
  unfold F_Wr_trail_12 trW
  rw [PC.kind h7 hNt hp.pc, Option.bind_some]
  unfold KOK at hk
  rcases hk with e | e | e | e | e | e | e | e | e | e | e | e | e | e | e | e | e | e | e | e | e | e | e | e | e | e | e | e | e | e
  · have hF0 := hF
    simp (decide := true) only [e, ↓reduceIte, or_true, true_or, or_false, false_or]
    exact PutR.ret hF0
  · have hF0 := hF
    simp (decide := true) only [e, ↓reduceIte, or_true, true_or, or_false, false_or]
    exact PutR.ret hF0
  · have hF0 := hF
    simp (decide := true) only [e, ↓reduceIte, or_true, true_or, or_false, false_or]
    obtain ⟨w', w2, e1, e2, e3, _, e4⟩ := hpar (by rw [e]; decide)
    obtain ⟨pl1, y1, y2⟩ := hfun e
    subst e1
    have tok : ∀ {W : List Int32} {f z : Int32} {N : Nat} {b : Nat → Int32}, FS W f z N b → PutR (F_Wr_putToken (nI w') (nI d) f (nI n0) Nt bt (nI n) Ns bs z N b) N W (tkW (txX n x) p) := fun hF => Wr_tok ht hr h7 hNt e3 e2 y1 y2 hF
    refine PutR.one ?_
    unfold F_Wr_trailOfFunction
    by_cases c : nI q = nI w' + 1
    · rw [if_pos c, if_pos (hf.mpr c), get3 h7 hNt h hq, Option.bind_some]
      by_cases c0 : Tr.rt l = 0
      · rw [if_pos (show nI (Tr.rt l) ≤ 1 by rw [c0]; decide), if_neg (show ¬ nI (Tr.rt l) = 1 by rw [c0]; decide), if_pos c0]
        unfold F_Wr_trailOfFunction_40
        exact (PutR.thn (pt16 hF0) (fun f1 z1 N1 b1 hF1 => PutR.thn (tok hF1) (fun f2 z2 N2 b2 hF2 => (pt30 hF2).one)))
      · rw [if_neg c0]
        by_cases c1 : Tr.rt l = 1
        · rw [if_pos (show nI (Tr.rt l) ≤ 1 by rw [c1]; decide), if_pos (show nI (Tr.rt l) = 1 by rw [c1]; rfl), if_pos c1]
          unfold F_Wr_trailOfFunction_40
          exact (PutR.thn (pt24 hF0) (fun f1 z1 N1 b1 hF1 => PutR.thn (tok hF1) (fun f2 z2 N2 b2 hF2 => (pt30 hF2).one)))
        · rw [if_neg (show ¬ nI (Tr.rt l) ≤ 1 by rw [show (1 : Int32) = nI 1 from Eq.refl _, nI_le' (by omega) (by omega)]; omega), if_neg c1]
          unfold F_Wr_trailOfFunction_40
          exact (PutR.thn (pt37 hF0) (fun f1 z1 N1 b1 hF1 => PutR.thn (tok hF1) (fun f2 z2 N2 b2 hF2 => (pt30 hF2).one)))
    · rw [if_neg c, if_neg (fun y => c (hf.mp y)), getK h7 hNt h hq, Option.bind_some]
      by_cases c2 : a.k = 2
      · rw [if_pos c2, if_pos c2]
        exact (pt38 hF0).one
      · rw [if_neg c2, if_neg c2]
        exact PutR.ret hF0
  · have hF0 := hF
    simp (decide := true) only [e, ↓reduceIte, or_true, true_or, or_false, false_or]
    exact PutR.ret hF0
  · have hF0 := hF
    simp (decide := true) only [e, ↓reduceIte, or_true, true_or, or_false, false_or]
    exact PutR.ret hF0
  · have hF0 := hF
    simp (decide := true) only [e, ↓reduceIte, or_true, true_or, or_false, false_or]
    exact PutR.ret hF0
  · have hF0 := hF
    simp (decide := true) only [e, ↓reduceIte, or_true, true_or, or_false, false_or]
    cases first with
    | true => exact (pt37 hF0).one
    | false => exact (pt16 hF0).one
  · have hF0 := hF
    simp (decide := true) only [e, ↓reduceIte, or_true, true_or, or_false, false_or]
    rw [getK h7 hNt h hq, Option.bind_some]
    by_cases c : a.k = 3
    · rw [if_pos c, if_pos c]
      exact PutR.ret hF0
    · rw [if_neg c, if_neg c]
      exact (pt38 hF0).one
  · have hF0 := hF
    simp (decide := true) only [e, ↓reduceIte, or_true, true_or, or_false, false_or]
    rw [getK h7 hNt h hq, Option.bind_some]
    by_cases c : a.k = 3
    · rw [if_pos c, if_pos c]
      exact PutR.ret hF0
    · rw [if_neg c, if_neg c]
      exact (pt38 hF0).one
  · have hF0 := hF
    simp (decide := true) only [e, ↓reduceIte, or_true, true_or, or_false, false_or]
    cases first with
    | true => exact (pt24 hF0).one
    | false =>
      show PutR (Option.bind (F_Wr_kind (nI q) (nI d) f (nI n0) Nt bt) _) N W (if a.k = 3 then [] else [41, 10])
      rw [getK h7 hNt h hq, Option.bind_some]
      by_cases c : a.k = 3
      · rw [if_pos c, if_pos c]
        exact PutR.ret hF0
      · rw [if_neg c, if_neg c]
        exact (pt38 hF0).one
  · have hF0 := hF
    simp (decide := true) only [e, ↓reduceIte, or_true, true_or, or_false, false_or]
    exact PutR.ret hF0
  · have hF0 := hF
    simp (decide := true) only [e, ↓reduceIte, or_true, true_or, or_false, false_or]
    exact PutR.ret hF0
  · have hF0 := hF
    simp (decide := true) only [e, ↓reduceIte, or_true, true_or, or_false, false_or]
    exact PutR.ret hF0
  · have hF0 := hF
    simp (decide := true) only [e, ↓reduceIte, or_true, true_or, or_false, false_or]
    exact PutR.ret hF0
  · have hF0 := hF
    simp (decide := true) only [e, ↓reduceIte, or_true, true_or, or_false, false_or]
    exact PutR.ret hF0
  · have hF0 := hF
    simp (decide := true) only [e, ↓reduceIte, or_true, true_or, or_false, false_or]
    exact PutR.ret hF0
  · have hF0 := hF
    simp (decide := true) only [e, ↓reduceIte, or_true, true_or, or_false, false_or]
    exact PutR.ret hF0
  · have hF0 := hF
    simp (decide := true) only [e, ↓reduceIte, or_true, true_or, or_false, false_or]
    exact PutR.ret hF0
  · have hF0 := hF
    simp (decide := true) only [e, ↓reduceIte, or_true, true_or, or_false, false_or]
    exact PutR.ret hF0
  · have hF0 := hF
    simp (decide := true) only [e, ↓reduceIte, or_true, true_or, or_false, false_or]
    exact PutR.ret hF0
  · have hF0 := hF
    simp (decide := true) only [e, ↓reduceIte, or_true, true_or, or_false, false_or]
    exact PutR.ret hF0
  · have hF0 := hF
    simp (decide := true) only [e, ↓reduceIte, or_true, true_or, or_false, false_or]
    exact PutR.ret hF0
  · have hF0 := hF
    simp (decide := true) only [e, ↓reduceIte, or_true, true_or, or_false, false_or]
    exact PutR.ret hF0
  · have hF0 := hF
    simp (decide := true) only [e, ↓reduceIte, or_true, true_or, or_false, false_or]
    exact PutR.ret hF0
  · have hF0 := hF
    simp (decide := true) only [e, ↓reduceIte, or_true, true_or, or_false, false_or]
    exact PutR.ret hF0
  · have hF0 := hF
    simp (decide := true) only [e, ↓reduceIte, or_true, true_or, or_false, false_or]
    exact PutR.ret hF0
  · have hF0 := hF
    simp (decide := true) only [e, ↓reduceIte, or_true, true_or, or_false, false_or]
    exact PutR.ret hF0
  · have hF0 := hF
    simp (decide := true) only [e, ↓reduceIte, or_true, true_or, or_false, false_or]
    exact PutR.ret hF0
  · have hF0 := hF
    simp (decide := true) only [e, ↓reduceIte, or_true, true_or, or_false, false_or]
    exact PutR.ret hF0
  · have hF0 := hF
    simp (decide := true) only [e, ↓reduceIte, or_true, true_or, or_false, false_or]
    exact PutR.ret hF0
end P
end

section
theorem rkM_le8 (k : Nat) : rkM k ≤ 8 := by
  unfold rkM
  split
  · omega
  · have : ∀ j, j < 27 → rkL.getD j 0 ≤ 8 := by decide
    by_cases h : k - 30 < 27
    · exact this _ h
    · have e : rkL[k - 30]? = none := List.getElem?_eq_none (by show 27 ≤ k - 30; omega)
      rw [List.getD_eq_getElem?_getD, e]
      exact Nat.zero_le _
theorem rkA_le (T : Tks) (a : Lb) : rkA T a ≤ 10 := by
  unfold rkA
  have := rkM_le8 (T.tkd (Int32.toNatClampNeg a.tk))
  split
  · omega
  · split
    · omega
    · split
      · omega
      · split <;> omega
/-- what the class sees of an operator, a sign -/
def OpC (n : Nat) (x : Nat → Nat) (a : Lb) : Prop := PTk n x a.pl a.wd a.tk ∧ F_Rk_of (F_Sc_signs (chr n x (Int32.toNatClampNeg a.pl)) (chr n x (Int32.toNatClampNeg a.pl + 1))) = nI (rkM ((tkT n x).tkd (Int32.toNatClampNeg a.tk))) ∧ 0 < rkM ((tkT n x).tkd (Int32.toNatClampNeg a.tk))
def SgC (n : Nat) (x : Nat → Nat) (a : Lb) : Prop := PTk n x a.pl a.wd a.tk ∧ (chr n x (Int32.toNatClampNeg a.pl) = 45 ↔ (tkT n x).tkd (Int32.toNatClampNeg a.tk) = 40)
section P
variable {n : Nat} {x : Nat → Nat} {Ns : Nat} {bs : Nat → Int32}
variable {n0 Nt : Nat} {bt : Nat → Int32}
variable {q : Nat} {a : Lb} {l r : Tr Lb} {w : Int32} {p : Lb} {P : Tr Lb}
theorem Wr_nb (ht : TextIs n x) (hr : RowIs Ns bs n x) (h7 : n0 * 7 ≤ Nt) (hNt : Nt ≤ 2 ^ 20) (h : NdC bt q a l w) (hq : q < n0) (hp : Whl n x bt n0 w p P q l r) {j z0 : Nat} {u0 : Unit} {d f : Int32} (hj : j = 0 ↔ nI q = w + 1) (ho : a.k = 40 → OpC n x a) (hs : a.k = 39 → SgC n x a ∧ ∃ (z1 : Nat) (a1 : Lb) (u1 : Unit) (l1 r1 : Tr Lb), l = .inner z1 a1 u1 l1 r1 ∧ NdC bt (q + 1) a1 l1 (nI q) ∧ q + 1 < n0 ∧ (a1.k = 40 → OpC n x a1)) (hsib : p.k = 40 → j ≠ 0 → Tr.sib P = .inner z0 a u0 l r) : F_Wr_needsBrackets w (nI q) d f (nI n0) Nt bt (nI n) Ns bs = some (if rkA (tkT n x) a < needW (tkT n x) p P j then 1 else 0) := by
  have hk := PC.kk h7 hNt h hq hp.pc
  have hrk : F_Wr_rank (nI q) d f (nI n0) Nt bt (nI n) Ns bs = some (nI (rkA (tkT n x) a)) := Wr_rank ht hr h7 hNt h hq (fun e => ⟨(ho e).1, (ho e).2.1⟩)
  have hle := rkA_le (tkT n x) a
  have cmp : ∀ k : Nat, k ≤ 10 → (nI k ≤ nI (rkA (tkT n x) a) ↔ k ≤ rkA (tkT n x) a) := fun k hk' => by rw [nI_le' (by omega) (by omega)]
  unfold F_Wr_needsBrackets needW
  rw [PC.kind h7 hNt hp.pc, Option.bind_some]
  by_cases c1 : p.k = 38
  · rw [if_pos c1, if_pos c1, hrk, Option.bind_some]
    by_cases c : 9 ≤ rkA (tkT n x) a
    · rw [if_pos (show (9 : Int32) ≤ nI (rkA (tkT n x) a) from (cmp 9 (by omega)).mpr c), if_neg (by omega)]
    · rw [if_neg (show ¬ (9 : Int32) ≤ nI (rkA (tkT n x) a) from fun e => c ((cmp 9 (by omega)).mp e)), if_pos (by omega)]
  rw [if_neg c1, if_neg c1]
  by_cases c2 : p.k = 39
  · rw [if_pos c2, if_pos c2, hrk, Option.bind_some]
    by_cases c : 7 ≤ rkA (tkT n x) a
    · rw [if_pos (show (7 : Int32) ≤ nI (rkA (tkT n x) a) from (cmp 7 (by omega)).mpr c), if_neg (by omega)]
    · rw [if_neg (show ¬ (7 : Int32) ≤ nI (rkA (tkT n x) a) from fun e => c ((cmp 7 (by omega)).mp e)), if_pos (by omega)]
  rw [if_neg c2, if_neg c2]
  by_cases c3 : p.k = 40
  · rw [if_pos c3, if_pos c3]
    obtain ⟨o1, o2, o3⟩ := hp.op c3
    obtain ⟨w', w2, e1, e2, e3, _, e4⟩ : ∃ w' w2, w = nI w' ∧ w' < n0 ∧ NdC bt w' p P w2 ∧ KOK p.k ∧ w' < 2 ^ 20 := by
      rcases hp.pc with ⟨_, h2⟩ | h2
      · rw [c3] at h2; exact absurd h2 (by decide)
      · exact h2
    have hrp : F_Wr_rank w d f (nI n0) Nt bt (nI n) Ns bs = some (nI (rkM ((tkT n x).tkd (Int32.toNatClampNeg p.tk)))) := by
      rw [e1, Wr_rank ht hr h7 hNt e3 e2 (fun _ => ⟨o1, o2⟩)]
      unfold rkA
      rw [if_neg c1, if_neg c2, if_pos c3]
    have hR : ∃ R, R = rkM ((tkT n x).tkd (Int32.toNatClampNeg p.tk)) := ⟨_, rfl⟩
    obtain ⟨R, hRe⟩ := hR
    rw [← hRe] at hrp o3 ⊢
    by_cases c : nI q = w + 1
    · have hj0 := hj.mpr c
      rw [if_pos c, if_pos hj0, hrk, Option.bind_some, hrp, Option.bind_some]
      by_cases c4 : R ≤ rkA (tkT n x) a
      · rw [if_pos ((cmp R (by omega)).mpr c4), if_neg (by omega)]
      · rw [if_neg (fun e => c4 ((cmp R (by omega)).mp e)), if_pos (by omega)]
    · have hj0 : j ≠ 0 := fun e => c (hj.mp e)
      have hsb := hsib c3 hj0
      rw [if_neg c, if_neg hj0, hrk, Option.bind_some, hrp, Option.bind_some, hsb]
      by_cases c4 : R < rkA (tkT n x) a
      · rw [if_pos (show nI R < nI (rkA (tkT n x) a) by rw [nI_lt' (by omega) (by omega)]; exact c4)]
        have hnd : ndT (tkT n x) R (.inner z0 a u0 l r) ≤ R + 1 := by
          unfold ndT
          split
          · split <;> omega
          · omega
        rw [if_neg (by omega)]
      · rw [if_neg (show ¬ nI R < nI (rkA (tkT n x) a) by rw [nI_lt' (by omega) (by omega)]; exact c4)]
        have hps : F_Wr_isPowerSign w (nI q) d f (nI n0) Nt bt (nI n) Ns bs = some (if R = 8 ∧ tgT (tkT n x) (.inner z0 a u0 l r) = true then 1 else 0) := by
          unfold F_Wr_isPowerSign
          rw [hrp, Option.bind_some]
          by_cases c8 : R = 8
          · rw [if_pos (show nI R = 8 by rw [c8]; rfl), getK h7 hNt h hq, Option.bind_some]
            by_cases c39 : a.k = 39
            · obtain ⟨⟨⟨s1, s2, s3⟩, s4⟩, z1, a1, u1, l1, r1, g1, g2, g3, g4⟩ := hs c39
              have hpl := cut_pl ht (Int32.toNatClampNeg a.tk)
              have e : a.pl = nI ((cutE n x).getD (Int32.toNatClampNeg a.tk) (0, 0, 0)).2.1 := s2
              rw [e, nI_clamp' (by omega)] at s4
              rw [if_pos c39, getT h7 hNt h hq (by rw [c39]; decide), Option.bind_some, e, Rw_at hr (by omega), Option.bind_some]
              have htg : tgT (tkT n x) (.inner z0 a u0 l r) = (decide ((tkT n x).tkd (Int32.toNatClampNeg a.tk) = 40) && decide (9 ≤ rkA (tkT n x) a1)) := by
                rw [g1]
                show (decide (a.k = 39) && decide ((tkT n x).tkd (Int32.toNatClampNeg a.tk) = 40) && decide (9 ≤ rkA (tkT n x) a1)) = _
                rw [c39]
                rfl
              rw [htg]
              by_cases c40 : (tkT n x).tkd (Int32.toNatClampNeg a.tk) = 40
              · rw [if_pos (s4.mpr c40), show nI q + 1 = nI (q + 1) from nI_add' q 1, Wr_rank ht hr h7 hNt g2 g3 (fun e => ⟨(g4 e).1, (g4 e).2.1⟩), Option.bind_some]
                have hle1 := rkA_le (tkT n x) a1
                by_cases c9 : 9 ≤ rkA (tkT n x) a1
                · rw [if_neg (show ¬ nI (rkA (tkT n x) a1) < 9 by rw [show (9 : Int32) = nI 9 from Eq.refl _, nI_lt' (by omega) (by omega)]; omega), if_pos ⟨c8, by rw [decide_eq_true c40, decide_eq_true c9]; rfl⟩]
                · rw [if_pos (show nI (rkA (tkT n x) a1) < 9 by rw [show (9 : Int32) = nI 9 from Eq.refl _, nI_lt' (by omega) (by omega)]; omega), if_neg (fun y => by rw [decide_eq_false c9, Bool.and_false] at y; cases y.2)]
              · rw [if_neg (fun y => c40 (s4.mp y)), if_neg (fun y => by rw [decide_eq_false c40, Bool.false_and] at y; cases y.2)]
            · rw [if_neg c39, if_neg (fun y => by
                have : tgT (tkT n x) (.inner z0 a u0 l r) = false := by
                  show (decide (a.k = 39) && _ && _) = false
                  rw [decide_eq_false c39, Bool.false_and, Bool.false_and]
                rw [this] at y
                cases y.2)]
          · rw [if_neg (show ¬ nI R = 8 by rw [show (8 : Int32) = nI 8 from Eq.refl _, nI_eq' (by omega) (by omega)]; exact c8), if_neg (fun y => c8 y.1)]
        rw [hps, Option.bind_some]
        by_cases c8 : R = 8 ∧ tgT (tkT n x) (.inner z0 a u0 l r) = true
        · rw [if_pos c8, if_neg (by decide)]
          have h39 : rkA (tkT n x) a = 7 := by
            have ht9 := c8.2
            have : (decide (a.k = 39) && decide ((tkT n x).tkd (Int32.toNatClampNeg a.tk) = 40) && decide (9 ≤ rkT (tkT n x) l)) = true := ht9
            rw [Bool.and_eq_true, Bool.and_eq_true, decide_eq_true_eq] at this
            unfold rkA
            rw [if_neg (by rw [this.1.1]; decide), if_pos this.1.1]
          have hnd : ndT (tkT n x) R (.inner z0 a u0 l r) = 7 := by
            unfold ndT
            rw [if_pos c8.1, if_pos c8.2]
          rw [hnd, h39, if_neg (by omega)]
        · rw [if_neg c8, if_pos rfl]
          have hnd : R < ndT (tkT n x) R (.inner z0 a u0 l r) := by
            unfold ndT
            by_cases c9 : R = 8
            · rw [if_pos c9, if_neg (fun y => c8 ⟨c9, y⟩)]
              omega
            · rw [if_neg c9]
              omega
          rw [if_pos (by omega)]
  rw [if_neg c3, if_neg c3]
  by_cases c5 : p.k = 41
  · rw [if_pos c5, if_pos c5, hrk, Option.bind_some]
    by_cases c : 5 ≤ rkA (tkT n x) a
    · rw [if_pos (show (5 : Int32) ≤ nI (rkA (tkT n x) a) from (cmp 5 (by omega)).mpr c), if_neg (by omega)]
    · rw [if_neg (show ¬ (5 : Int32) ≤ nI (rkA (tkT n x) a) from fun e => c ((cmp 5 (by omega)).mp e)), if_pos (by omega)]
  rw [if_neg c5, if_neg c5]
  have h1 : 1 ≤ rkA (tkT n x) a := by
    unfold rkA
    split
    · omega
    · split
      · omega
      · split
        · rename_i e
          exact (ho e).2.2
        · split <;> omega
  rw [if_neg (by omega)]
end P
end

section
/-- what the Writer needs of a node -/
def MOK (n : Nat) (x : Nat → Nat) (a : Lb) (l : Tr Lb) : Prop := KOK a.k ∧ ((a.k = 5 ∨ a.k = 15 ∨ a.k = 16 ∨ a.k = 17 ∨ a.k = 18 ∨ a.k = 19 ∨ a.k = 30 ∨ a.k = 31 ∨ a.k = 32 ∨ a.k = 33 ∨ a.k = 34 ∨ a.k = 35 ∨ a.k = 39) → PTk n x a.pl a.wd a.tk) ∧ (a.k = 40 → OpC n x a ∧ Tr.rt l = 2) ∧ (a.k = 39 → SgC n x a ∧ Tr.rt l = 1) ∧ (a.k = 1 → ∃ (z : Nat) (a1 : Lb) (u : Unit) (l1 r1 : Tr Lb), l = .inner z a1 u l1 r1 ∧ PTk n x a1.pl a.wd a.tk)
def AllM (n : Nat) (x : Nat → Nat) : Tr Lb → Prop
  | .leaf => True
  | .inner _ a _ l r => MOK n x a l ∧ AllM n x l ∧ AllM n x r
def brW (T : Tks) (p : Lb) (P : Tr Lb) (j : Nat) (a : Lb) (c : Int32) : List Int32 := if rkA T a < needW T p P j then [c] else []
/-- what is written of a forest t, parts of p from part j on, at indent d -/
def emF (T : Tks) (tx : Nat → List Int32) : Tr Lb → Lb → Tr Lb → Nat → Nat → List Int32
  | .leaf, _, _, _, _ => []
  | .inner _ a _ l r, p, P, j, d => ((if j = 0 then lfW p l d else ldW T tx p P a r d) ++ (brW T p P j a 40 ++ bgW tx a d)) ++ (emF T tx l a l 0 (if a.k = 3 then d + 1 else d) ++ ((fiW a d ++ (brW T p P j a 41 ++ trW tx (decide (j = 0)) p a l)) ++ emF T tx r p P (j + 1) d))
theorem PutR5.thn5 {F : Option (R5 × Nat × Nat)} {k : R5 → Option (R5 × Nat × Nat)} {N d1 d : Nat} {W w1 w2 : List Int32} (h : PutR5 F d1 N W w1) (g : ∀ f z N1 b1, FS (W ++ w1) f z N1 b1 → PutR5 (k (nI d1, f, z, N1, b1)) d N1 (W ++ w1) w2) : PutR5 (bw F k) d N W (w1 ++ w2) := by
  obtain ⟨f, z, N1, b1, c1, s1, h1, h2, h3⟩ := h
  obtain ⟨f2, z2, N2, b2, c2, s2, g1, g2, g3⟩ := g f z N1 b1 h2
  exact ⟨f2, z2, N2, b2, c1 + c2, s1 + s2, bw_ok h1 g1, by rw [← List.append_assoc]; exact g2, h3.trans g3⟩
theorem PutR5.one {F : Option (R5 × Nat × Nat)} {N d : Nat} {W w : List Int32} (h : PutR5 F d N W w) : PutR5 (bw F fun (r : R5) => some ((r.1, r.2.1, r.2.2.1, r.2.2.2.1, r.2.2.2.2), 0, 0)) d N W w :=
  (PutR5.thn5 h (fun f z N1 b1 hh => PutR5.ret hh)).cast (List.append_nil _)
section P
variable {n : Nat} {x : Nat → Nat} {Ns : Nat} {bs : Nat → Int32}
variable {n0 Nt : Nat} {bt : Nat → Int32}
variable {q : Nat} {a : Lb} {l r : Tr Lb} {w : Int32} {p : Lb} {P : Tr Lb}
variable {j z0 : Nat} {u0 : Unit}
theorem Wr_nb' (ht : TextIs n x) (hr : RowIs Ns bs n x) (h7 : n0 * 7 ≤ Nt) (hNt : Nt ≤ 2 ^ 20) (h : NdC bt q a l w) (hq : q < n0) (hp : Whl n x bt n0 w p P q l r) (hj : j = 0 ↔ nI q = w + 1) (hM : MOK n x a l) (hMl : AllM n x l) (hTl : Tr.TH bt (q + 1) (nI q) l) (hn0 : q + 1 + Tr.sz l ≤ n0) (hsib : p.k = 40 → j ≠ 0 → Tr.sib P = .inner z0 a u0 l r) {d f : Int32} : F_Wr_needsBrackets w (nI q) d f (nI n0) Nt bt (nI n) Ns bs = some (if rkA (tkT n x) a < needW (tkT n x) p P j then 1 else 0) := by
  refine Wr_nb ht hr h7 hNt h hq hp hj (fun e => (hM.2.2.1 e).1) (fun e => ?_) hsib
  obtain ⟨s1, s2⟩ := hM.2.2.2.1 e
  refine ⟨s1, ?_⟩
  match l, s2, hMl, hTl, hn0 with
  | .leaf, s2, _, _, _ => exact absurd s2 (by show ¬ (0 : Nat) = 1; decide)
  | .inner z1 a1 u1 l1 r1, s2, hMl, hTl, hn0 =>
    refine ⟨z1, a1, u1, l1, r1, rfl, ⟨hTl.1, hTl.2.1⟩, ?_, fun e => (hMl.1.2.2.1 e).1⟩
    simp only [Tr.sz] at hn0
    omega
theorem Wr_enter (ht : TextIs n x) (hr : RowIs Ns bs n x) (h7 : n0 * 7 ≤ Nt) (hNt : Nt ≤ 2 ^ 20) (h : NdC bt q a l w) (hq : q < n0) (hp : Whl n x bt n0 w p P q l r) (hj : j = 0 ↔ nI q = w + 1) (hM : MOK n x a l) (hMl : AllM n x l) (hTl : Tr.TH bt (q + 1) (nI q) l) (hn0 : q + 1 + Tr.sz l ≤ n0) (hsib : p.k = 40 → j ≠ 0 → Tr.sib P = .inner z0 a u0 l r) {W : List Int32} {f z : Int32} {N d : Nat} {b : Nat → Int32} (hrt : Tr.rt l < 2 ^ 20) (hd : d ≤ 20000) (hF : FS W f z N b) : PutR5 (F_Wr_enter (nI q) (nI d) f (nI n0) Nt bt z N b (nI n) Ns bs) (if a.k = 3 then d + 1 else d) N W ((if j = 0 then lfW p l d else ldW (tkT n x) (txX n x) p P a r d) ++ (brW (tkT n x) p P j a 40 ++ bgW (txX n x) a d)) := by
  have h33 : ∀ {W : List Int32} {f z : Int32} {N : Nat} {b : Nat → Int32}, FS W f z N b → PutR5 (F_Wr_enter_33 (nI q) (nI d) (nI n0) Nt bt (nI n) Ns bs w f z N b) (if a.k = 3 then d + 1 else d) N W (brW (tkT n x) p P j a 40 ++ bgW (txX n x) a d) := by
    intro W f z N b hF
    unfold F_Wr_enter_33 brW
    rw [Wr_nb' ht hr h7 hNt h hq hp hj hM hMl hTl hn0 hsib, Option.bind_some]
    by_cases c : rkA (tkT n x) a < needW (tkT n x) p P j
    · rw [if_pos c, if_pos c, if_neg (by decide)]
      exact PutR5.thn (pt30 hF) (fun f1 z1 N1 b1 hF1 => (Wr_begin ht hr h7 hNt h hq hM.1 hM.2.1 hd hF1).one)
    · rw [if_neg c, if_neg c, if_pos rfl, List.nil_append]
      exact (Wr_begin ht hr h7 hNt h hq hM.1 hM.2.1 hd hF).one
  unfold F_Wr_enter
  rw [get6 h7 hNt h hq, Option.bind_some]
  by_cases c : nI q = w + 1
  · rw [if_pos c, if_pos (hj.mpr c)]
    exact PutR5.thn (Wr_lf h7 hNt h hq hp.pc hrt hd hF) (fun f1 z1 N1 b1 hF1 => h33 hF1)
  · rw [if_neg c, if_neg (fun e => c (hj.mp e))]
    exact PutR5.thn (Wr_ld ht hr h7 hNt h hq hp hd hF) (fun f1 z1 N1 b1 hF1 => h33 hF1)
theorem Wr_leave (ht : TextIs n x) (hr : RowIs Ns bs n x) (h7 : n0 * 7 ≤ Nt) (hNt : Nt ≤ 2 ^ 20) (h : NdC bt q a l w) (hq : q < n0) (hp : Whl n x bt n0 w p P q l r) (hj : j = 0 ↔ nI q = w + 1) (hM : MOK n x a l) (hMl : AllM n x l) (hTl : Tr.TH bt (q + 1) (nI q) l) (hn0 : q + 1 + Tr.sz l ≤ n0) (hsib : p.k = 40 → j ≠ 0 → Tr.sib P = .inner z0 a u0 l r) {W : List Int32} {f z : Int32} {N d : Nat} {b : Nat → Int32} (hrt : Tr.rt l < 2 ^ 20) (hfun : p.k = 1 → ∃ pl1 : Int32, F_Nd_tokenPlace w (nI n0) Nt bt = some pl1 ∧ PTk n x pl1 p.wd p.tk) (hd : d ≤ 20000) (hF : FS W f z N b) : PutR5 (F_Wr_leave (nI q) (nI (if a.k = 3 then d + 1 else d)) f (nI n0) Nt bt z N b (nI n) Ns bs) d N W (fiW a d ++ (brW (tkT n x) p P j a 41 ++ trW (txX n x) (decide (j = 0)) p a l)) := by
  have hf : decide (j = 0) = true ↔ nI q = w + 1 := by rw [decide_eq_true_eq]; exact hj
  unfold F_Wr_leave brW
  rw [get6 h7 hNt h hq, Option.bind_some]
  refine PutR5.thn5 (Wr_finish h7 hNt h hq hM.1 hd hF) (fun f1 z1 N1 b1 hF1 => ?_)
  dsimp only
  rw [Wr_nb' ht hr h7 hNt h hq hp hj hM hMl hTl hn0 hsib, Option.bind_some]
  by_cases c : rkA (tkT n x) a < needW (tkT n x) p P j
  · rw [if_pos c, if_pos c, if_neg (by decide)]
    refine PutR5.thn (pt34 hF1) (fun f2 z2 N2 b2 hF2 => ?_)
    exact (PutR5.thn (Wr_tr ht hr h7 hNt h hq hp hf hrt hfun hF2) (fun f3 z3 N3 b3 hF3 => PutR5.ret hF3)).cast (List.append_nil _)
  · rw [if_neg c, if_neg c, if_pos rfl, List.nil_append]
    exact (PutR5.thn (Wr_tr ht hr h7 hNt h hq hp hf hrt hfun hF1) (fun f3 z3 N3 b3 hF3 => PutR5.ret hF3)).cast (List.append_nil _)
end P
end

section
/-- the loop of fits at its head, and inside: from node k on nodes end -/
noncomputable def W36 (n n0 Nt Ns : Nat) (bt bs : Nat → Int32) (fu k : Nat) (d f z : Int32) (N : Nat) (b : Nat → Int32) := F_Wr_fits_36 (nI n0) Nt bt (nI n) Ns bs fu (nI k) d f N b z
noncomputable def W68 (n n0 Nt Ns : Nat) (bt bs : Nat → Int32) (fu k : Nat) (cc : Nat) (w d f z : Int32) (N : Nat) (b : Nat → Int32) := F_Wr_fits_68 (nI n0) Nt bt (nI n) Ns bs (nI k) (F_Wr_fits_36 (nI n0) Nt bt (nI n) Ns bs fu) (FU - cc) (nI cc) w d f z N b
/-- F has written W' and stands where node k and its wholes end; or W' is too long -/
def Trv (n n0 Nt Ns : Nat) (bt bs : Nat → Int32) (F : Option ((Int32 × Int32 × Int32 × Int32 × Nat × (Nat → Int32)) × Nat × Nat)) (N : Nat) (W' : List Int32) (k fu : Nat) (w : Int32) (d : Nat) : Prop :=
  (∃ d' z' N' b' c s L, F = some ((0, d', 0, z', N', b'), c, s) ∧ 65536 < W'.length ∧ z' = nI (List.length (α := Nat) L) ∧ RowV N' b' L ∧ Grow N N' c s)
  ∨ ∃ f' z' N' b' c s cc, FS W' f' z' N' b' ∧ Grow N N' c s ∧ 1 ≤ cc ∧ cc ≤ k + 1 ∧ (∀ w', w = nI w' → w' < 2 ^ 20 → cc + w' ≤ k) ∧ ∀ R c' s', W68 n n0 Nt Ns bt bs fu k cc w (nI d) f' z' N' b' = some (R, c', s') → F = some (R, c + c', s + s')
theorem FS.long {W w : List Int32} (h : 65536 < W.length) : 65536 < (W ++ w).length := by rw [List.length_append]; omega
/-- what is known of the whole of a forest t at q -/
abbrev Ctx (n : Nat) (x : Nat → Nat) (bt : Nat → Int32) (n0 Nt : Nat) (w : Int32) (p : Lb) (P : Tr Lb) (j q : Nat) (t : Tr Lb) : Prop := (PC bt n0 w p P) ∧ (p.k = 40 → OpC n x p ∧ Tr.rt P = 2) ∧ (p.k = 1 → ∃ pl1 : Int32, F_Nd_tokenPlace w (nI n0) Nt bt = some pl1 ∧ PTk n x pl1 p.wd p.tk) ∧ (∀ w', w = nI w' → w' < 2 ^ 20 → w' + 1 + Tr.sz P = q + Tr.sz t ∧ w' < q) ∧ (j = 0 ↔ nI q = w + 1) ∧ (j = 0 → P = t) ∧ (p.k = 40 → j ≠ 0 → Tr.sib P = t) ∧ (Tr.rt P < 2 ^ 20)
theorem Ctx.pc {n : Nat} {x : Nat → Nat} {bt : Nat → Int32} {n0 Nt : Nat} {w : Int32} {p : Lb} {P : Tr Lb} {j q : Nat} {t : Tr Lb} (h : Ctx n x bt n0 Nt w p P j q t) : PC bt n0 w p P := h.1
theorem Ctx.op {n : Nat} {x : Nat → Nat} {bt : Nat → Int32} {n0 Nt : Nat} {w : Int32} {p : Lb} {P : Tr Lb} {j q : Nat} {t : Tr Lb} (h : Ctx n x bt n0 Nt w p P j q t) : p.k = 40 → OpC n x p ∧ Tr.rt P = 2 := h.2.1
theorem Ctx.fu {n : Nat} {x : Nat → Nat} {bt : Nat → Int32} {n0 Nt : Nat} {w : Int32} {p : Lb} {P : Tr Lb} {j q : Nat} {t : Tr Lb} (h : Ctx n x bt n0 Nt w p P j q t) : p.k = 1 → ∃ pl1 : Int32, F_Nd_tokenPlace w (nI n0) Nt bt = some pl1 ∧ PTk n x pl1 p.wd p.tk := h.2.2.1
theorem Ctx.en {n : Nat} {x : Nat → Nat} {bt : Nat → Int32} {n0 Nt : Nat} {w : Int32} {p : Lb} {P : Tr Lb} {j q : Nat} {t : Tr Lb} (h : Ctx n x bt n0 Nt w p P j q t) : ∀ w', w = nI w' → w' < 2 ^ 20 → w' + 1 + Tr.sz P = q + Tr.sz t ∧ w' < q := h.2.2.2.1
theorem Ctx.hd {n : Nat} {x : Nat → Nat} {bt : Nat → Int32} {n0 Nt : Nat} {w : Int32} {p : Lb} {P : Tr Lb} {j q : Nat} {t : Tr Lb} (h : Ctx n x bt n0 Nt w p P j q t) : j = 0 ↔ nI q = w + 1 := h.2.2.2.2.1
theorem Ctx.hP {n : Nat} {x : Nat → Nat} {bt : Nat → Int32} {n0 Nt : Nat} {w : Int32} {p : Lb} {P : Tr Lb} {j q : Nat} {t : Tr Lb} (h : Ctx n x bt n0 Nt w p P j q t) : j = 0 → P = t := h.2.2.2.2.2.1
theorem Ctx.sib {n : Nat} {x : Nat → Nat} {bt : Nat → Int32} {n0 Nt : Nat} {w : Int32} {p : Lb} {P : Tr Lb} {j q : Nat} {t : Tr Lb} (h : Ctx n x bt n0 Nt w p P j q t) : p.k = 40 → j ≠ 0 → Tr.sib P = t := h.2.2.2.2.2.2.1
theorem Ctx.rt {n : Nat} {x : Nat → Nat} {bt : Nat → Int32} {n0 Nt : Nat} {w : Int32} {p : Lb} {P : Tr Lb} {j q : Nat} {t : Tr Lb} (h : Ctx n x bt n0 Nt w p P j q t) : Tr.rt P < 2 ^ 20 := h.2.2.2.2.2.2.2
section P
variable {n : Nat} {x : Nat → Nat} {Ns : Nat} {bs : Nat → Int32}
variable {n0 Nt : Nat} {bt : Nat → Int32}
theorem Wr_trav (ht : TextIs n x) (hr : RowIs Ns bs n x) (h7 : n0 * 7 ≤ Nt) (hNt : Nt ≤ 2 ^ 20) (hn0 : n0 ≤ 16390) (t : Tr Lb) : ∀ (q j d : Nat) (p : Lb) (P : Tr Lb) (w : Int32) (W : List Int32) (f z : Int32) (N fu : Nat) (b : Nat → Int32), Tr.rt t ≠ 0 → Tr.TH bt q w t → AllM n x t → Ctx n x bt n0 Nt w p P j q t → q + Tr.sz t ≤ n0 → d ≤ q → Tr.sz t < fu → FS W f z N b → Trv n n0 Nt Ns bt bs (W36 n n0 Nt Ns bt bs fu q (nI d) f z N b) N (W ++ emF (tkT n x) (txX n x) t p P j d) (q + Tr.sz t - 1) (fu - Tr.sz t) w d := by
  induction t with
  | leaf => intro _ _ _ _ _ _ _ _ _ _ _ _ h; exact absurd rfl h
  | inner z0 a u0 l r ihl ihr =>
    intro q j d p P w W f z N fu b _ hTH hAM hC hq0 hdq hfu hF
    obtain ⟨fu, rfl⟩ : ∃ fu', fu = fu' + 1 := ⟨fu - 1, by omega⟩
    obtain ⟨t1, t2, t3, t4⟩ := hTH
    obtain ⟨m1, m2, m3⟩ := hAM
    simp only [Tr.sz] at hq0 hfu ⊢
    have hrl := Tr.rt_le l
    have hq : q < n0 := by omega
    have hN : NdC bt q a l w := ⟨t1, t2⟩
    have hp : Whl n x bt n0 w p P q l r := ⟨hC.pc, fun e => ⟨(hC.op e).1.1, (hC.op e).1.2.1, rkM_le8 _⟩, by omega, hC.rt, fun w' e1 e2 => by
      have := (hC.en w' e1 e2).1
      simp only [Tr.sz] at this
      omega⟩
    have hn1 : q + 1 + Tr.sz l ≤ n0 := by omega
    have hw : w = -1 ∨ ∃ w', w = nI w' ∧ w' < q := by
      rcases hC.pc with ⟨h1, _⟩ | ⟨w', w2, h1, _, _, _, h5⟩
      · exact Or.inl h1
      · exact Or.inr ⟨w', h1, (hC.en w' h1 h5).2⟩
    rcases hF.f01.symm with f0 | f1
    · -- too long already
      left
      subst f0
      rcases hF with ⟨_, e, _⟩ | ⟨e1, _, L, e2, e3, e4⟩
      · exact absurd e (by decide)
      · refine ⟨nI d, z, N, b, 0, 0, L, ?_, FS.long e1, e3, e4, Grow.rfl⟩
        unfold W36
        rw [F_Wr_fits_36, if_neg (show ¬ nI n0 ≤ nI q by rw [nI_le' (by omega) (by omega)]; omega), if_pos rfl]
        rfl
    · subst f1
      obtain ⟨f1, z1, N1, b1, c1, s1, e1, v1, g1⟩ := Wr_enter ht hr h7 hNt hN hq hp hC.hd m1 m2 t3 hn1 hC.sib (d := d) (by omega) (by omega) hF
      obtain ⟨dd, hdd⟩ : ∃ dd, dd = (if a.k = 3 then d + 1 else d) := ⟨_, rfl⟩
      have hdd1 : dd ≤ q + 1 := by rw [hdd]; split <;> omega
      rw [← hdd] at e1
      obtain ⟨w1, hw1⟩ : ∃ w1, w1 = (if j = 0 then lfW p l d else ldW (tkT n x) (txX n x) p P a r d) ++ (brW (tkT n x) p P j a 40 ++ bgW (txX n x) a d) := ⟨_, rfl⟩
      obtain ⟨w3, hw3⟩ : ∃ w3, w3 = fiW a d ++ (brW (tkT n x) p P j a 41 ++ trW (txX n x) (decide (j = 0)) p a l) := ⟨_, rfl⟩
      rw [← hw1] at v1
      have hem : emF (tkT n x) (txX n x) (.inner z0 a u0 l r) p P j d = w1 ++ (emF (tkT n x) (txX n x) l a l 0 dd ++ (w3 ++ emF (tkT n x) (txX n x) r p P (j + 1) d)) := by
        rw [emF, hw1, hw3, hdd]
      rw [hem]
      have hgo1 : ∀ R c' s', W68 n n0 Nt Ns bt bs fu q 0 (nI q) (nI dd) f1 z1 N1 b1 = some (R, c', s') → W36 n n0 Nt Ns bt bs (fu + 1) q (nI d) 1 z N b = some (R, c1 + c', s1 + s') := by
        intro R c' s' hh
        unfold W36
        rw [F_Wr_fits_36, if_neg (show ¬ nI n0 ≤ nI q by rw [nI_le' (by omega) (by omega)]; omega), if_neg (by decide)]
        exact bw_ok e1 hh
      -- the node's end
      have hleave : ∀ (k cc : Nat) (f2 z2 : Int32) (N2 fu2 : Nat) (b2 : Nat → Int32) (W2 : List Int32), k = q + Tr.sz l → cc + q ≤ k → FS W2 f2 z2 N2 b2 → ∃ f3 z3 N3 b3 c s, FS (W2 ++ w3) f3 z3 N3 b3 ∧ Grow N2 N3 c s ∧ ∀ R c' s', W68 n n0 Nt Ns bt bs fu2 k (cc + 1) w (nI d) f3 z3 N3 b3 = some (R, c', s') → W68 n n0 Nt Ns bt bs fu2 k cc (nI q) (nI dd) f2 z2 N2 b2 = some (R, c + c', s + s') := by
        intro k cc f2 z2 N2 fu2 b2 W2 hk hcc hF2
        obtain ⟨f3, z3, N3, b3, c3, s3, e3, v3, g3⟩ := Wr_leave ht hr h7 hNt hN hq hp hC.hd m1 m2 t3 hn1 hC.sib (d := d) (by omega) hC.fu (by omega) hF2
        rw [← hdd] at e3
        rw [← hw3] at v3
        refine ⟨f3, z3, N3, b3, c3, s3, v3, g3, fun R c' s' hh => ?_⟩
        unfold W68
        rw [show FU - cc = (FU - (cc + 1)) + 1 by unfold FU; omega, F_Wr_fits_68, if_neg (show ¬ nI k < nI cc by rw [nI_lt' (by omega) (by omega)]; omega), if_neg (show ¬ nI q < 0 by rw [show (0 : Int32) = nI 0 from Eq.refl _, nI_lt' (by omega) (by omega)]; omega), getA h7 hNt hN hq, Option.bind_some, if_pos (show nI (q + 1 + Tr.sz l) = nI k + 1 by rw [show nI k + 1 = nI (k + 1) from nI_add' k 1]; congr 1; omega)]
        refine bw_ok e3 ?_
        dsimp only
        rw [get6 h7 hNt hN hq, Option.bind_some, show nI cc + 1 = nI (cc + 1) from nI_add' cc 1]
        exact hh
      -- the node as a whole
      have hnode : Trv n n0 Nt Ns bt bs (W36 n n0 Nt Ns bt bs (fu + 1) q (nI d) 1 z N b) N (W ++ (w1 ++ (emF (tkT n x) (txX n x) l a l 0 dd ++ w3))) (q + Tr.sz l) (fu - Tr.sz l) w d := by
        by_cases hl0 : Tr.rt l = 0
        · have hl := Tr.rt0 hl0
          have hsl : Tr.sz l = 0 := by rw [hl]; rfl
          obtain ⟨f3, z3, N3, b3, c3, s3, v3, g3, h3⟩ := hleave q 0 f1 z1 N1 fu b1 (W ++ w1) (by omega) (by omega) v1
          right
          refine ⟨f3, z3, N3, b3, c1 + c3, s1 + s3, 1, ?_, g1.trans g3, Nat.le_refl _, by omega, fun w' e1 e2 => ?_, fun R c' s' hh => ?_⟩
          · rw [hl]
            rw [List.append_assoc] at v3
            exact v3
          · have := (hC.en w' e1 e2).2
            omega
          · rw [hsl, Nat.add_zero, Nat.sub_zero] at hh
            have a1 := hgo1 _ _ _ (h3 R c' s' hh)
            rw [a1, Nat.add_assoc, Nat.add_assoc]
        · have hsl : 0 < Tr.sz l := by omega
          have hC' : Ctx n x bt n0 Nt (nI q) a l 0 (q + 1) l := by
            refine ⟨Or.inr ⟨q, w, rfl, hq, hN, m1.1, by omega⟩, fun e => m1.2.2.1 e, fun e => ?_, fun w' e1 e2 => ?_, ⟨fun _ => (nI_add' q 1).symm, fun _ => rfl⟩, fun _ => rfl, fun _ e => absurd rfl e, by omega⟩
            · obtain ⟨zz, a1, uu, l1, r1, y1, y2⟩ := m1.2.2.2.2 e
              rw [y1] at t3
              exact ⟨a1.pl, getTF h7 hNt hN hq e ⟨t3.1, t3.2.1⟩ (by omega), y2⟩
            · have : q = w' := (nI_eq' (by omega) (by omega)).mp e1
              omega
          have hK : ∀ R c' s', W36 n n0 Nt Ns bt bs fu (q + 1) (nI dd) f1 z1 N1 b1 = some (R, c', s') → W36 n n0 Nt Ns bt bs (fu + 1) q (nI d) 1 z N b = some (R, c1 + c', s1 + s') := by
            intro R c' s' hh
            refine hgo1 R c' s' ?_
            unfold W68
            rw [show FU - 0 = (FU - 1) + 1 by unfold FU; omega, F_Wr_fits_68, if_neg (show ¬ nI q < nI 0 by rw [nI_lt' (by omega) (by omega)]; omega), if_neg (show ¬ nI q < 0 by rw [show (0 : Int32) = nI 0 from Eq.refl _, nI_lt' (by omega) (by omega)]; omega), getA h7 hNt hN hq, Option.bind_some, show nI q + 1 = nI (q + 1) from nI_add' q 1, if_neg (show ¬ nI (q + 1 + Tr.sz l) = nI (q + 1) by rw [nI_eq' (by omega) (by omega)]; omega)]
            exact hh
          rcases ihl (q + 1) 0 dd a l (nI q) (W ++ w1) f1 z1 N1 fu b1 hl0 t3 m2 hC' (by omega) (by omega) (by omega) v1 with ⟨d', z', N', b', c, s, L, y1, y2, y3, y4, y5⟩ | ⟨f2, z2, N2, b2, c2, s2, cc, y1, y2, y3, y4, y5, y6⟩
          · left
            refine ⟨d', z', N', b', c1 + c, s1 + s, L, hK _ _ _ y1, ?_, y3, y4, g1.trans y5⟩
            have := FS.long (w := w3) y2
            simp only [List.append_assoc] at this ⊢
            exact this
          · rw [show q + 1 + Tr.sz l - 1 = q + Tr.sz l by omega] at y4 y5 y6
            have hcc := y5 q rfl (by omega)
            obtain ⟨f3, z3, N3, b3, c3, s3, v3, g3, h3⟩ := hleave (q + Tr.sz l) cc f2 z2 N2 (fu - Tr.sz l) b2 _ rfl hcc y1
            right
            refine ⟨f3, z3, N3, b3, c1 + (c2 + c3), s1 + (s2 + s3), cc + 1, ?_, g1.trans (y2.trans g3), by omega, by omega, fun w' e1 e2 => ?_, fun R c' s' hh => ?_⟩
            · simp only [List.append_assoc] at v3 ⊢
              exact v3
            · have := (hC.en w' e1 e2).2
              omega
            · have a1 := hK _ _ _ (y6 _ _ _ (h3 R c' s' hh))
              rw [a1, Nat.add_assoc, Nat.add_assoc, Nat.add_assoc, Nat.add_assoc]
      by_cases hr0 : Tr.rt r = 0
      · have hrl' := Tr.rt0 hr0
        have hsr : Tr.sz r = 0 := by rw [hrl']; rfl
        rw [hrl', emF, List.append_nil, show q + (Tr.sz l + Tr.sz (.leaf : Tr Lb) + 1) - 1 = q + Tr.sz l by
          show q + (Tr.sz l + 0 + 1) - 1 = _
          omega, show fu + 1 - (Tr.sz l + Tr.sz (.leaf : Tr Lb) + 1) = fu - Tr.sz l by
          show fu + 1 - (Tr.sz l + 0 + 1) = _
          omega]
        exact hnode
      · have hsr : 0 < Tr.sz r := by have := Tr.rt_le r; omega
        have hC' : Ctx n x bt n0 Nt w p P (j + 1) (q + 1 + Tr.sz l) r := by
          refine ⟨hC.pc, hC.op, hC.fu, fun w' e1 e2 => ?_, ⟨fun e => by omega, fun e => ?_⟩, fun e => by omega, fun e _ => ?_, hC.rt⟩
          · obtain ⟨k1, k2⟩ := hC.en w' e1 e2
            simp only [Tr.sz] at k1
            omega
          · exfalso
            rcases hw with e1 | ⟨w', e1, e2⟩
            · rw [e1, show (-1 : Int32) + 1 = nI 0 from rfl, nI_eq' (by omega) (by omega)] at e
              omega
            · rw [e1, show nI w' + 1 = nI (w' + 1) from nI_add' w' 1, nI_eq' (by omega) (by omega)] at e
              omega
          · by_cases hj : j = 0
            · rw [hC.hP hj]; rfl
            · have k1 := hC.sib e hj
              have k2 := (hC.op e).2
              exfalso
              match P, k1, k2 with
              | .leaf, k1, _ => cases k1
              | .inner zz pa uu pl pr, k1, k2 =>
                have k1 : pr = .inner z0 a u0 l r := k1
                rw [k1] at k2
                simp only [Tr.rt] at k2
                omega
        rcases hnode with ⟨d', z', N', b', c, s, L, y1, y2, y3, y4, y5⟩ | ⟨f2, z2, N2, b2, c2, s2, cc, y1, y2, y3, y4, y5, y6⟩
        · left
          refine ⟨d', z', N', b', c, s, L, y1, ?_, y3, y4, y5⟩
          have := FS.long (w := emF (tkT n x) (txX n x) r p P (j + 1) d) y2
          simp only [List.append_assoc] at this ⊢
          exact this
        · have hK : ∀ R c' s', W36 n n0 Nt Ns bt bs (fu - Tr.sz l) (q + 1 + Tr.sz l) (nI d) f2 z2 N2 b2 = some (R, c', s') → W36 n n0 Nt Ns bt bs (fu + 1) q (nI d) 1 z N b = some (R, c2 + c', s2 + s') := by
            intro R c' s' hh
            refine y6 R c' s' ?_
            have hkk : nI (q + Tr.sz l) + 1 = nI (q + 1 + Tr.sz l) := by rw [show nI (q + Tr.sz l) + 1 = nI (q + Tr.sz l + 1) from nI_add' _ 1]; congr 1; omega
            unfold W68
            rw [show FU - cc = (FU - cc - 1) + 1 by unfold FU; omega, F_Wr_fits_68]
            by_cases c0 : nI (q + Tr.sz l) < nI cc
            · rw [if_pos c0, hkk]; exact hh
            · rw [if_neg c0]
              by_cases c1 : w < 0
              · rw [if_pos c1, hkk]; exact hh
              · rw [if_neg c1]
                rcases hC.pc with ⟨e1, _⟩ | ⟨w', w2, e1, e2, e3, _, e5⟩
                · rw [e1] at c1; exact absurd (by decide) c1
                · obtain ⟨k1, k2⟩ := hC.en w' e1 e5
                  simp only [Tr.sz] at k1
                  rw [e1, getA h7 hNt e3 e2, Option.bind_some, hkk, if_neg (show ¬ nI (w' + 1 + Tr.sz P) = nI (q + 1 + Tr.sz l) by rw [nI_eq' (by omega) (by omega)]; omega)]
                  exact hh
          have hih := ihr (q + 1 + Tr.sz l) (j + 1) d p P w _ f2 z2 N2 (fu - Tr.sz l) b2 hr0 t4 m3 hC' (by omega) (by omega) (by omega) y1
          rw [show q + 1 + Tr.sz l + Tr.sz r - 1 = q + (Tr.sz l + Tr.sz r + 1) - 1 by omega, show fu - Tr.sz l - Tr.sz r = fu + 1 - (Tr.sz l + Tr.sz r + 1) by omega] at hih
          rw [show W ++ (w1 ++ (emF (tkT n x) (txX n x) l a l 0 dd ++ (w3 ++ emF (tkT n x) (txX n x) r p P (j + 1) d))) = (W ++ (w1 ++ (emF (tkT n x) (txX n x) l a l 0 dd ++ w3))) ++ emF (tkT n x) (txX n x) r p P (j + 1) d by simp only [List.append_assoc]]
          rcases hih with ⟨d', z', N', b', c, s, L, x1, x2, x3, x4, x5⟩ | ⟨f3, z3, N3, b3, c3, s3, cc3, x1, x2, x3, x4, x5, x6⟩
          · exact Or.inl ⟨d', z', N', b', c2 + c, s2 + s, L, hK _ _ _ x1, x2, x3, x4, y2.trans x5⟩
          · refine Or.inr ⟨f3, z3, N3, b3, c2 + c3, s2 + s3, cc3, x1, y2.trans x2, x3, x4, x5, fun R c' s' hh => ?_⟩
            have a1 := hK _ _ _ (x6 R c' s' hh)
            rw [a1, Nat.add_assoc, Nat.add_assoc]
end P
end
