section
/-! the counters stay small -/
theorem cl_succ {x : Int32} {b : Nat} (h : x.toNatClampNeg ≤ b) (hb : b < 2 ^ 20) : (x + 1).toNatClampNeg ≤ b + 1 := by
  by_cases c : 0 ≤ x
  · rw [i32_cl x c, show nI x.toNatClampNeg + 1 = nI (x.toNatClampNeg + 1) from nI_add' _ 1, nI_clamp' (by omega)]
    omega
  · have h1 := (i32_nn x c).2
    have h2 := Int32.lt_iff_toInt_lt.mp h1
    have h0 : (0 : Int32).toInt = 0 := rfl
    have h3 := x.le_toInt
    have h4 : (x + 1).toInt = x.toInt + 1 := by
      rw [Int32.toInt_add]
      have : (1 : Int32).toInt = 1 := rfl
      rw [this, Int.bmod_eq_of_le (by omega) (by omega)]
    unfold Int32.toNatClampNeg
    omega
theorem cl_succ2 {x : Int32} {b : Nat} (h : x.toNatClampNeg ≤ b) (hb : b < 2 ^ 19) : (x + 2).toNatClampNeg ≤ b + 2 := by
  have := cl_succ (cl_succ h (by omega)) (by omega)
  rw [Int32.add_assoc, show (1 : Int32) + 1 = 2 by decide] at this
  exact this
def FmB (b : Nat) (f : Fm) : Prop := f.pa.toNatClampNeg ≤ b ∧ f.ip.toNatClampNeg ≤ b ∧ Sm f.wd ∧ Sm f.iw
def NdB (b : Nat) (d : Nd) : Prop := d.pa.toNatClampNeg ≤ b ∧ Sm d.wd
def Bd (b : Nat) (s : Rs) : Prop := FmB b s.top ∧ (∀ f ∈ s.rest, FmB b f) ∧ (∀ d ∈ s.draft, NdB b d) ∧ ∀ w ∈ s.wait, Sm w.wd
theorem FmB.mono {b b' : Nat} {f : Fm} (h : FmB b f) (hb : b ≤ b') : FmB b' f := ⟨Nat.le_trans h.1 hb, Nat.le_trans h.2.1 hb, h.2.2⟩
theorem Bd.mono {b b' : Nat} {s : Rs} (h : Bd b s) (hb : b ≤ b') : Bd b' s := ⟨h.1.mono hb, fun f hf => (h.2.1 f hf).mono hb, fun d hd => ⟨Nat.le_trans (h.2.2.1 d hd).1 hb, (h.2.2.1 d hd).2⟩, h.2.2.2⟩
theorem Bd.tp {b : Nat} {s : Rs} {f : Fm} (h : Bd b s) (hf : FmB b f) : Bd b (s.s_top f) := ⟨hf, h.2⟩
theorem Bd.nadd {b : Nat} {l : List Nd} {k p q m w : Int32} (h : ∀ d ∈ l, NdB b d) (hm : m.toNatClampNeg ≤ b) (hw : Sm w) : ∀ d ∈ Rs.nadd l k p q m w, NdB b d := by
  intro d hd
  unfold Rs.nadd at hd
  by_cases c : l.length < 16385
  · rw [if_pos c, List.mem_append] at hd
    rcases hd with hd | hd
    · exact h d hd
    · rw [List.mem_singleton] at hd
      subst hd
      exact ⟨hm, hw⟩
  · rw [if_neg c] at hd
    exact h d hd
theorem Bd.add {b : Nat} {s : Rs} {k p q m w : Int32} (h : Bd b s) (hm : m.toNatClampNeg ≤ b) (hw : Sm w) : Bd b (s.add k p q m w) := ⟨h.1, h.2.1, Bd.nadd h.2.2.1 hm hw, h.2.2.2⟩
theorem Bd.tadd {b : Nat} {s : Rs} {k p w : Int32} (h : Bd b s) (hw : Sm w) : Bd b (s.s_wait (Rs.tadd s.wait k p w)) := by
  refine ⟨h.1, h.2.1, h.2.2.1, ?_⟩
  intro x hx
  have hx : x ∈ Rs.tadd s.wait k p w := hx
  unfold Rs.tadd at hx
  by_cases c : s.wait.length < 16384
  · rw [if_pos c, List.mem_append] at hx
    rcases hx with hx | hx
    · exact h.2.2.2 x hx
    · rw [List.mem_singleton] at hx
      subst hx
      exact hw
  · rw [if_neg c] at hx
    exact h.2.2.2 x hx
theorem sm0 : Sm 0 := by unfold Sm; decide
theorem sm1 : Sm 1 := by unfold Sm; decide
theorem Bd.push {b : Nat} {s : Rs} {t : Tok} {k : Int32} (h : Bd b s) (hw : Sm t.wd) : Bd b (s.push t k) := by
  refine ⟨⟨Nat.zero_le _, Nat.zero_le _, hw, hw⟩, ?_, h.2.2⟩
  intro f hf
  have hf : f ∈ s.top :: s.rest := hf
  rw [List.mem_cons] at hf
  rcases hf with hf | hf
  · subst hf; exact h.1
  · exact h.2.1 f hf
theorem Bd.pop {b : Nat} {s : Rs} (h : Bd b s) : Bd b s.pop := by
  have e1 : s.pop.top = s.rest.headD s.top := rfl
  have e2 : s.pop.rest = s.rest.tail := rfl
  refine ⟨?_, ?_, h.2.2⟩
  · rw [e1]
    rcases hr : s.rest with _ | ⟨f, r⟩
    · exact h.1
    · exact h.2.1 f (by rw [hr]; exact List.mem_cons_self ..)
  · intro f hf
    rw [e2] at hf
    exact h.2.1 f (List.mem_of_mem_tail hf)
theorem Bd.ip1 {b : Nat} {s : Rs} (h : Bd b s) (hb : b < 2 ^ 19) : Bd (b + 1) (s.s_top (s.top.s_ip (s.top.ip + 1))) :=
  (h.mono (Nat.le_succ b)).tp ⟨Nat.le_succ_of_le h.1.1, cl_succ h.1.2.1 (by omega), h.1.2.2⟩
theorem Bd.pa1 {b : Nat} {s : Rs} (h : Bd b s) (hb : b < 2 ^ 19) : Bd (b + 1) (s.s_top (s.top.s_pa (s.top.pa + 1))) :=
  (h.mono (Nat.le_succ b)).tp ⟨cl_succ h.1.1 (by omega), Nat.le_succ_of_le h.1.2.1, h.1.2.2⟩
theorem Bd.endStatement {b : Nat} {s : Rs} (h : Bd b s) (hb : b < 2 ^ 19) : Bd (b + 1) s.endStatement := h.ip1 hb
theorem Bd.addNothing {b : Nat} {s : Rs} {p : Int32} (h : Bd b s) (hb : b < 2 ^ 19) : Bd (b + 1) (s.addNothing p) := (h.ip1 hb).add (Nat.zero_le _) sm1
theorem Bd.becomeTargets {b : Nat} {s : Rs} {p : Int32} (h : Bd b s) (hb : b < 2 ^ 19) : Bd (b + 1) (s.becomeTargets p) :=
  Bd.addNothing (s := s.pop.s_top (((s.pop.top.s_k 10).s_sec s.top.pl).s_ip s.top.ip)) (h.pop.tp ⟨h.pop.1.1, h.1.2.1, h.pop.1.2.2⟩) hb
theorem Bd.settleStart {b : Nat} {s : Rs} {t : Tok} (h : Bd b s) (hw : Sm t.wd) : Bd b (s.settleStart t) := by
  refine ⟨⟨h.1.1, h.1.2.1, h.1.2.2.1, ?_⟩, h.2⟩
  show Sm (if s.top.k = 36 ∧ s.top.ip = 0 then t.wd else s.top.iw)
  by_cases c : s.top.k = 36 ∧ s.top.ip = 0
  · rw [if_pos c]; exact hw
  · rw [if_neg c]; exact h.1.2.2.2
theorem Bd.settle2 {b : Nat} {s : Rs} {t : Tok} (h : Bd b s) (hw : Sm t.wd) (hb : b < 2 ^ 19) : Bd (b + 1) (s.settle2 t) := by
  have h1 := h.mono (Nat.le_succ b)
  unfold Rs.settle2
  by_cases a : s.mode = 30
  · rw [if_pos a]; exact h1.settleStart hw
  · rw [if_neg a]
    by_cases b : s.mode = 40 ∧ t.k ≠ 40
    · rw [if_pos b]; exact h1
    · rw [if_neg b]
      by_cases d : s.mode = 41 ∧ t.k ≠ 61
      · rw [if_pos d]; exact h1
      · rw [if_neg d]
        by_cases e : s.mode = 42 ∧ t.k ≠ 44 ∧ t.k ≠ 93
        · rw [if_pos e]; exact h1
        · rw [if_neg e]
          by_cases f : s.mode = 42
          · rw [if_pos f]
            exact Bd.becomeTargets (s := (s.s_wait s.wait.dropLast).endItem) ⟨h.1, h.2.1, h.2.2.1, fun w hw => h.2.2.2 w (List.dropLast_subset _ hw)⟩ hb
          · rw [if_neg f]; exact h1
theorem Bd.settle {b : Nat} {s : Rs} {t : Tok} (h : Bd b s) (hw : Sm t.wd) (hb : b < 2 ^ 19) : Bd (b + 1) (s.settle t) := by
  unfold Rs.settle
  by_cases a : s.mode = 0 ∧ Rs.isWordK t.k = false
  · rw [if_pos a]
    exact Bd.settle2 (s := (s.push t 20).s_mode 30) (h.push hw) hw hb
  · rw [if_neg a]; exact h.settle2 hw hb
end

section
theorem cl2 : (2 : Int32).toNatClampNeg = 2 := by decide
theorem cl1 : (1 : Int32).toNatClampNeg = 1 := by decide
def OB (b : Nat) (o : Option Rs) : Prop := ∀ s', o = some s' → Bd b s'
theorem OB.sm {b : Nat} {s : Rs} (h : Bd b s) : OB b (some s) := fun s' e => by cases e; exact h
theorem OB.no {b : Nat} : OB b none := fun s' e => by cases e
theorem OB.it {b : Nat} {p : Prop} [Decidable p] {x y : Option Rs} (h1 : OB b x) (h2 : OB b y) : OB b (if p then x else y) := by
  by_cases c : p
  · rw [if_pos c]; exact h1
  · rw [if_neg c]; exact h2
theorem Bd.up {b b' : Nat} {s : Rs} (h : Bd b s) (hb : b ≤ b') : Bd b' s := h.mono hb
theorem Bd.addName {b : Nat} {s : Rs} {t : Tok} {m : Int32} (h : Bd b s) (hw : Sm t.wd) : Bd b (s.addName t m) := h.add (Nat.zero_le _) hw
theorem Bd.addItem {b : Nat} {s : Rs} {t : Tok} {m : Int32} (h : Bd b s) (hw : Sm t.wd) : Bd b (s.addItem t m) := h.add (k := m) (p := t.pl) (q := -1) (Nat.zero_le _) hw
theorem Bd.addWord {b : Nat} {s : Rs} {t : Tok} {m : Int32} (h : Bd b s) (hw : Sm t.wd) : Bd b (s.addWord t m) := h.add (Nat.zero_le _) hw
theorem Bd.endBlock {b : Nat} {s : Rs} (h : Bd b s) (hb : b < 2 ^ 19) : Bd (b + 1) s.endBlock :=
  Bd.pa1 (s := s.add 3 s.top.ipl (-1) s.top.ip 0) (h.add h.1.2.1 sm0) hb
theorem Bd.endBlocksS {b : Nat} {s : Rs} (h : Bd b s) (hb : b < 2 ^ 18) : Bd (b + 2) s.endBlocksS :=
  Bd.endStatement (s := ((((s.endBlock.add s.top.k s.top.pl (-1) (s.top.pa + 1) s.top.wd).s_loops (s.loops - (if Rs.isLoopK s.top.k = true then 1 else 0))).s_levels (s.levels - 1)).pop)) (Bd.pop (s := (((s.endBlock.add s.top.k s.top.pl (-1) (s.top.pa + 1) s.top.wd).s_loops (s.loops - (if Rs.isLoopK s.top.k = true then 1 else 0))).s_levels (s.levels - 1))) ((h.endBlock (by omega)).add (cl_succ h.1.1 (by omega)) h.1.2.2.1)) (by omega)
theorem OB.openBlocks {b : Nat} {s : Rs} {t : Tok} {k m : Int32} (h : Bd b s) (hw : Sm t.wd) : OB b (s.openBlocks t k m) := by
  unfold Rs.openBlocks Rs.goDeeper
  by_cases c : s.levels < 60
  · rw [if_pos c]
    exact OB.sm (Bd.push (s := s.s_levels (s.levels + 1)) (t := t) (k := k) h hw)
  · rw [if_neg c]; exact OB.no
theorem OB.nextBlock {b : Nat} {s : Rs} {t : Tok} {k l m : Int32} (h : Bd b s) (hb : b < 2 ^ 19) : OB (b + 1) (s.nextBlock t k l m) := by
  unfold Rs.nextBlock
  have h1 := h.endBlock hb
  exact OB.it OB.no (OB.sm ⟨⟨h1.1.1, Nat.zero_le _, h1.1.2.2⟩, h1.2⟩)
theorem OB.beginStatement {b : Nat} {s : Rs} {t : Tok} (h : Bd b s) (hw : Sm t.wd) (hb : b < 2 ^ 18) : OB (b + 2) (s.beginStatement t) := by
  have h2 := h.up (show b ≤ b + 2 by omega)
  have ob : ∀ k m, OB (b + 2) (s.openBlocks t k m) := fun k m => OB.openBlocks h2 hw
  have nb : ∀ k l m, OB (b + 2) (s.nextBlock t k l m) := fun k l m s' e => (OB.nextBlock h (by omega) s' e).up (by omega)
  have aw : ∀ k, OB (b + 2) (some (s.addWord t k)) := fun k => OB.sm (h2.addWord hw)
  have pv : ∀ k, OB (b + 2) (some ((s.push t k).goOn 30)) := fun k => OB.sm (h2.push (k := k) hw)
  unfold Rs.beginStatement
  exact OB.it (ob _ _) (OB.it (nb _ _ _) (OB.it (nb _ _ _) (OB.it (by unfold Rs.endBlocks; exact OB.it OB.no (OB.sm (h.endBlocksS hb))) (OB.it (ob _ _) (OB.it (ob _ _) (OB.it (OB.it OB.no (aw _)) (OB.it (OB.it OB.no (aw _)) (OB.it (aw _) (OB.it (OB.it (ob _ _) OB.no) (OB.it (pv _) (OB.it (pv _) (OB.it (ob _ _) (OB.it (nb _ _ _) OB.no)))))))))))))
theorem OB.standsInStatement {b : Nat} {s : Rs} {t : Tok} (h : Bd b s) (hw : Sm t.wd) (hb : b < 2 ^ 18) : OB (b + 3) (s.standsInStatement t) := by
  have h3 := h.up (show b ≤ b + 3 by omega)
  unfold Rs.standsInStatement Rs.openHd
  exact OB.it (fun s' e => (OB.beginStatement h hw hb s' e).up (by omega)) (OB.it (OB.it (OB.sm ((h.endStatement (by omega)).up (by omega))) OB.no) (OB.it (OB.it (OB.it (OB.sm (Bd.push (s := s.s_levels (s.levels + 1)) (t := t) (k := 51) h3 hw)) OB.no) OB.no) (OB.it (OB.it (OB.sm (h3.addName hw)) OB.no) (OB.it (OB.it (OB.sm h3) OB.no) OB.no))))
theorem Bd.endNames {b : Nat} {s : Rs} {p : Int32} (h : Bd b s) (hb : b < 2 ^ 19) : Bd (b + 1) (s.endNames p) := by
  have h1 := (h.add (k := 2) (p := p) (q := -1) h.1.2.1 sm0).up (Nat.le_succ b)
  exact ⟨⟨cl_succ h.1.1 (by omega), Nat.zero_le _, h.1.2.2⟩, h1.2⟩
theorem OB.nameFunction {b : Nat} {s : Rs} {sm : Int32 → Int32 → Int32 → Bool} (h : Bd b s) (hb : b < 2 ^ 19) : OB (b + 1) (s.nameFunction sm) := by
  unfold Rs.nameFunction
  exact OB.it OB.no (OB.sm (Bd.endNames (s := s.s_funs (Rs.tadd s.funs 10 s.top.sec s.top.wd)) h hb))
theorem OB.addDifferentName {b : Nat} {s : Rs} {t : Tok} {m : Int32} {sm : Int32 → Int32 → Int32 → Bool} (h : Bd b s) (hw : Sm t.wd) (hb : b < 2 ^ 19) : OB (b + 1) (s.addDifferentName t sm m) := by
  unfold Rs.addDifferentName
  exact OB.it OB.no (OB.it OB.no (OB.sm ((h.ip1 hb).addName hw)))
theorem OB.standsInFunctionHead {b : Nat} {s : Rs} {t : Tok} {sm : Int32 → Int32 → Int32 → Bool} (h : Bd b s) (hw : Sm t.wd) (hb : b < 2 ^ 18) : OB (b + 3) (s.standsInFunctionHead t sm) := by
  have h3 := h.up (show b ≤ b + 3 by omega)
  have ad : ∀ m, OB (b + 3) (s.addDifferentName t sm m) := fun m s' e => (OB.addDifferentName h hw (by omega) s' e).up (by omega)
  have rm : ∀ m, OB (b + 3) (s.roomTo m) := fun m => by unfold Rs.roomTo; exact OB.it (OB.sm h3) OB.no
  have ep : OB (b + 3) (some (s.endParameters t)) := by
    have h1 := (h.endNames (p := s.top.ipl) (by omega)).up (show b + 1 ≤ b + 3 by omega)
    exact OB.sm ⟨⟨h1.1.1, Nat.zero_le _, h1.1.2.2⟩, h1.2⟩
  have fn : OB (b + 3) (s.firstAsName t sm) := by
    unfold Rs.firstAsName
    intro s' e
    rcases hn : s.nameFunction sm with _ | s1
    · rw [hn] at e; cases e
    · rw [hn] at e
      cases e
      have h1 := (OB.nameFunction h (by omega) s1 hn).up (show b + 1 ≤ b + 3 by omega)
      exact ⟨h1.1, h1.2⟩
  have kn : Bd (b + 3) (s.keepName t 11) := ⟨⟨h3.1.1, h3.1.2.1, hw, h3.1.2.2.2⟩, h3.2⟩
  have k2 : OB (b + 3) ((s.keepName t 16).nameFunction sm) := fun s' e => (OB.nameFunction (s := s.keepName t 16) (b := b) ⟨⟨h.1.1, h.1.2.1, hw, h.1.2.2.2⟩, h.2⟩ (by omega) s' e).up (by omega)
  have fr : Bd (b + 3) (((s.add 32 s.top.sec (-1) 0 s.top.wd).s_top (s.top.s_ip 1)).goOn 15) := by
    have h1 := h3.add (k := 32) (p := s.top.sec) (q := -1) (m := 0) (w := s.top.wd) (Nat.zero_le _) h.1.2.2.1
    exact ⟨⟨h3.1.1, show (1 : Int32).toNatClampNeg ≤ b + 3 by rw [cl1]; omega, h3.1.2.2⟩, h1.2⟩
  unfold Rs.standsInFunctionHead
  exact OB.it (OB.it (OB.sm h3) (OB.it (OB.sm kn) OB.no)) (OB.it (OB.it (OB.sm fr) (OB.it fn OB.no)) (OB.it (ad _) (OB.it (OB.it (OB.sm h3) (OB.it (rm _) OB.no)) (OB.it (OB.it (OB.sm h3) OB.no) (OB.it (OB.it k2 OB.no) (OB.it (OB.it (OB.sm ⟨h3.1, h3.2⟩) OB.no) (OB.it (OB.it ep (ad _)) (OB.it (ad _) (OB.it (OB.it ep (OB.it (rm _) OB.no)) OB.no)))))))))
theorem Bd.endPlain {b : Nat} {s : Rs} {k p q m : Int32} (h : Bd b s) (hm : m.toNatClampNeg ≤ b + 2) (hb : b < 2 ^ 18) : Bd (b + 3) ((s.add k p q m s.top.wd).pop.endStatement) :=
  Bd.endStatement (Bd.pop ((h.up (show b ≤ b + 2 by omega)).add hm h.1.2.2.1)) (by omega)
theorem OB.standsInSeveral {b : Nat} {s : Rs} {t : Tok} (h : Bd b s) (hw : Sm t.wd) (hb : b < 2 ^ 18) : OB (b + 3) (s.standsInSeveral t) := by
  have h3 := h.up (show b ≤ b + 3 by omega)
  unfold Rs.standsInSeveral Rs.openCl Rs.roomTo
  exact OB.it (OB.it (OB.sm ((h.addNothing (by omega)).up (by omega))) (OB.it (OB.sm (((h.ip1 (by omega)).addName (t := t) (m := 21) hw).up (by omega))) OB.no)) (OB.it (OB.it (OB.sm (h3.add (k := 2) (p := s.top.sec) (q := -1) h3.1.2.1 sm0)) (OB.it (OB.it (OB.sm h3) OB.no) OB.no)) (OB.it (OB.it (OB.sm ⟨⟨h3.1.1, h3.1.2.1, hw, h3.1.2.2.2⟩, h3.2⟩) OB.no) (OB.it (OB.it (OB.sm (h3.push (t := t) (k := 52) hw)) OB.no) (OB.it (OB.it (OB.it (OB.sm ⟨h3.1, h3.2⟩) OB.no) OB.no) (OB.it (OB.it (OB.sm (h.endPlain (k := 10) (p := s.top.pl) (q := s.top.sec) (m := 2) (by rw [cl2]; omega) hb)) OB.no) OB.no)))))
end

section
theorem Bd.limit {b : Nat} : ∀ (r : List Fm) (f : Fm), FmB b f → (∀ g ∈ r, FmB b g) → FmB b (Rs.limit f r).2.1 ∧ ∀ g ∈ (Rs.limit f r).2.2, FmB b g
  | [], f, h1, h2 => by
    have e2 : Rs.limit f [] = if f.k = 33 then (decide (f.pa < 2), f.s_lim 1, []) else (false, f, []) := by unfold Rs.limit; rfl
    rw [e2]
    by_cases c : f.k = 33
    · rw [if_pos c]; exact ⟨h1, h2⟩
    · rw [if_neg c]; exact ⟨h1, h2⟩
  | g :: r, f, h1, h2 => by
    have e2 : Rs.limit f (g :: r) = if f.k = 33 then (decide (f.pa < 2), f.s_lim 1, g :: r) else if f.k = 50 ∨ f.k = 36 then ((Rs.limit g r).1, f, (Rs.limit g r).2.1 :: (Rs.limit g r).2.2) else (false, f, g :: r) := by rw [Rs.limit]
    rw [e2]
    by_cases c : f.k = 33
    · rw [if_pos c]; exact ⟨h1, h2⟩
    · rw [if_neg c]
      by_cases d : f.k = 50 ∨ f.k = 36
      · rw [if_pos d]
        have ih := Bd.limit r g (h2 g (List.mem_cons_self ..)) (fun x hx => h2 x (List.mem_cons_of_mem _ hx))
        refine ⟨h1, ?_⟩
        intro x hx
        have hx : x ∈ (Rs.limit g r).2.1 :: (Rs.limit g r).2.2 := hx
        rw [List.mem_cons] at hx
        rcases hx with hx | hx
        · subst hx; exact ih.1
        · exact ih.2 x hx
      · rw [if_neg d]; exact ⟨h1, h2⟩
theorem Bd.ddrop {b : Nat} {s : Rs} (h : Bd b s) : Bd b (s.s_draft s.draft.dropLast) := ⟨h.1, h.2.1, fun d hd => h.2.2.1 d (List.dropLast_subset _ hd), h.2.2.2⟩
theorem Bd.lastpa {b : Nat} {l : List Nd} (h : ∀ d ∈ l, NdB b d) : (Rs.lastN l Nd.pa).toNatClampNeg ≤ b ∧ Sm (Rs.lastN l Nd.wd) := by
  unfold Rs.lastN
  rcases e : l.getLast? with _ | d
  · exact ⟨Nat.zero_le _, by unfold Sm; decide⟩
  · exact h d (List.mem_of_getLast? e)
theorem Bd.openArguments {b : Nat} {s : Rs} {t : Tok} (h : Bd b s) (hw : Sm t.wd) : Bd b (s.openArguments t) := by
  have h1 := Bd.push (s := (s.s_draft s.draft.dropLast).s_top (s.top.s_tg 0)) (t := t) (k := 33) h.ddrop hw
  exact ⟨⟨h1.1.1, h1.1.2.1, (Bd.lastpa h.2.2.1).2, h1.1.2.2.2⟩, h1.2⟩
theorem Bd.turnRows {b : Nat} {s : Rs} {t : Tok} (h : Bd b s) (hw : Sm t.wd) : Bd b (s.turnRowsToTargets t) :=
  ⟨⟨h.1.1, h.1.2.1, hw, h.1.2.2.2⟩, h.2.1, Bd.nadd h.ddrop.ddrop.2.2.1 (Bd.lastpa h.ddrop.2.2.1).1 sm0, h.2.2.2⟩
theorem Bd.cg {b : Nat} {s s' : Rs} (h : Bd b s) (f : Fm) (r : List Fm) (d : List Nd) (w : List Wt) (h1 : s.top = f) (h1' : s'.top = f) (h2 : s.rest = r) (h2' : s'.rest = r) (h3 : s.draft = d) (h3' : s'.draft = d) (h4 : s.wait = w) (h4' : s'.wait = w) : Bd b s' := by
  unfold Bd at h ⊢
  rw [h1, h2, h3, h4] at h
  rw [h1', h2', h3', h4']
  exact h
theorem Bd.closeItem {b : Nat} {s : Rs} (h : Bd b s) : Bd b s.closeItem := h.pop.cg (s.rest.headD s.top) s.rest.tail s.draft s.wait rfl rfl rfl rfl rfl rfl rfl rfl
theorem Bd.closeCall {b : Nat} {s : Rs} (h : Bd b s) : Bd b s.closeCall := (Bd.closeItem (h.add (k := 33) (p := s.top.pl) (q := s.top.sec) h.1.1 h.1.2.2.1)).cg (s.rest.headD s.top) s.rest.tail (Rs.nadd s.draft 33 s.top.pl s.top.sec s.top.pa s.top.wd) s.wait rfl rfl rfl rfl rfl rfl rfl rfl
theorem Bd.closeRows {b : Nat} {s : Rs} (h : Bd b s) : Bd b s.closeRows := (Bd.closeItem (h.add (k := 36) (p := s.top.pl) (q := -1) h.1.1 h.1.2.2.1)).cg (s.rest.headD s.top) s.rest.tail (Rs.nadd s.draft 36 s.top.pl (-1) s.top.pa s.top.wd) s.wait rfl rfl rfl rfl rfl rfl rfl rfl
theorem Bd.endRow {b : Nat} {s : Rs} (h : Bd b s) (hb : b < 2 ^ 19) : Bd (b + 1) s.endRow := by
  have h1 := (h.up (Nat.le_succ b)).add (k := 37) (p := s.top.ipl) (q := -1) (m := s.top.ip + 1) (w := s.top.iw) (cl_succ h.1.2.1 (by omega)) h.1.2.2.2
  exact ⟨⟨cl_succ h.1.1 (by omega), Nat.zero_le _, h.1.2.2⟩, h1.2⟩
theorem OB.takeSign {b : Nat} {s : Rs} {t : Tok} (h : Bd b s) (hw : Sm t.wd) : OB b (s.takeSign t) := by
  unfold Rs.takeSign Rs.goDeeper
  by_cases c : s.levels < 60
  · rw [if_pos c]
    exact OB.sm (Bd.tadd (s := (s.s_levels (s.levels + 1)).s_signs (s.signs + 1)) (k := 7) (p := t.pl) h hw)
  · rw [if_neg c]; exact OB.no
theorem OB.sign {b : Nat} {s : Rs} {t : Tok} (h : Bd b s) (hw : Sm t.wd) : OB b (s.sign t) := by
  unfold Rs.sign Rs.takePowerSign
  exact OB.it (OB.takeSign h hw) (OB.it (OB.sm (h.tadd (k := 9) (p := t.pl) hw)) OB.no)
theorem OB.takeAtStart {b : Nat} {s : Rs} {t : Tok} (h : Bd b s) (hw : Sm t.wd) (hb : b < 2 ^ 18) : OB (b + 1) (s.takeAtStart t) := by
  have h1 := h.up (Nat.le_succ b)
  have aa : Bd (b + 1) (s.addAll t) := by
    have h2 := h1.add (k := 34) (p := t.pl) (q := -1) (m := 0) (w := t.wd) (Nat.zero_le _) hw
    exact (h2.tp (f := s.top.s_lim 1) ⟨h1.1.1, h1.1.2.1, h1.1.2.2.1, h1.1.2.2.2⟩).cg (s.top.s_lim 1) s.rest (Rs.nadd s.draft 34 t.pl (-1) 0 t.wd) s.wait rfl rfl rfl rfl rfl rfl rfl rfl
  have sg : OB (b + 1) (match s.takeSign t with
    | some s1 => some (s1.goOn 42)
    | none => some (s.becomeTargets t.pl)) := by
    rcases e : s.takeSign t with _ | s1
    · exact OB.sm (h.becomeTargets (by omega))
    · exact OB.sm ((OB.takeSign h1 hw s1 e).cg s1.top s1.rest s1.draft s1.wait rfl rfl rfl rfl rfl rfl rfl rfl)
  unfold Rs.takeAtStart
  exact OB.it (OB.it (OB.it (OB.sm h1.closeCall) OB.no) OB.no) (OB.it (OB.it (OB.it (OB.sm aa) OB.no) OB.no) (OB.it (OB.it (OB.it (OB.it (OB.sm h1.closeRows) OB.no) OB.no) OB.no) (OB.it sg OB.no)))
theorem Bd.openItem {b : Nat} {s : Rs} {t : Tok} {k : Int32} (h : Bd b s) (hw : Sm t.wd) : Bd b (s.openItem t k) :=
  ((h.push (t := t) (k := k) hw).tp (f := ((((fm_0 k t.pl t.wd).s_wb (nI s.wait.length)).s_sg s.signs).s_tg (if k = 36 ∧ s.top.k = 20 ∧ s.top.pl = t.pl then 1 else 0))) ⟨Nat.zero_le _, Nat.zero_le _, hw, hw⟩).cg ((((fm_0 k t.pl t.wd).s_wb (nI s.wait.length)).s_sg s.signs).s_tg (if k = 36 ∧ s.top.k = 20 ∧ s.top.pl = t.pl then 1 else 0)) (s.top :: s.rest) s.draft s.wait rfl rfl rfl rfl rfl rfl rfl rfl
theorem OB.takeOperand {b : Nat} {s : Rs} {t : Tok} (h : Bd b s) (hw : Sm t.wd) : OB b (s.takeOperand t) := by
  have oi : ∀ k, OB b (s.openI t k) := fun k => by
    unfold Rs.openI
    exact OB.it (OB.sm (Bd.openItem (s := s.s_levels (s.levels + 1)) h hw)) OB.no
  have ea : OB b (s.endArg t) := by
    unfold Rs.endArg
    have hl := Bd.limit s.rest s.top h.1 h.2.1
    exact OB.it (OB.sm (Bd.addItem (s := (s.s_top (Rs.limit s.top s.rest).2.1).s_rest (Rs.limit s.top s.rest).2.2) (m := 35) ⟨hl.1, hl.2, h.2.2⟩ hw)) OB.no
  have sg := OB.sign h hw
  unfold Rs.takeOperand
  exact OB.it (OB.sm (h.addName hw)) (OB.it (OB.sm (h.addItem hw)) (OB.it (OB.sm (h.addItem hw)) (OB.it ea (OB.it (oi _) (OB.it sg (OB.it sg (OB.it (oi _) (OB.it sg OB.no))))))))
theorem wparts_cl (w : Wt) : (Rs.wparts w).toNatClampNeg ≤ 3 := by
  unfold Rs.wparts
  split
  · decide
  · split <;> decide
theorem Bd.endW {b : Nat} {r wb : Int32} (hb : 3 ≤ b) : ∀ (ws : List Wt) (d : List Nd), (∀ w ∈ ws, Sm w.wd) → (∀ x ∈ d, NdB b x) → (∀ w ∈ (Rs.endW r wb ws d).1, Sm w.wd) ∧ ∀ x ∈ (Rs.endW r wb ws d).2, NdB b x
  | [], d, h1, h2 => ⟨h1, h2⟩
  | w :: ws, d, h1, h2 => by
    rw [Rs.endW]
    by_cases c : wb < nI (w :: ws).length ∧ r ≤ w.rk
    · rw [if_pos c]
      exact Bd.endW hb ws _ (fun x hx => h1 x (List.mem_cons_of_mem _ hx)) (Bd.nadd h2 (Nat.le_trans (wparts_cl w) hb) (h1 w (List.mem_cons_self ..)))
    · rw [if_neg c]; exact ⟨h1, h2⟩
theorem Bd.endWaiting {b : Nat} {s : Rs} {r : Int32} (h : Bd b s) (hb : 3 ≤ b) : Bd b (s.endWaiting r) := by
  have h1 := Bd.endW (r := r) (wb := s.top.wb) hb s.wait.reverse s.draft (fun w hw => h.2.2.2 w (List.mem_reverse.mp hw)) h.2.2.1
  exact ⟨h.1, h.2.1, h1.2, fun w hw => h1.1 w (List.mem_reverse.mp hw)⟩
theorem OB.takeOperator {b : Nat} {s : Rs} {t : Tok} (h : Bd b s) (hw : Sm t.wd) (h3 : 3 ≤ b) (hb : b < 2 ^ 18) : OB (b + 3) (s.takeOperator t) := by
  have af : ∀ (s : Rs) (r : Int32), Bd b s → OB (b + 3) (s.afterW t r) := by
    intro s r h
    have hu := h.up (show b ≤ b + 3 by omega)
    have cb : OB (b + 3) (s.closeBracket t) := by
      have hp := ((h.pa1 (by omega)).closeCall).up (show b + 1 ≤ b + 3 by omega)
      have eh : Bd (b + 3) (s.endHead t) := by
        have hq := Bd.pop (s := s.s_levels (s.levels - 1)) h
        refine ⟨⟨?_, Nat.zero_le _, hq.1.2.2⟩, (hq.up (show b ≤ b + 3 by omega)).2⟩
        show ((s.s_levels (s.levels - 1)).pop.top.pa + (if (s.s_levels (s.levels - 1)).pop.top.k = 13 then 2 else 1)).toNatClampNeg ≤ b + 3
        by_cases c : (s.s_levels (s.levels - 1)).pop.top.k = 13
        · rw [if_pos c]; exact Nat.le_succ_of_le (cl_succ2 hq.1.1 (by omega))
        · rw [if_neg c]; exact Nat.le_trans (cl_succ hq.1.1 (by omega)) (by omega)
      unfold Rs.closeBracket
      exact OB.it (OB.sm hp) (OB.it (OB.sm hu.closeItem) (OB.it (OB.sm eh) (OB.it (OB.sm hp) OB.no)))
    have tc : OB (b + 3) s.takeComma := by
      unfold Rs.takeComma
      exact OB.it (OB.sm ((hu.tp (f := (s.top.s_ip (s.top.ip + 1)).s_tg (if s.top.tg ≠ 0 ∧ s.top.ip + 1 < 8 then 1 else 0)) ⟨hu.1.1, ((h.ip1 (by omega)).up (show b + 1 ≤ b + 3 by omega)).1.2.1, hu.1.2.2.1, hu.1.2.2.2⟩).cg ((s.top.s_ip (s.top.ip + 1)).s_tg (if s.top.tg ≠ 0 ∧ s.top.ip + 1 < 8 then 1 else 0)) s.rest s.draft s.wait rfl rfl rfl rfl rfl rfl rfl rfl)) (OB.it OB.no (OB.it (OB.sm (((h.pa1 (by omega)).up (show b + 1 ≤ b + 3 by omega)).cg (s.top.s_pa (s.top.pa + 1)) s.rest s.draft s.wait rfl rfl rfl rfl rfl rfl rfl rfl)) OB.no))
    have tl : OB (b + 3) (s.takeColon t) := by
      unfold Rs.takeColon
      refine OB.it (OB.sm (hu.tadd (k := 4) (p := t.pl) hw)) (OB.it OB.no (OB.sm ⟨hu.1, hu.2.1, hu.2.2.1, ?_⟩))
      intro w hx
      have hx : w ∈ Rs.giveSec s.wait t.pl := hx
      rcases List.eq_nil_or_concat s.wait with hn | ⟨l, v, hv⟩
      · rw [hn] at hx; exact absurd hx (by simp [Rs.giveSec])
      · rw [List.concat_eq_append] at hv
        have hv : s.wait = l ++ [v] := hv
        rw [hv, giveSec_ne, List.mem_append] at hx
        rcases hx with hx | hx
        · exact h.2.2.2 w (by rw [hv]; exact List.mem_append_left _ hx)
        · rw [List.mem_singleton] at hx
          subst hx
          exact h.2.2.2 v (by rw [hv]; exact List.mem_append_right _ (List.mem_singleton.mpr rfl))
    have ts : OB (b + 3) s.takeSemicolon := by
      have p1 : Bd (b + 3) (s.endPlain (s.top.pa + 1)) := h.endPlain (Nat.le_succ_of_le (cl_succ h.1.1 (by omega))) hb
      unfold Rs.takeSemicolon
      exact OB.it (OB.sm p1) (OB.it (OB.sm p1) (OB.it (OB.sm (h.endPlain (by rw [cl1]; omega) hb)) (OB.it (OB.sm (h.endPlain (by rw [cl2]; omega) hb)) (OB.it (OB.sm ((h.endRow (by omega)).up (by omega))) OB.no))))
    have te : OB (b + 3) (s.takeEquals t) := by
      unfold Rs.takeEquals
      exact OB.it (OB.it (OB.it (OB.sm ((hu.tp (f := ((((s.top.s_k 21).s_sec s.top.pl).s_pl t.pl).s_wd t.wd)) ⟨hu.1.1, hu.1.2.1, hw, hu.1.2.2.2⟩).cg ((((s.top.s_k 21).s_sec s.top.pl).s_pl t.pl).s_wd t.wd) s.rest s.draft s.wait rfl rfl rfl rfl rfl rfl rfl rfl)) OB.no) OB.no) OB.no
    unfold Rs.afterW
    exact OB.it cb (OB.it tc (OB.it tl (OB.it ts (OB.it te (OB.it (OB.it (OB.sm (((h.endRow (by omega)).closeRows).up (by omega))) OB.no) (OB.it OB.no (OB.sm (hu.tadd (k := r) (p := t.pl) hw))))))))
  have o2 : ∀ s : Rs, Bd b s → OB (b + 3) (s.operator2 t) := by
    intro s h
    unfold Rs.operator2
    exact OB.it (OB.sm ((h.add (k := 38) (p := t.pl) (q := -1) (m := 1) (w := t.wd) (by rw [cl1]; omega) hw).up (by omega))) (af _ _ (h.endWaiting h3))
  unfold Rs.takeOperator
  exact OB.it (o2 s h) (OB.it (o2 s h) (o2 _ ⟨h.1, h.2⟩))
theorem OB.standsInExpression {b : Nat} {s : Rs} {t : Tok} (h : Bd b s) (hw : Sm t.wd) (h3 : 3 ≤ b) (hb : b < 2 ^ 18) : OB (b + 3) (s.standsInExpression t) := by
  have hu := h.up (show b ≤ b + 3 by omega)
  have to := OB.takeOperator h hw h3 hb
  have tp := OB.takeOperand hu hw
  unfold Rs.standsInExpression Rs.openArgs
  exact OB.it (fun s' e => (OB.takeAtStart h hw hb s' e).up (by omega)) (OB.it tp (OB.it tp (OB.it tp (OB.it to (OB.it (OB.it to (OB.it to OB.no)) (OB.it OB.no (OB.it OB.no (OB.it OB.no (OB.it OB.no (OB.it (OB.it (OB.sm (Bd.openArguments (s := s.s_levels (s.levels + 1)) hu hw)) OB.no) (OB.it (OB.sm (hu.turnRows hw)) OB.no)))))))))))
/-- the counters after a step -/
theorem OB.step {b : Nat} {s : Rs} {t : Tok} {sm : Int32 → Int32 → Int32 → Bool} (h : Bd b s) (hw : Sm t.wd) (h3 : 2 ≤ b) (hb : b < 2 ^ 17) : OB (b + 4) (s.step t sm) := by
  have h1 := h.settle hw (by omega)
  unfold Rs.step Rs.stands
  exact OB.it (OB.standsInExpression h1 hw (by omega) (by omega)) (OB.it (OB.standsInSeveral h1 hw (by omega)) (OB.it (OB.standsInFunctionHead h1 hw (by omega)) (OB.standsInStatement h1 hw (by omega))))
end

section
theorem settle2_mode {s : Rs} {t : Tok} (hk : t.k = 0 ∨ t.k = 1) : (s.settle2 t).mode ≠ 30 ∧ (s.settle2 t).mode ≠ 40 ∧ (s.settle2 t).mode ≠ 41 := by
  have k40 : t.k ≠ 40 := by rcases hk with h | h <;> rw [h] <;> decide
  have k61 : t.k ≠ 61 := by rcases hk with h | h <;> rw [h] <;> decide
  have k44 : t.k ≠ 44 := by rcases hk with h | h <;> rw [h] <;> decide
  have k93 : t.k ≠ 93 := by rcases hk with h | h <;> rw [h] <;> decide
  have k41 : t.k ≠ 41 := by rcases hk with h | h <;> rw [h] <;> decide
  have k58 : t.k ≠ 58 := by rcases hk with h | h <;> rw [h] <;> decide
  have k126 : t.k ≠ 126 := by rcases hk with h | h <;> rw [h] <;> decide
  unfold Rs.settle2
  by_cases a : s.mode = 30
  · rw [if_pos a]
    have e : (s.settleStart t).mode = 31 := by
      show (if t.k = 41 ∨ t.k = 93 ∨ t.k = 58 ∨ (s.canT t ≠ 0 ∧ t.k = 126) then s.mode else 31) = 31
      rw [if_neg (fun x => x.elim k41 (fun x => x.elim k93 (fun x => x.elim k58 (fun x => k126 x.2))))]
    rw [e]; decide
  · rw [if_neg a]
    by_cases b : s.mode = 40
    · rw [if_pos ⟨b, k40⟩]
      show (34 : Int32) ≠ 30 ∧ (34 : Int32) ≠ 40 ∧ (34 : Int32) ≠ 41
      decide
    · rw [if_neg (fun x => b x.1)]
      by_cases d : s.mode = 41
      · rw [if_pos ⟨d, k61⟩]
        show (34 : Int32) ≠ 30 ∧ (34 : Int32) ≠ 40 ∧ (34 : Int32) ≠ 41
        decide
      · rw [if_neg (fun x => d x.1)]
        by_cases e : s.mode = 42
        · rw [if_pos ⟨e, k44, k93⟩]
          show (31 : Int32) ≠ 30 ∧ (31 : Int32) ≠ 40 ∧ (31 : Int32) ≠ 41
          decide
        · rw [if_neg (fun x => e x.1), if_neg e]
          exact ⟨a, b, d⟩
theorem ite_no {p : Prop} [Decidable p] {x y : Option Rs} (h1 : p → x = none) (h2 : ¬ p → y = none) : (if p then x else y) = none := by
  by_cases c : p
  · rw [if_pos c]; exact h1 c
  · rw [if_neg c]; exact h2 c
/-- no wrong token, and no end of the text, stands anywhere -/
theorem stands_wrong {s : Rs} {t : Tok} {sm : Int32 → Int32 → Int32 → Bool} (hk : t.k = 0 ∨ t.k = 1) (hm : s.mode ≠ 30 ∧ s.mode ≠ 40 ∧ s.mode ≠ 41) : s.stands t sm = none := by
  have k : ∀ j : Int32, (0 : Int32) ≠ j → (1 : Int32) ≠ j → ¬ t.k = j := by
    intro j h0 h1 e
    rcases hk with h | h
    · exact h0 (h.symm.trans e)
    · exact h1 (h.symm.trans e)
  have hr : Rs.rankOf t.k = 0 := by rcases hk with h | h <;> rw [h] <;> decide
  have no : ∀ (j : Int32) (x : Option Rs), (0 : Int32) ≠ j → (1 : Int32) ≠ j → t.k = j → x = none := fun j x h0 h1 e => absurd e (k j h0 h1)
  have o2 : ∀ s : Rs, s.operator2 t = none := by
    intro s
    unfold Rs.operator2 Rs.afterW
    exact ite_no (no 39 _ (by decide) (by decide)) fun _ => ite_no (no 41 _ (by decide) (by decide)) fun _ => ite_no (no 44 _ (by decide) (by decide)) fun _ => ite_no (no 58 _ (by decide) (by decide)) fun _ => ite_no (no 59 _ (by decide) (by decide)) fun _ => ite_no (no 61 _ (by decide) (by decide)) fun _ => ite_no (no 93 _ (by decide) (by decide)) fun _ => ite_no (fun _ => rfl) fun x => absurd hr x
  have to : s.takeOperator t = none := by
    unfold Rs.takeOperator
    exact ite_no (fun _ => o2 _) fun _ => ite_no (fun _ => o2 _) fun _ => o2 _
  have tp : s.takeOperand t = none := by
    unfold Rs.takeOperand
    exact ite_no (no 2 _ (by decide) (by decide)) fun _ => ite_no (no 3 _ (by decide) (by decide)) fun _ => ite_no (no 4 _ (by decide) (by decide)) fun _ => ite_no (no 8 _ (by decide) (by decide)) fun _ => ite_no (no 40 _ (by decide) (by decide)) fun _ => ite_no (no 43 _ (by decide) (by decide)) fun _ => ite_no (no 45 _ (by decide) (by decide)) fun _ => ite_no (no 91 _ (by decide) (by decide)) fun _ => ite_no (no 126 _ (by decide) (by decide)) fun _ => rfl
  have ad : ∀ m, s.addDifferentName t sm m = none := by
    intro m
    unfold Rs.addDifferentName
    exact ite_no (fun _ => rfl) fun x => absurd (Classical.not_not.mp x) (k 2 (by decide) (by decide))
  unfold Rs.stands
  refine ite_no (fun _ => ?_) fun _ => ite_no (fun _ => ?_) fun _ => ite_no (fun _ => ?_) fun _ => ?_
  · unfold Rs.standsInExpression
    exact ite_no (fun x => absurd x hm.1) fun _ => ite_no (fun _ => tp) fun _ => ite_no (fun _ => tp) fun _ => ite_no (fun _ => tp) fun _ => ite_no (fun _ => to) fun _ => ite_no (fun _ => ite_no (fun _ => to) fun _ => ite_no (fun _ => to) fun _ => rfl) fun _ => ite_no (fun _ => rfl) fun _ => ite_no (fun _ => rfl) fun _ => ite_no (fun _ => rfl) fun _ => ite_no (fun _ => rfl) fun _ => ite_no (fun x => absurd x hm.2.1) fun _ => ite_no (fun x => absurd x hm.2.2) fun _ => rfl
  · unfold Rs.standsInSeveral
    exact ite_no (fun _ => ite_no (no 126 _ (by decide) (by decide)) fun _ => ite_no (no 2 _ (by decide) (by decide)) fun _ => rfl) fun _ => ite_no (fun _ => ite_no (no 93 _ (by decide) (by decide)) fun _ => ite_no (no 44 _ (by decide) (by decide)) fun _ => rfl) fun _ => ite_no (fun _ => ite_no (no 61 _ (by decide) (by decide)) fun _ => rfl) fun _ => ite_no (fun _ => ite_no (no 2 _ (by decide) (by decide)) fun _ => rfl) fun _ => ite_no (fun _ => ite_no (no 40 _ (by decide) (by decide)) fun _ => rfl) fun _ => ite_no (fun _ => ite_no (no 59 _ (by decide) (by decide)) fun _ => rfl) fun _ => rfl
  · unfold Rs.standsInFunctionHead
    exact ite_no (fun _ => ite_no (no 91 _ (by decide) (by decide)) fun _ => ite_no (no 2 _ (by decide) (by decide)) fun _ => rfl) fun _ => ite_no (fun _ => ite_no (no 61 _ (by decide) (by decide)) fun _ => ite_no (no 40 _ (by decide) (by decide)) fun _ => rfl) fun _ => ite_no (fun _ => ad _) fun _ => ite_no (fun _ => ite_no (no 93 _ (by decide) (by decide)) fun _ => ite_no (no 44 _ (by decide) (by decide)) fun _ => rfl) fun _ => ite_no (fun _ => ite_no (no 61 _ (by decide) (by decide)) fun _ => rfl) fun _ => ite_no (fun _ => ite_no (no 2 _ (by decide) (by decide)) fun _ => rfl) fun _ => ite_no (fun _ => ite_no (no 40 _ (by decide) (by decide)) fun _ => rfl) fun _ => ite_no (fun _ => ite_no (no 41 _ (by decide) (by decide)) fun _ => ad _) fun _ => ite_no (fun _ => ad _) fun _ => ite_no (fun _ => ite_no (no 41 _ (by decide) (by decide)) fun _ => ite_no (no 44 _ (by decide) (by decide)) fun _ => rfl) fun _ => rfl
  · unfold Rs.standsInStatement Rs.beginStatement
    exact ite_no (fun _ => ite_no (no 5 _ (by decide) (by decide)) fun _ => ite_no (no 6 _ (by decide) (by decide)) fun _ => ite_no (no 7 _ (by decide) (by decide)) fun _ => ite_no (no 8 _ (by decide) (by decide)) fun _ => ite_no (no 9 _ (by decide) (by decide)) fun _ => ite_no (no 10 _ (by decide) (by decide)) fun _ => ite_no (no 11 _ (by decide) (by decide)) fun _ => ite_no (no 12 _ (by decide) (by decide)) fun _ => ite_no (no 13 _ (by decide) (by decide)) fun _ => ite_no (no 14 _ (by decide) (by decide)) fun _ => ite_no (no 15 _ (by decide) (by decide)) fun _ => ite_no (no 16 _ (by decide) (by decide)) fun _ => ite_no (no 17 _ (by decide) (by decide)) fun _ => ite_no (no 18 _ (by decide) (by decide)) fun _ => rfl) fun _ => ite_no (fun _ => ite_no (no 59 _ (by decide) (by decide)) fun _ => rfl) fun _ => ite_no (fun _ => ite_no (no 40 _ (by decide) (by decide)) fun _ => rfl) fun _ => ite_no (fun _ => ite_no (no 2 _ (by decide) (by decide)) fun _ => rfl) fun _ => ite_no (fun _ => ite_no (no 61 _ (by decide) (by decide)) fun _ => rfl) fun _ => rfl
theorem step_wrong {s : Rs} {t : Tok} {sm : Int32 → Int32 → Int32 → Bool} (hk : t.k = 0 ∨ t.k = 1) : s.step t sm = none := by
  unfold Rs.step Rs.settle
  exact stands_wrong hk (settle2_mode hk)
end

section
/-- the token from place p on, in the class's kinds -/
def Rs.tk (n : Nat) (x : Nat → Nat) (p : Nat) : Tok := (nI (ck (tok n x (skp n x p)).1), nI (skp n x p), nI ((tok n x (skp n x p)).2 - skp n x p))
/-- the machine's run: a fault's place, or the number of tokens and the last state -/
def Rs.go (n : Nat) (x : Nat → Nat) (sm : Int32 → Int32 → Int32 → Bool) : Nat → Nat → Nat → Rs → Sum Nat (Nat × Rs)
  | 0, _, _, _ => Sum.inl 0
  | fu + 1, v, p, s =>
    if (Rs.tk n x p).k = 0 ∧ s.mode = 0 ∧ s.top.k = 0 then Sum.inr (v, s.add 0 0 (-1) s.top.ip 0)
    else match s.step (Rs.tk n x p) sm with
      | none => Sum.inl (skp n x p)
      | some s' => if v = 16384 then Sum.inl (skp n x p) else Rs.go n x sm fu (v + 1) (tok n x (skp n x p)).2 s'
theorem RTd.pre {ft : Int32} {c c' : Rw} {k sl k' sl' : Nat} {r : (Nat × Nat × (Nat → FrC) × Int32 × Int32 × Int32 × Int32 × Int32 × Int32 × Int32 × Int32 × Int32 × Int32 × Int32 × Int32 × Int32 × Int32 × Int32 × Int32 × Int32 × Int32 × Int32 × Int32 × Int32 × Int32 × Int32 × Int32 × Int32 × Int32 × Int32 × Nat × (Nat → Int32) × Nat × (Nat → Int32) × Nat × (Nat → Int32))} (h : Rs.RTd ft r c' k' sl') (g : Gw c c' k sl) : Rs.RTd ft r c (k + k') (sl + sl') := by
  obtain ⟨h1, h2, c2, h3, h4, h5⟩ := h
  exact ⟨h1, h2, c2, h3, g.trans h4, h5⟩
theorem RT.dead {ft tk nx kd st wd : Int32} {s : Rs} {c c' : Rw} {k sl : Nat} (h : RV s c') (g : Gw c c' k sl) : Rs.RTd ft (Rs.RT (-1) ft s c' tk nx kd st wd) c k sl :=
  ⟨rfl, rfl, c', h.dead, g, rfl, rfl, rfl⟩
/-- what the loop's end says of the run's end -/
def Rs.End (c : Rw) (o : Sum Nat (Nat × Rs)) (r : (Nat × Nat × (Nat → FrC) × Int32 × Int32 × Int32 × Int32 × Int32 × Int32 × Int32 × Int32 × Int32 × Int32 × Int32 × Int32 × Int32 × Int32 × Int32 × Int32 × Int32 × Int32 × Int32 × Int32 × Int32 × Int32 × Int32 × Int32 × Int32 × Int32 × Int32 × Nat × (Nat → Int32) × Nat × (Nat → Int32) × Nat × (Nat → Int32))) (k sl : Nat) : Prop :=
  match o with
  | Sum.inl q => Rs.RTd (nI q) r c k sl
  | Sum.inr (m, s') => ∃ c' tk nx kd st wd, r = Rs.RT (nI m) (-1) s' c' tk nx kd st wd ∧ RV s' c' ∧ Gw c c' k sl
theorem End.pre {c c' : Rw} {o : Sum Nat (Nat × Rs)} {k sl k' sl' : Nat} {r : (Nat × Nat × (Nat → FrC) × Int32 × Int32 × Int32 × Int32 × Int32 × Int32 × Int32 × Int32 × Int32 × Int32 × Int32 × Int32 × Int32 × Int32 × Int32 × Int32 × Int32 × Int32 × Int32 × Int32 × Int32 × Int32 × Int32 × Int32 × Int32 × Int32 × Int32 × Nat × (Nat → Int32) × Nat × (Nat → Int32) × Nat × (Nat → Int32))} (h : Rs.End c' o r k' sl') (g : Gw c c' k sl) : Rs.End c o r (k + k') (sl + sl') := by
  rcases o with q | ⟨m, s'⟩
  · exact RTd.pre h g
  · obtain ⟨c2, tk, nx, kd, st, wd, h1, h2, h3⟩ := h
    exact ⟨c2, tk, nx, kd, st, wd, h1, h2, g.trans h3⟩
theorem take7 {n : Nat} {x : Nat → Nat} (ht : TextIs n x) {N : Nat} {b : Nat → Int32} (hr : RowIs N b n x) {sm : Int32 → Int32 → Int32 → Bool} (hsm : ∀ p q w : Int32, w.toNatClampNeg < 2 ^ 17 → F_Rw_same p q w (nI n) N b = some (if sm p q w = true then 1 else 0)) : ∀ (fu v p : Nat) (s : Rs) (c : Rw) (tk0 kd st wd : Int32), RV s c → Bd (4 * v + 4) s → p ≤ 65536 → v ≤ 16384 → 16384 - v < fu →
    ∃ r k sl, Rs.L7 (F_Rd_take_7 (nI n) N b fu) (nI v) s c tk0 (nI p) kd st wd = some (r, k, sl) ∧ Rs.End c (Rs.go n x sm fu v p s) r k sl
  | 0, v, p, s, c, tk0, kd, st, wd, h, hb, hp, hv, hf => by omega
  | fu + 1, v, p, s, c, tk0, kd, st, wd, h, hb, hp, hv, hf => by
    have hn := ht.le
    have hsk := sk_st (n := n) (x := x) hp hn
    have hte := tok_end ht (st := skp n x p) hsk.2
    have es := Sc_step ht hr (w2 := kd) (w3 := st) (w4 := wd) hp
    have hw0 : (tok n x (skp n x p)).2 - skp n x p ≤ 65537 := by omega
    have hw : Sm (Rs.tk n x p).wd := by
      show (nI ((tok n x (skp n x p)).2 - skp n x p)).toNatClampNeg < 2 ^ 17
      rw [nI_clamp' (by omega)]; omega
    have hw2 : (Rs.tk n x p).wd ≠ -1 := by
      intro e
      have e2 : (nI ((tok n x (skp n x p)).2 - skp n x p)).toInt = (-1 : Int32).toInt := congrArg Int32.toInt e
      unfold nI at e2
      rw [Int32.toInt_ofNat_of_lt (by omega)] at e2
      have : (-1 : Int32).toInt = -1 := rfl
      omega
    have hs1 := hb.settle (t := Rs.tk n x p) hw (by omega)
    have p76 : ∃ r k sl, F_Rd_take_76 (nI n) N b (nI v) c.nD c.bD c.nW c.bW c.nF c.bF s.mode s.levels s.signs s.loops s.top.k s.top.pl s.top.wd s.top.sec s.top.pa s.top.ip s.top.ipl s.top.iw s.top.sg s.top.wb s.top.lim s.top.tg s.top.lb (nI s.draft.length) (nI s.wait.length) (nI s.funs.length) (F_Rd_take_7 (nI n) N b fu) c.fn s.rest.length c.cf (Rs.tk n x p).k (nI (tok n x (skp n x p)).2) (Rs.tk n x p).k (Rs.tk n x p).pl (Rs.tk n x p).wd = some (r, k, sl) ∧ Rs.End c (match s.step (Rs.tk n x p) sm with
      | none => Sum.inl (skp n x p)
      | some s' => if v = 16384 then Sum.inl (skp n x p) else Rs.go n x sm fu (v + 1) (tok n x (skp n x p)).2 s') r k sl := by
      have hla := Bd.lastpa hs1.ddrop.2.2.1
      rcases a_76 h hsm (t := Rs.tk n x p) (nx := nI (tok n x (skp n x p)).2) (v := nI v) (K := F_Rd_take_7 (nI n) N b fu) hw hw2 (Nat.lt_of_le_of_lt hs1.1.1 (by omega)) (Nat.lt_of_le_of_lt (cl_succ hs1.1.1 (by omega)) (by omega)) (Nat.lt_of_le_of_lt hs1.1.2.1 (by omega)) hs1.1.2.2.1 (Nat.lt_of_le_of_lt hla.1 (by omega)) with ⟨s', c', k, sl, hs, e, hv', g⟩ | ⟨hs, r, k, sl, e, hd⟩
      · rw [hs, e]
        dsimp only
        by_cases c0 : v = 16384
        · rw [if_pos c0, if_pos (show nI v = 16384 by rw [c0]; rfl)]
          exact ⟨_, _, _, rfl, RT.dead hv' g⟩
        · rw [if_neg c0, if_neg (show ¬ nI v = 16384 by simp (disch := omega) only [lit_nI, nI_eq', nI_add', nI_le', nI_lt', nI_nn, nI_ge0, nI_clamp', nI_ne1, nI_ne2, nI_ne3, m1_lt, m1_le, m1_ge, m1_gt, if_false, if_true, Option.bind_some, nm_app]; exact c0)]
          have hk : ∀ j : Nat, j ≤ 1 → (tok n x (skp n x p)).1 ≠ j := by
            intro j hj e1
            have e2 : (Rs.tk n x p).k = nI (ck j) := by
              show nI (ck (tok n x (skp n x p)).1) = nI (ck j)
              rw [e1]
            have e3 : (Rs.tk n x p).k = 0 ∨ (Rs.tk n x p).k = 1 := by
              have : j = 0 ∨ j = 1 := by omega
              rcases this with rfl | rfl
              · exact Or.inl e2
              · exact Or.inr e2
            rw [step_wrong e3] at hs
            cases hs
          have hle := hte.2.2.2.1 (hk 1 (by omega)) (hk 0 (by omega))
          obtain ⟨r, k2, sl2, f1, f2⟩ := take7 ht hr hsm fu (v + 1) (tok n x (skp n x p)).2 s' c' (Rs.tk n x p).k (Rs.tk n x p).k (Rs.tk n x p).pl (Rs.tk n x p).wd hv' ((OB.step hb hw (by omega) (by omega) s' hs).up (by omega)) (by omega) (by omega) (by omega)
          rw [show nI v + 1 = nI (v + 1) from nI_add' _ 1, f1]
          exact ⟨r, k + k2, sl + sl2, rfl, End.pre f2 g⟩
      · rw [hs]
        exact ⟨r, k, sl, e, hd⟩
    unfold Rs.L7 F_Rd_take_7
    rw [Rs.go, if_neg (show ¬ 16384 < nI v by simp (disch := omega) only [lit_nI, nI_eq', nI_add', nI_le', nI_lt', nI_nn, nI_ge0, nI_clamp', nI_ne1, nI_ne2, nI_ne3, m1_lt, m1_le, m1_ge, m1_gt, if_false, if_true, Option.bind_some, nm_app]; omega), es, Option.bind_some]
    dsimp only
    by_cases a : (Rs.tk n x p).k = 0
    · by_cases a2 : s.mode = 0
      · by_cases a3 : s.top.k = 0
        · rw [if_pos (show nI (ck (tok n x (skp n x p)).1) = 0 from a), if_pos a2, if_pos a3, if_pos (show (Rs.tk n x p).k = 0 ∧ s.mode = 0 ∧ s.top.k = 0 from ⟨a, a2, a3⟩)]
          obtain ⟨nD1, bD1, k1, sl1, e1, hv1, g1⟩ := a_add h (k := 0) (p := 0) (q := -1) (m := s.top.ip) (w := 0) (by have := hb.1.2.1; omega)
          exact ⟨_, _, _, bw_ok (c' := 0) (s' := 0) e1 rfl, _, _, _, _, _, _, rfl, hv1, g1⟩
        · rw [if_pos (show nI (ck (tok n x (skp n x p)).1) = 0 from a), if_pos a2, if_neg a3, if_neg (show ¬ ((Rs.tk n x p).k = 0 ∧ s.mode = 0 ∧ s.top.k = 0) from fun y => a3 y.2.2)]
          exact p76
      · rw [if_pos (show nI (ck (tok n x (skp n x p)).1) = 0 from a), if_neg a2, if_neg (show ¬ ((Rs.tk n x p).k = 0 ∧ s.mode = 0 ∧ s.top.k = 0) from fun y => a2 y.2.1)]
        exact p76
    · rw [if_neg (show ¬ nI (ck (tok n x (skp n x p)).1) = 0 from a), if_neg (show ¬ ((Rs.tk n x p).k = 0 ∧ s.mode = 0 ∧ s.top.k = 0) from fun y => a y.1)]
      exact p76
end

section
def Rs.init : Rs := (0, 0, 0, 0, fm_0 0 0 0, [], [], [], [])
theorem RV.init {c : Rw} {d : Nat} {f : FrC} (h : RVd c d) : RV Rs.init (c.s_cf (va_up c.cf d f)) :=
  ⟨Nat.lt_of_le_of_lt (Nat.zero_le _) h.1, fun i hi => absurd hi (Nat.not_lt_zero _), ⟨⟨⟨Nat.le_trans (Nat.le_of_eq (Nat.zero_mul 7)) (Nat.zero_le _), fun i hi => absurd hi (Nat.not_lt_zero _)⟩, h.2.1⟩, Nat.zero_le _⟩, ⟨⟨⟨Nat.le_trans (Nat.le_of_eq (Nat.zero_mul 4)) (Nat.zero_le _), fun i hi => absurd hi (Nat.not_lt_zero _)⟩, h.2.2.1⟩, Nat.zero_le _⟩, ⟨⟨⟨Nat.le_trans (Nat.le_of_eq (Nat.zero_mul 4)) (Nat.zero_le _), fun i hi => absurd hi (Nat.not_lt_zero _)⟩, h.2.2.2⟩, Nat.zero_le _⟩⟩
theorem Bd.init : Bd 4 Rs.init :=
  ⟨⟨Nat.zero_le _, Nat.zero_le _, sm0, sm0⟩, fun f hf => absurd hf (List.not_mem_nil), fun f hf => absurd hf (List.not_mem_nil), fun f hf => absurd hf (List.not_mem_nil)⟩
/-- the class's reading of a text -/
theorem Rd_take {n : Nat} {x : Nat → Nat} (ht : TextIs n x) {N : Nat} {b : Nat → Int32} (hr : RowIs N b n x) {sm : Int32 → Int32 → Int32 → Bool} (hsm : ∀ p q w : Int32, w.toNatClampNeg < 2 ^ 17 → F_Rw_same p q w (nI n) N b = some (if sm p q w = true then 1 else 0)) {c : Rw} {d : Nat} (h : RVd c d) (a1 a2 a3 a4 a5 a6 f1 f2 f3 f4 f5 f6 f7 f8 f9 f10 f11 f12 f13 s1 s2 s3 s4 q1 q2 q3 : Int32) :
    ∃ r k sl, F_Rd_take c.fn d c.cf a1 a2 a3 a4 a5 a6 f1 f2 f3 f4 f5 f6 f7 f8 f9 f10 f11 f12 f13 s1 s2 s3 s4 q1 q2 q3 (nI n) N b c.nD c.bD c.nW c.bW c.nF c.bF = some (r, k, sl) ∧ Rs.End c (Rs.go n x sm FU 0 0 Rs.init) r k sl := by
  obtain ⟨r, k, sl, e, he⟩ := take7 ht hr hsm FU 0 0 Rs.init (c.s_cf (va_up c.cf d (f1, f2, f3, f4, f5, f6, f7, f8, f9, f10, f11, f12, f13))) a5 s2 s3 s4 (RV.init h) Bd.init (by omega) (by omega) (by unfold FU; omega)
  refine ⟨r, k, sl, ?_, ?_⟩
  · unfold F_Rd_take F_Rd_begin
    rw [grd_pos h.1, Option.bind_some]
    exact e
  · have := End.pre (c := c) (k := 0) (sl := 0) he (Gw.rfl rfl rfl rfl rfl)
    rw [Nat.zero_add, Nat.zero_add] at this
    exact this
end

section
/-- a text's character at any Int32 -/
def chI (n : Nat) (x : Nat → Nat) (p : Int32) : Int32 := if p < 0 then -1 else chr n x p.toNatClampNeg
theorem Rw_atI {N : Nat} {b : Nat → Int32} {n : Nat} {x : Nat → Nat} (h : RowIs N b n x) (p : Int32) : F_Rw_at p (nI n) N b = some (chI n x p) := by
  unfold chI
  by_cases c : p < 0
  · rw [if_pos c]
    unfold F_Rw_at
    rw [if_pos c]
  · rw [if_neg c]
    have h0 : 0 ≤ p := i32_nlt.mp c
    have e := i32_cl p h0
    have hlt : p.toNatClampNeg < 2 ^ 31 := by
      have := p.toInt_lt
      unfold Int32.toNatClampNeg
      omega
    have := Rw_at h hlt
    rw [← e] at this
    exact this
/-- the same characters at two places -/
def smI (n : Nat) (x : Nat → Nat) (p q w : Int32) : Bool := (List.range w.toNatClampNeg).all fun i => chI n x (p + nI i) == chI n x (q + nI i)
theorem same_3 {N : Nat} {b : Nat → Int32} {n : Nat} {x : Nat → Nat} (h : RowIs N b n x) {p q w : Int32} (hw : w.toNatClampNeg < 2 ^ 17) : ∀ (fu i : Nat), w.toNatClampNeg - i < fu → i ≤ w.toNatClampNeg → F_Rw_same_3 p q w (nI n) N b fu (nI i) = some (if ((List.range' i (w.toNatClampNeg - i)).all fun i => chI n x (p + nI i) == chI n x (q + nI i)) = true then 1 else 0)
  | 0, i, h1, h2 => by omega
  | fu + 1, i, h1, h2 => by
    unfold F_Rw_same_3
    by_cases c : i < w.toNatClampNeg
    · have hnn : 0 ≤ w := by
        by_cases y : 0 ≤ w
        · exact y
        · have := (i32_nn _ y).1
          omega
      have hle : ¬ w ≤ nI i := by
        rw [i32_cl w hnn]
        simp (disch := omega) only [lit_nI, nI_eq', nI_add', nI_le', nI_lt', nI_nn, nI_ge0, nI_clamp', nI_ne1, nI_ne2, nI_ne3, m1_lt, m1_le, m1_ge, m1_gt, if_false, if_true, Option.bind_some, nm_app]
        omega
      rw [if_neg hle, Rw_atI h, Option.bind_some, Rw_atI h, Option.bind_some]
      have er : List.range' i (w.toNatClampNeg - i) = i :: List.range' (i + 1) (w.toNatClampNeg - (i + 1)) := by
        rw [show w.toNatClampNeg - i = (w.toNatClampNeg - (i + 1)) + 1 by omega, List.range'_succ]
      rw [er, List.all_cons]
      by_cases d : chI n x (p + nI i) = chI n x (q + nI i)
      · rw [if_pos d, show nI i + 1 = nI (i + 1) from nI_add' _ 1, same_3 h hw fu (i + 1) (by omega) (by omega)]
        rw [show (chI n x (p + nI i) == chI n x (q + nI i)) = true by simp [d], Bool.true_and]
      · rw [if_neg d, show (chI n x (p + nI i) == chI n x (q + nI i)) = false by simp [d], Bool.false_and]
        rfl
    · have hle : w ≤ nI i := by
        by_cases y : 0 ≤ w
        · rw [i32_cl w y]
          simp (disch := omega) only [lit_nI, nI_eq', nI_add', nI_le', nI_lt', nI_nn, nI_ge0, nI_clamp', nI_ne1, nI_ne2, nI_ne3, m1_lt, m1_le, m1_ge, m1_gt, if_false, if_true, Option.bind_some, nm_app]
          omega
        · have h5 := Int32.lt_iff_toInt_lt.mp (i32_nn _ y).2
          refine Int32.le_iff_toInt_le.mpr ?_
          unfold nI
          rw [Int32.toInt_ofNat_of_lt (by omega)]
          have : (0 : Int32).toInt = 0 := rfl
          omega
      rw [if_pos hle, show w.toNatClampNeg - i = 0 by omega]
      rfl
theorem Rw_same {N : Nat} {b : Nat → Int32} {n : Nat} {x : Nat → Nat} (h : RowIs N b n x) (p q w : Int32) (hw : w.toNatClampNeg < 2 ^ 17) : F_Rw_same p q w (nI n) N b = some (if smI n x p q w = true then 1 else 0) := by
  unfold F_Rw_same
  have := same_3 h hw (p := p) (q := q) FU 0 (by unfold FU; omega) (by omega)
  refine Eq.trans this ?_
  unfold smI
  rw [List.range_eq_range', Nat.sub_zero]
end
