section
/-! the reference's reading of an expression, over numbers and lists -/
/-- what is open: its token, arguments so far, whether limited, colons and signs before it -/
abbrev Ent : Type := Nat × Nat × Nat × Nat × Nat
/-- wanted, signs in front, behind a power, colons, place, levels, what is open (the latest first) -/
abbrev Mx : Type := Nat × Nat × Nat × Nat × Nat × Nat × List Ent
def rkL : List Nat := [1, 2, 3, 3, 3, 3, 3, 3, 4, 5, 5, 6, 6, 6, 6, 6, 8, 8, 0, 0, 0, 0, 0, 0, 0, 0, 0]
def rkM (c : Nat) : Nat := if c < 30 then 0 else rkL.getD (c - 30) 0
def Mx.mark : List Ent → Option (List Ent)
  | [] => none
  | (wh, cn, li, co, fr) :: r => if wh = 2 then (if cn ≤ 1 then some ((wh, cn, 1, co, fr) :: r) else none) else (Mx.mark r).map (fun r' => (wh, cn, li, co, fr) :: r')
def Mx.co' (c co : Nat) : Nat := if rkM c < 4 then 0 else if c = 38 then co + 1 else co
/-- the next token where an operand has ended and no operator comes -/
def Mx.inB (K : Nat → Nat) (fr bh i lv : Nat) : List Ent → Sum Nat (Bool × Mx)
  | [] => .inr (true, (0, fr, bh, 0, i, lv, []))
  | (wh, cn, li, co1, fr1) :: r =>
    if wh = 50 then (if K i = 51 then .inr (false, (0, 0, bh, co1, i + 1, lv - fr1 - 1, r)) else .inl i)
    else if wh = 52 then
      (if K i = 53 then .inr (false, (0, 0, bh, co1, i + 1, lv - fr1 - 1, r))
      else if (K i = 54 ∨ K i = 55) ∧ K (i - 1) ≠ 50 ∧ K (i - 1) ≠ 52 then .inr (false, (1, fr, 0, 0, i + 1, lv, (wh, cn, li, co1, fr1) :: r)) else .inl i)
    else if K i = 51 then .inr (false, (0, 0, bh, co1, i + 1, lv - fr1 - 1, r))
    else if K i = 54 ∧ (if K (i - 1) = 38 then cn else cn + 1) ≠ 8 ∧ ((if K (i - 1) = 38 then cn else cn + 1) ≤ 1 ∨ li ≠ 1) then
      (if K (i + 1) = 38 then
        (if (if K (i - 1) = 38 then cn else cn + 1) ≤ 1 then
          (if K (i + 2) = 54 ∨ K (i + 2) = 51 then .inr (false, (0, fr, 0, 0, i + 2, lv, (wh, (if K (i - 1) = 38 then cn else cn + 1) + 1, 1, co1, fr1) :: r)) else .inl (i + 2))
        else .inl (i + 1))
      else .inr (false, (1, fr, 0, 0, i + 1, lv, (wh, (if K (i - 1) = 38 then cn else cn + 1), li, co1, fr1) :: r)))
    else .inl i
/-- a bracket opens at place a, after the token c -/
def Mx.opn (K : Nat → Nat) (fr co lv : Nat) (op : List Ent) (c a : Nat) : Sum Nat (Bool × Mx) :=
  if lv = 60 then .inl a
  else if (c = 52 ∧ K (a + 1) = 53) ∨ (c = 2 ∧ K (a + 1) = 51) then .inr (false, (0, 0, 0, 0, a + 1, lv + 1, (c, 0, 0, co, fr) :: op))
  else if c = 2 ∧ K (a + 1) = 38 then
    (if K (a + 2) = 54 ∨ K (a + 2) = 51 then .inr (false, (0, 0, 0, 0, a + 2, lv + 1, (c, 1, 1, co, fr) :: op)) else .inl (a + 2))
  else .inr (false, (1, 0, 0, 0, a + 1, lv + 1, (c, 0, 0, co, fr) :: op))
/-- an operand is wanted -/
def Mx.wnt (K : Nat → Nat) (fr bh co i lv : Nat) (op : List Ent) : Sum Nat (Bool × Mx) :=
  if K i = 40 ∧ bh = 1 then .inr (false, (1, fr, 2, co, i + 1, lv, op))
  else if (K i = 40 ∨ K i = 39 ∨ K i = 49) ∧ bh = 0 then (if lv = 60 then .inl i else .inr (false, (1, fr + 1, bh, co, i + 1, lv + 1, op)))
  else if K i = 50 ∨ K i = 52 then Mx.opn K fr co lv op (K i) i
  else if K i = 2 ∧ K (i + 1) = 50 then Mx.opn K fr co lv op 2 (i + 1)
  else if K i = 2 ∨ K i = 3 ∨ K i = 4 then .inr (false, (0, 0, 0, co, i + 1, lv - fr, op))
  else if K i = 13 then (match Mx.mark op with
    | none => .inl i
    | some op' => .inr (false, (0, 0, 0, co, i + 1, lv - fr, op')))
  else .inl i
def Mx.step (K : Nat → Nat) : Mx → Sum Nat (Bool × Mx)
  | (w, fr, bh, co, i, lv, op) =>
    if w = 0 then
      (if K i = 48 ∧ K (i - 1) ≠ 38 then .inr (false, (0, fr, bh, co, i + 1, lv, op))
      else if 0 < rkM (K i) ∧ K (i - 1) ≠ 38 ∧ K (i - 1) ≠ 50 ∧ K (i - 1) ≠ 52 then
        (if Mx.co' (K i) co ≤ 2 then .inr (false, (1, fr, if rkM (K i) = 8 then 1 else 0, Mx.co' (K i) co, i + 1, lv, op)) else .inl i)
      else Mx.inB K fr bh i lv op)
    else Mx.wnt K fr bh co i lv op
def Mx.flat : List Ent → List Int32
  | [] => []
  | (wh, cn, li, co, fr) :: r => Mx.flat r ++ [nI wh, nI cn, nI li, nI co, nI fr]
theorem Mx.flat_len : ∀ (op : List Ent), (Mx.flat op).length = 5 * op.length
  | [] => rfl
  | (wh, cn, li, co, fr) :: r => by
    rw [Mx.flat, List.length_append, Mx.flat_len r]
    simp only [List.length_cons, List.length_nil]; omega
theorem Vec.set {N : Nat} {a : Nat → Int32} {l : List Int32} (h : Vec N a l) (i : Nat) (v : Int32) : Vec N (upd a i v) (l.set i v) :=
  ⟨by rw [List.length_set]; exact h.le, h.pos, h.room, fun j hj => by
    rw [List.length_set] at hj
    rw [List.getElem_set]
    by_cases c : i = j
    · subst c; rw [upd_self, if_pos rfl]
    · rw [upd_ne (fun e => c e.symm), if_neg c]; exact h.at' j hj⟩
theorem Vec.pre {N : Nat} {a : Nat → Int32} {l1 l2 : List Int32} (h : Vec N a (l1 ++ l2)) : Vec N a l1 := by
  have := h.take l1.length
  rw [List.take_left'] at this
  · exact this
  · rfl
/-- the latest entry's words -/
theorem Mx.flat_at {N : Nat} {b : Nat → Int32} {wh cn li co fr : Nat} {r : List Ent} (h : Vec N b (Mx.flat ((wh, cn, li, co, fr) :: r))) : b (5 * r.length) = nI wh ∧ b (5 * r.length + 1) = nI cn ∧ b (5 * r.length + 2) = nI li ∧ b (5 * r.length + 3) = nI co ∧ b (5 * r.length + 4) = nI fr := by
  have hl := Mx.flat_len ((wh, cn, li, co, fr) :: r)
  have hr := Mx.flat_len r
  have e : ∀ j (hj : j < 5), b (5 * r.length + j) = [nI wh, nI cn, nI li, nI co, nI fr][j]'(by simpa using hj) := by
    intro j hj
    have h2 := h.at' (5 * r.length + j) (by rw [hl, List.length_cons]; omega)
    rw [h2]
    simp only [Mx.flat]
    rw [List.getElem_append_right (by rw [hr]; omega)]
    congr 1
    rw [hr]; omega
  exact ⟨e 0 (by omega), e 1 (by omega), e 2 (by omega), e 3 (by omega), e 4 (by omega)⟩
theorem Mx.flat_set {wh cn li co fr : Nat} {r : List Ent} {j : Nat} (hj : j < 5) {v : Nat} : (Mx.flat ((wh, cn, li, co, fr) :: r)).set (5 * r.length + j) (nI v) = Mx.flat r ++ [nI wh, nI cn, nI li, nI co, nI fr].set j (nI v) := by
  rw [Mx.flat, List.set_append_right _ _ (by rw [Mx.flat_len]; omega), Mx.flat_len]
  congr 2
  omega
theorem Mx.flat_cn {N : Nat} {b : Nat → Int32} {wh cn li co fr : Nat} {r : List Ent} (h : Vec N b (Mx.flat ((wh, cn, li, co, fr) :: r))) (v : Nat) : Vec N (upd b (5 * r.length + 1) (nI v)) (Mx.flat ((wh, v, li, co, fr) :: r)) := by
  have := h.set (5 * r.length + 1) (nI v)
  rw [Mx.flat_set (by omega)] at this
  exact this
theorem Mx.flat_li {N : Nat} {b : Nat → Int32} {wh cn li co fr : Nat} {r : List Ent} (h : Vec N b (Mx.flat ((wh, cn, li, co, fr) :: r))) (v : Nat) : Vec N (upd b (5 * r.length + 2) (nI v)) (Mx.flat ((wh, cn, v, co, fr) :: r)) := by
  have := h.set (5 * r.length + 2) (nI v)
  rw [Mx.flat_set (by omega)] at this
  exact this
theorem Mx.flat_co {N : Nat} {b : Nat → Int32} {wh cn li co fr : Nat} {r : List Ent} (h : Vec N b (Mx.flat ((wh, cn, li, co, fr) :: r))) (v : Nat) : Vec N (upd b (5 * r.length + 3) (nI v)) (Mx.flat ((wh, cn, li, v, fr) :: r)) := by
  have := h.set (5 * r.length + 3) (nI v)
  rw [Mx.flat_set (by omega)] at this
  exact this
theorem Mx.flat_tl {N : Nat} {b : Nat → Int32} {e : Ent} {r : List Ent} (h : Vec N b (Mx.flat (e :: r))) : Vec N b (Mx.flat r) := by
  obtain ⟨wh, cn, li, co, fr⟩ := e
  exact Vec.pre h
end

section
theorem Mx.flat_app : ∀ (up op : List Ent), Mx.flat (up ++ op) = Mx.flat op ++ Mx.flat up
  | [], op => by rw [List.nil_append, Mx.flat, List.append_nil]
  | (wh, cn, li, co, fr) :: up, op => by
    rw [List.cons_append, Mx.flat, Mx.flat_app up op, Mx.flat, List.append_assoc]
/-- the tokens as the reference holds them: m of them, kinds K -/
abbrev KdIs (m N : Nat) (a : Nat → Int32) (K : Nat → Nat) : Prop := (m ≤ N) ∧ (N ≤ 2 ^ 20) ∧ (∀ i, i < m → a i = nI (K i)) ∧ (∀ i, K i < 57) ∧ (∀ i, i + 1 < m → 1 < K i) ∧ (0 < m) ∧ (K (m - 1) ≤ 1)
theorem KdIs.le {m N : Nat} {a : Nat → Int32} {K : Nat → Nat} (h : KdIs m N a K) : m ≤ N := h.1
theorem KdIs.room {m N : Nat} {a : Nat → Int32} {K : Nat → Nat} (h : KdIs m N a K) : N ≤ 2 ^ 20 := h.2.1
theorem KdIs.at' {m N : Nat} {a : Nat → Int32} {K : Nat → Nat} (h : KdIs m N a K) : ∀ i, i < m → a i = nI (K i) := h.2.2.1
theorem KdIs.lt {m N : Nat} {a : Nat → Int32} {K : Nat → Nat} (h : KdIs m N a K) : ∀ i, K i < 57 := h.2.2.2.1
theorem KdIs.last {m N : Nat} {a : Nat → Int32} {K : Nat → Nat} (h : KdIs m N a K) : ∀ i, i + 1 < m → 1 < K i := h.2.2.2.2.1
theorem KdIs.pos {m N : Nat} {a : Nat → Int32} {K : Nat → Nat} (h : KdIs m N a K) : 0 < m := h.2.2.2.2.2.1
theorem KdIs.end' {m N : Nat} {a : Nat → Int32} {K : Nat → Nat} (h : KdIs m N a K) : K (m - 1) ≤ 1 := h.2.2.2.2.2.2
theorem KdIs.go {m N : Nat} {a : Nat → Int32} {K : Nat → Nat} (h : KdIs m N a K) {i : Nat} (hi : i < m) (hk : 1 < K i) : i + 1 < m := by
  have := h.end'
  have : i ≠ m - 1 := fun e => by rw [e] at hk; omega
  omega
section Md
variable {m N5 : Nat} {a5 : Nat → Int32} {K : Nat → Nat}
variable {q1 q2 q3 q4 q5 q6 q7 q8 q9 : Int32}
theorem Mo_at (hk : KdIs m N5 a5 K) {i : Nat} (hi : i < m) : F_Nm_at (nI i) q1 N5 a5 = some () := by
  have := hk.le; have := hk.room
  unfold F_Nm_at
  rw [inb_ok (by omega) (by omega)]
theorem Mo_kind (hk : KdIs m N5 a5 K) {i : Nat} (hi : i < m) : F_Mo_kind q1 q2 q3 q4 (nI i) q5 q6 q7 q8 q9 N5 a5 = some () := by
  unfold F_Mo_kind
  rw [Mo_at hk hi]; rfl
theorem Mo_a5 (hk : KdIs m N5 a5 K) {i : Nat} (hi : i < m) : a5 (Int32.toNatClampNeg (nI i)) = nI (K i) := by
  have := hk.le; have := hk.room
  rw [nI_clamp' (by omega)]; exact hk.at' i hi
theorem Mo_take (hk : KdIs m N5 a5 K) {i p : Nat} (hi : i < m) (hp : p < 57) : F_Mo_take (nI p) q1 q2 q3 q4 (nI i) q5 q6 q7 q8 q9 N5 a5 = if K i = p then some (1, nI (i + 1), q5) else some (0, nI i, nI i) := by
  unfold F_Mo_take
  rw [Mo_kind hk hi, Option.bind_some, Mo_a5 hk hi]
  have h57 := hk.lt i
  simp only [nI_eq' (show K i < 2 ^ 31 by omega) (show p < 2 ^ 31 by omega)]
  rw [show nI i + 1 = nI (i + 1) from nI_add' i 1]
theorem Mo_enter (hk : KdIs m N5 a5 K) {i p lv : Nat} (hi : i < m) (hp : p < 57) (hl : lv ≤ 60) : F_Mo_enter (nI p) q1 q2 q3 q4 (nI i) q5 (nI lv) q6 q7 q8 N5 a5 = if K i = p then (if lv = 60 then some (0, nI i, nI i, nI lv) else some (1, nI (i + 1), q5, nI (lv + 1))) else some (0, nI i, nI i, nI lv) := by
  unfold F_Mo_enter
  rw [Mo_kind hk hi, Option.bind_some, Mo_a5 hk hi]
  have h57 := hk.lt i
  rw [show (60 : Int32) = nI 60 from rfl]
  simp only [nI_eq' (show K i < 2 ^ 31 by omega) (show p < 2 ^ 31 by omega), nI_eq' (show lv < 2 ^ 31 by omega) (show 60 < 2 ^ 31 by omega)]
  rw [show nI i + 1 = nI (i + 1) from nI_add' i 1, show nI lv + 1 = nI (lv + 1) from nI_add' lv 1]
theorem Mo_leave (hk : KdIs m N5 a5 K) {i p : Nat} {lv : Int32} (hi : i < m) (hp : p < 57) : F_Mo_leave (nI p) q1 q2 q3 q4 (nI i) q5 lv q6 q7 q8 N5 a5 = if K i = p then some (1, nI (i + 1), q5) else some (0, nI i, nI i) := by
  unfold F_Mo_leave
  rw [Mo_take hk hi hp]
  by_cases c : K i = p
  · simp only [if_pos c]; rfl
  · simp only [if_neg c]; rfl
theorem Mo_colonB (hk : KdIs m N5 a5 K) {i : Nat} (hi : i < m) (h0 : 0 < i) : F_Mo_isColonBefore q1 q2 q3 q4 (nI i) q5 q6 q7 q8 q9 N5 a5 = some (if K (i - 1) = 38 then 1 else 0) := by
  unfold F_Mo_isColonBefore
  rw [show nI i - 1 = nI (i - 1) from nI_sub' h0, Mo_at hk (by omega), Option.bind_some, Mo_a5 hk (by omega)]
  have h57 := hk.lt (i - 1)
  rw [show (38 : Int32) = nI 38 from rfl]
  by_cases c : K (i - 1) = 38
  · rw [if_pos (by rw [c]), if_pos c]
  · rw [if_neg (by simp (disch := omega) only [lit_nI, nI_eq', nI_add', nI_le', nI_lt', nI_nn, nI_ge0, nI_clamp', nI_ne1, nI_ne2, nI_ne3, m1_lt, m1_le, m1_ge, m1_gt, if_false, if_true, Option.bind_some, nm_app]; exact c), if_neg c]
theorem Mo_emptyO (hk : KdIs m N5 a5 K) {i : Nat} (hi : i < m) (h0 : 0 < i) : F_Mo_isEmptyOpen q1 q2 q3 q4 (nI i) q5 q6 q7 q8 q9 N5 a5 = some (if K (i - 1) = 50 ∨ K (i - 1) = 52 then 1 else 0) := by
  unfold F_Mo_isEmptyOpen
  rw [show nI i - 1 = nI (i - 1) from nI_sub' h0, Mo_at hk (by omega), Option.bind_some, Option.bind_some, Mo_a5 hk (by omega)]
  have h57 := hk.lt (i - 1)
  rw [show (50 : Int32) = nI 50 from rfl, show (52 : Int32) = nI 52 from rfl]
  by_cases c : K (i - 1) = 50
  · rw [if_pos (by rw [c]), if_pos (Or.inl c)]
  · rw [if_neg (by simp (disch := omega) only [lit_nI, nI_eq', nI_add', nI_le', nI_lt', nI_nn, nI_ge0, nI_clamp', nI_ne1, nI_ne2, nI_ne3, m1_lt, m1_le, m1_ge, m1_gt, if_false, if_true, Option.bind_some, nm_app]; exact c)]
    by_cases d : K (i - 1) = 52
    · rw [if_pos (by rw [d]), if_pos (Or.inr d)]
    · rw [if_neg (by simp (disch := omega) only [lit_nI, nI_eq', nI_add', nI_le', nI_lt', nI_nn, nI_ge0, nI_clamp', nI_ne1, nI_ne2, nI_ne3, m1_lt, m1_le, m1_ge, m1_gt, if_false, if_true, Option.bind_some, nm_app]; exact d), if_neg (fun x => x.elim c d)]
end Md
/-- the ranks as the reference holds them -/
def RkIs (n : Nat) (b : Nat → Int32) : Prop := n = 27 ∧ ∀ i, i < 27 → b i = nI (rkL.getD i 0)
theorem Mo_rank {n : Nat} {b : Nat → Int32} (h : RkIs n b) {c : Nat} (hc : c < 57) {q1 q2 q3 q4 q5 q6 q7 q8 q9 : Int32} : F_Mo_rankOf (nI c) q1 q2 q3 q4 q5 q6 q7 q8 q9 n b = some (nI (rkM c)) := by
  unfold F_Mo_rankOf rkM
  rw [show (30 : Int32) = nI 30 from rfl]
  by_cases d : c < 30
  · rw [if_pos (by simp (disch := omega) only [lit_nI, nI_eq', nI_add', nI_le', nI_lt', nI_nn, nI_ge0, nI_clamp', nI_ne1, nI_ne2, nI_ne3, m1_lt, m1_le, m1_ge, m1_gt, if_false, if_true, Option.bind_some, nm_app]; exact d), if_pos d]; rfl
  · rw [if_neg (by simp (disch := omega) only [lit_nI, nI_eq', nI_add', nI_le', nI_lt', nI_nn, nI_ge0, nI_clamp', nI_ne1, nI_ne2, nI_ne3, m1_lt, m1_le, m1_ge, m1_gt, if_false, if_true, Option.bind_some, nm_app]; exact d), if_neg d, nI_sub' (by omega), inb_ok (by have := h.1; omega) (by omega), nI_clamp' (by omega), h.2 _ (by omega)]
theorem rkM_le (c : Nat) : rkM c ≤ 8 := by
  unfold rkM
  by_cases d : c < 30
  · rw [if_pos d]; omega
  · rw [if_neg d]
    have h : ∀ i, i < 27 → rkL.getD i 0 ≤ 8 := by decide
    by_cases e : c - 30 < 27
    · exact h _ e
    · rw [List.getD_eq_getElem?_getD, List.getElem?_eq_none (by show 27 ≤ c - 30; omega)]; exact Nat.zero_le _
theorem Mo_mark10 {N : Nat} {at0 bad : Int32} {sz : Int32} : ∀ (op up : List Ent) (fu : Nat) (b : Nat → Int32), op.length < fu → Vec N b (Mx.flat (up ++ op)) → (∀ e ∈ op, e.1 < 57 ∧ e.2.1 ≤ 9) → N ≤ 600 →
    (match Mx.mark op with
    | none => F_Mo_mark_10 at0 bad sz N b fu (nI (5 * op.length) - 5) = some (0, at0, b)
    | some op' => ∃ b', F_Mo_mark_10 at0 bad sz N b fu (nI (5 * op.length) - 5) = some (1, bad, b') ∧ Vec N b' (Mx.flat (up ++ op')))
  | [], up, 0, b, hf, _, _, _ => absurd hf (Nat.lt_irrefl 0)
  | [], up, fu + 1, b, hf, hv, _, hN => by
    show F_Mo_mark_10 at0 bad sz N b (fu + 1) (nI (5 * 0) - 5) = some (0, at0, b)
    rw [F_Mo_mark_10, if_pos (show nI (5 * 0) - 5 < 0 by decide)]
    unfold F_Mo_mark_33
    rw [if_pos (show nI (5 * 0) - 5 < 0 by decide)]
  | (wh, cn, li, co, fr) :: r, up, 0, b, hf, _, _, _ => absurd hf (Nat.not_lt_zero _)
  | (wh, cn, li, co, fr) :: r, up, fu + 1, b, hf, hv, he, hN => by
    have hv' := hv
    rw [Mx.flat_app] at hv'
    have hp := Vec.pre hv'
    have hle := hp.le
    rw [Mx.flat_len, List.length_cons] at hle
    obtain ⟨b0, b1, b2, b3, b4⟩ := Mx.flat_at hp
    have h57 := he (wh, cn, li, co, fr) List.mem_cons_self
    have hw : wh < 57 := h57.1
    have hc9 : cn ≤ 9 := h57.2
    have ei : nI (5 * ((wh, cn, li, co, fr) :: r).length) - 5 = nI (5 * r.length) := by
      rw [List.length_cons, show (5 : Int32) = nI 5 from rfl, nI_sub' (by omega)]; congr 1
    rw [ei]
    have hat : F_Nm_at (nI (5 * r.length)) sz N b = some () := by
      unfold F_Nm_at; rw [inb_ok (by omega) (by omega)]
    have hat1 : F_Nm_at (nI (5 * r.length + 1)) sz N b = some () := by
      unfold F_Nm_at; rw [inb_ok (by omega) (by omega)]
    have en : F_Mo_mark_10 at0 bad sz N b (fu + 1) (nI (5 * r.length)) = if wh = 2 then F_Mo_mark_33 at0 bad sz N b (nI (5 * r.length)) else F_Mo_mark_10 at0 bad sz N b fu (nI (5 * r.length) - 5) := by
      rw [F_Mo_mark_10, if_neg (show ¬ nI (5 * r.length) < 0 by rw [nI_nn (by omega)]; exact id), hat, Option.bind_some, nI_clamp' (by omega), b0, show (2 : Int32) = nI 2 from rfl]
      simp only [nI_eq' (show wh < 2 ^ 31 by omega) (show 2 < 2 ^ 31 by omega)]
    rw [en]
    rw [Mx.mark]
    by_cases c : wh = 2
    · rw [if_pos c, if_pos c]
      unfold F_Mo_mark_33
      rw [if_neg (show ¬ nI (5 * r.length) < 0 by rw [nI_nn (by omega)]; exact id), show nI (5 * r.length) + 1 = nI (5 * r.length + 1) from nI_add' _ 1, hat1, Option.bind_some, nI_clamp' (by omega), b1, show nI (5 * r.length) + 2 = nI (5 * r.length + 2) from nI_add' _ 2]
      by_cases d : cn ≤ 1
      · rw [if_pos d, if_pos (show nI cn ≤ 1 by simp (disch := omega) only [lit_nI, nI_eq', nI_add', nI_le', nI_lt', nI_nn, nI_ge0, nI_clamp', nI_ne1, nI_ne2, nI_ne3, m1_lt, m1_le, m1_ge, m1_gt, if_false, if_true, Option.bind_some, nm_app]; exact d), inb_ok (by omega) (by omega), nI_clamp' (by omega)]
        refine ⟨_, rfl, ?_⟩
        rw [Mx.flat_app]
        have h3 := hv'.set (5 * r.length + 2) (nI 1)
        rw [List.set_append_left _ _ (by rw [Mx.flat_len, List.length_cons]; omega), Mx.flat_set (by omega)] at h3
        exact h3
      · rw [if_neg d, if_neg (show ¬ nI cn ≤ 1 by simp (disch := omega) only [lit_nI, nI_eq', nI_add', nI_le', nI_lt', nI_nn, nI_ge0, nI_clamp', nI_ne1, nI_ne2, nI_ne3, m1_lt, m1_le, m1_ge, m1_gt, if_false, if_true, Option.bind_some, nm_app]; exact d)]
    · rw [if_neg c, if_neg c]
      have ih := Mo_mark10 (at0 := at0) (bad := bad) (sz := sz) r (up ++ [(wh, cn, li, co, fr)]) fu b (by rw [List.length_cons] at hf; omega) (by rw [List.append_assoc]; exact hv) (fun e h => he e (List.mem_cons_of_mem _ h)) hN
      cases hm : Mx.mark r with
      | none => rw [hm] at ih; exact ih
      | some op' =>
        rw [hm] at ih
        obtain ⟨b', e1, e2⟩ := ih
        refine ⟨b', e1, ?_⟩
        rw [List.append_assoc] at e2
        exact e2
end

section
/-- an array of the reading, grown from N -/
abbrev OpIs (N0 N : Nat) (b : Nat → Int32) (op : List Ent) (c s : Nat) : Prop := (Vec N b (Mx.flat op)) ∧ (Grow N0 N c s) ∧ (N ≤ 600)
theorem OpIs.vec {N0 N : Nat} {b : Nat → Int32} {op : List Ent} {c s : Nat} (h : OpIs N0 N b op c s) : Vec N b (Mx.flat op) := h.1
theorem OpIs.grow {N0 N : Nat} {b : Nat → Int32} {op : List Ent} {c s : Nat} (h : OpIs N0 N b op c s) : Grow N0 N c s := h.2.1
theorem OpIs.le {N0 N : Nat} {b : Nat → Int32} {op : List Ent} {c s : Nat} (h : OpIs N0 N b op c s) : N ≤ 600 := h.2.2
theorem Mo_push {N : Nat} {b : Nat → Int32} {op : List Ent} (h : Vec N b (Mx.flat op)) (hN : N ≤ 600) (hl : op.length < 60) {wh fr : Nat} {q1 q2 q3 q4 q5 q6 q7 q8 q9 : Int32} :
    ∃ N' b' c s, F_Mo_push (nI wh) (nI fr) q1 q2 q3 q4 q5 q6 q7 q8 q9 (nI (5 * op.length)) N b = some ((N', b'), c, s) ∧ OpIs N N' b' ((wh, 0, 0, 0, fr) :: op) c s := by
  have hf := Mx.flat_len op
  have st : ∀ (M : Nat) (d : Nat → Int32) (l : List Int32) (v : Int32), Vec M d l → M ≤ 600 → l.length < 300 → ∃ M' d' c s, F_Nm_add v (nI l.length) M d = some ((M', d'), c, s) ∧ Vec M' d' (l ++ [v]) ∧ Grow M M' c s ∧ M' ≤ 600 := by
    intro M d l v hv hM hl
    obtain ⟨M', d', c, s, e, h1, h2, h3⟩ := Nm_add hv (by omega) v
    exact ⟨M', d', c, s, e, h1, h2, by omega⟩
  obtain ⟨N1, b1, c1, s1, e1, v1, g1, m1⟩ := st N b _ (nI wh) h hN (by omega)
  obtain ⟨N2, b2, c2, s2, e2, v2, g2, m2⟩ := st N1 b1 _ 0 v1 m1 (by rw [List.length_append, hf]; simp only [List.length_cons, List.length_nil]; omega)
  obtain ⟨N3, b3, c3, s3, e3, v3, g3, m3⟩ := st N2 b2 _ 0 v2 m2 (by rw [List.length_append, List.length_append, hf]; simp only [List.length_cons, List.length_nil]; omega)
  obtain ⟨N4, b4, c4, s4, e4, v4, g4, m4⟩ := st N3 b3 _ 0 v3 m3 (by rw [List.length_append, List.length_append, List.length_append, hf]; simp only [List.length_cons, List.length_nil]; omega)
  obtain ⟨N5, b5, c5, s5, e5, v5, g5, m5⟩ := st N4 b4 _ (nI fr) v4 m4 (by rw [List.length_append, List.length_append, List.length_append, List.length_append, hf]; simp only [List.length_cons, List.length_nil]; omega)
  simp only [List.length_append, List.length_cons, List.length_nil, hf, Nat.zero_add] at e1 e2 e3 e4 e5
  refine ⟨N5, b5, c1 + (c2 + (c3 + (c4 + (c5 + 0)))), s1 + (s2 + (s3 + (s4 + (s5 + 0)))), ?_, ⟨?_, g1.trans (g2.trans (g3.trans (g4.trans (g5.trans Grow.rfl)))), m5⟩⟩
  · unfold F_Mo_push
    have n1 : nI (5 * op.length) + 1 = nI (5 * op.length + 1) := nI_add' _ 1
    have n2 : nI (5 * op.length + 1) + 1 = nI (5 * op.length + 1 + 1) := nI_add' _ 1
    have n3 : nI (5 * op.length + 1 + 1) + 1 = nI (5 * op.length + 1 + 1 + 1) := nI_add' _ 1
    have n4 : nI (5 * op.length + 1 + 1 + 1) + 1 = nI (5 * op.length + 1 + 1 + 1 + 1) := nI_add' _ 1
    rw [n1, n2, n3, n4]
    exact bw_ok e1 (bw_ok e2 (bw_ok e3 (bw_ok e4 (bw_ok (c' := 0) (s' := 0) e5 rfl))))
  · rw [Mx.flat]
    simp only [List.append_assoc, List.cons_append, List.nil_append] at v5
    exact v5
theorem Mo_setTop {N n j : Nat} {b : Nat → Int32} {v : Int32} (h : 5 * (n + 1) ≤ N) (hN : N ≤ 600) (hj : j < 5) {q1 q2 q3 q4 q5 q6 q7 q8 q9 : Int32} : F_Mo_setTop (nI j) v q1 q2 q3 q4 q5 q6 q7 q8 q9 (nI (5 * (n + 1))) N b = some () := by
  unfold F_Mo_setTop
  rw [show nI (5 * (n + 1)) - 5 = nI (5 * n) by rw [show (5 : Int32) = nI 5 from rfl, nI_sub' (by omega)]; congr 1, nI_add', inb_ok (by omega) (by omega)]
theorem Mo_top {N n j : Nat} {b : Nat → Int32} (h : 5 * (n + 1) ≤ N) (hN : N ≤ 600) (hj : j < 5) {q1 q2 q3 q4 q5 q6 q7 q8 q9 : Int32} : F_Mo_top (nI j) q1 q2 q3 q4 q5 q6 q7 q8 q9 (nI (5 * (n + 1))) N b = some () := by
  unfold F_Mo_top F_Nm_at
  rw [show nI (5 * (n + 1)) - 5 = nI (5 * n) by rw [show (5 : Int32) = nI 5 from rfl, nI_sub' (by omega)]; congr 1, nI_add', inb_ok (by omega) (by omega)]; rfl
theorem Mo_tix {n j : Nat} (hn : n ≤ 200) (hj : j < 5) : Int32.toNatClampNeg (nI (5 * (n + 1)) - 5 + nI j) = 5 * n + j := by
  rw [show nI (5 * (n + 1)) - 5 = nI (5 * n) by rw [show (5 : Int32) = nI 5 from rfl, nI_sub' (by omega)]; congr 1, nI_add', nI_clamp' (by omega)]
theorem Mo_mark {N : Nat} {b : Nat → Int32} {op : List Ent} (hv : Vec N b (Mx.flat op)) (he : ∀ e ∈ op, e.1 < 57 ∧ e.2.1 ≤ 9) (hN : N ≤ 600) {at0 bad q1 q2 q3 q4 q5 q6 q7 : Int32} :
    (match Mx.mark op with
    | none => F_Mo_mark q1 q2 q3 q4 at0 bad q5 q6 q7 (nI (5 * op.length)) N b = some (0, at0, b)
    | some op' => ∃ b', F_Mo_mark q1 q2 q3 q4 at0 bad q5 q6 q7 (nI (5 * op.length)) N b = some (1, bad, b') ∧ Vec N b' (Mx.flat op')) := by
  have hl := hv.le
  rw [Mx.flat_len] at hl
  exact Mo_mark10 (at0 := at0) (bad := bad) (sz := nI (5 * op.length)) op [] FU b (by unfold FU; omega) hv he hN
section Md
variable {m N5 : Nat} {a5 : Nat → Int32} {K : Nat → Nat}
variable {q1 q2 q3 q4 q5 q6 q7 q8 q9 : Int32}
/-- a colon that stands for all, where a call is the latest that is open -/
theorem Mo_whole (hk : KdIs m N5 a5 K) {N i cn li co fr : Nat} {r : List Ent} {b : Nat → Int32} (hv : Vec N b (Mx.flat ((2, cn, li, co, fr) :: r))) (hN : N ≤ 600) (hc : cn ≤ 9) (hi : i < m) {bad : Int32} :
    if K i = 38 then (if cn ≤ 1 then ∃ b', Vec N b' (Mx.flat ((2, cn, 1, co, fr) :: r)) ∧ (F_Mo_wholeColon q1 q2 q3 q4 (nI i) bad q5 q6 q7 q8 N5 a5 (nI (5 * (r.length + 1))) N b = if K (i + 1) = 54 ∨ K (i + 1) = 51 then some (1, nI (i + 1), bad, b') else some (-1, nI (i + 1), nI (i + 1), b')) else F_Mo_wholeColon q1 q2 q3 q4 (nI i) bad q5 q6 q7 q8 N5 a5 (nI (5 * (r.length + 1))) N b = some (-1, nI i, nI i, b))
    else F_Mo_wholeColon q1 q2 q3 q4 (nI i) bad q5 q6 q7 q8 N5 a5 (nI (5 * (r.length + 1))) N b = some (0, nI i, bad, b) := by
  have h57 := hk.lt i
  have hle := hv.le
  rw [Mx.flat_len, List.length_cons] at hle
  obtain ⟨b0, b1, b2, b3, b4⟩ := Mx.flat_at hv
  unfold F_Mo_wholeColon
  rw [Mo_kind hk hi, Option.bind_some, Mo_a5 hk hi, show (38 : Int32) = nI 38 from rfl, show nI i + 1 = nI (i + 1) from nI_add' i 1]
  by_cases c : K i = 38
  · rw [if_pos c, if_pos (show nI (K i) = nI 38 by rw [c])]
    have hi1 : i + 1 < m := hk.go hi (by omega)
    have h571 := hk.lt (i + 1)
    have ei : nI (5 * (r.length + 1)) - 5 = nI (5 * r.length) := by
      rw [show (5 : Int32) = nI 5 from rfl, nI_sub' (by omega)]; congr 1
    have hat : F_Nm_at (nI (5 * r.length)) (nI (5 * (r.length + 1))) N b = some () := by
      unfold F_Nm_at; rw [inb_ok (by omega) (by omega)]
    have hat1 : F_Nm_at (nI (5 * r.length + 1)) (nI (5 * (r.length + 1))) N b = some () := by
      unfold F_Nm_at; rw [inb_ok (by omega) (by omega)]
    have em : F_Mo_mark q1 q2 q3 q4 (nI i) bad q5 q6 q7 (nI (5 * (r.length + 1))) N b = if cn ≤ 1 then some (1, bad, upd b (5 * r.length + 2) (nI 1)) else some (0, nI i, b) := by
      unfold F_Mo_mark
      rw [show FU = (FU - 1) + 1 by unfold FU; omega, F_Mo_mark_10, ei, if_neg (show ¬ nI (5 * r.length) < 0 by rw [nI_nn (by omega)]; exact id), hat, Option.bind_some, nI_clamp' (by omega), b0, if_pos (show nI 2 = 2 from rfl)]
      unfold F_Mo_mark_33
      rw [if_neg (show ¬ nI (5 * r.length) < 0 by rw [nI_nn (by omega)]; exact id), show nI (5 * r.length) + 1 = nI (5 * r.length + 1) from nI_add' _ 1, hat1, Option.bind_some, nI_clamp' (by omega), b1, show nI (5 * r.length) + 2 = nI (5 * r.length + 2) from nI_add' _ 2]
      by_cases d : cn ≤ 1
      · rw [if_pos d, if_pos (show nI cn ≤ 1 by simp (disch := omega) only [lit_nI, nI_eq', nI_add', nI_le', nI_lt', nI_nn, nI_ge0, nI_clamp', nI_ne1, nI_ne2, nI_ne3, m1_lt, m1_le, m1_ge, m1_gt, if_false, if_true, Option.bind_some, nm_app]; exact d), inb_ok (by omega) (by omega), nI_clamp' (by omega)]; rfl
      · rw [if_neg d, if_neg (show ¬ nI cn ≤ 1 by simp (disch := omega) only [lit_nI, nI_eq', nI_add', nI_le', nI_lt', nI_nn, nI_ge0, nI_clamp', nI_ne1, nI_ne2, nI_ne3, m1_lt, m1_le, m1_ge, m1_gt, if_false, if_true, Option.bind_some, nm_app]; exact d)]
    rw [em]
    by_cases d : cn ≤ 1
    · rw [if_pos d, if_pos d, Option.bind_some]
      dsimp only
      rw [if_neg (show ¬ (1 : Int32) = 0 by decide), Mo_kind hk hi1, Option.bind_some, Option.bind_some, Mo_a5 hk hi1, show (54 : Int32) = nI 54 from rfl, show (51 : Int32) = nI 51 from rfl]
      refine ⟨_, Mx.flat_li hv 1, ?_⟩
      by_cases e : K (i + 1) = 54
      · rw [if_pos (by rw [e]), if_pos (Or.inl e)]
      · rw [if_neg (by simp (disch := omega) only [lit_nI, nI_eq', nI_add', nI_le', nI_lt', nI_nn, nI_ge0, nI_clamp', nI_ne1, nI_ne2, nI_ne3, m1_lt, m1_le, m1_ge, m1_gt, if_false, if_true, Option.bind_some, nm_app]; exact e)]
        by_cases f : K (i + 1) = 51
        · rw [if_pos (by rw [f]), if_pos (Or.inr f)]
        · rw [if_neg (by simp (disch := omega) only [lit_nI, nI_eq', nI_add', nI_le', nI_lt', nI_nn, nI_ge0, nI_clamp', nI_ne1, nI_ne2, nI_ne3, m1_lt, m1_le, m1_ge, m1_gt, if_false, if_true, Option.bind_some, nm_app]; exact f), if_neg (fun x => x.elim e f)]
    · rw [if_neg d, if_neg d, Option.bind_some]
      dsimp only
      rw [if_pos rfl]
  · rw [if_neg c, if_neg (by simp (disch := omega) only [lit_nI, nI_eq', nI_add', nI_le', nI_lt', nI_nn, nI_ge0, nI_clamp', nI_ne1, nI_ne2, nI_ne3, m1_lt, m1_le, m1_ge, m1_gt, if_false, if_true, Option.bind_some, nm_app]; exact c)]
end Md
end

section
/-- what a turn says of the loop: X is its value, Kf the loop itself, N0 the room of the open list -/
def Mx.Res (m N0 : Nat) (bad : Int32) (Kf : Int32 → Int32 → Int32 → Int32 → Int32 → Int32 → Int32 → Int32 → Nat → (Nat → Int32) → Option ((Int32 × Int32 × Int32 × Int32 × Int32 × Nat × (Nat → Int32)) × Nat × Nat)) (X : Option ((Int32 × Int32 × Int32 × Int32 × Int32 × Nat × (Nat → Int32)) × Nat × Nat)) : Sum Nat (Bool × Mx) → Prop
  | .inl j => j < m ∧ ∃ lv' sz' N' b' c s, X = some ((0, nI j, nI j, lv', sz', N', b'), c, s) ∧ OpIs N0 N' b' [] c s
  | .inr (true, (_, _, _, _, i, lv, _)) => ∃ b', X = some ((1, nI i, bad, nI lv, 0, N0, b'), 0, 0) ∧ OpIs N0 N0 b' [] 0 0
  | .inr (false, (w, fr, bh, co, i, lv, op)) => ∃ N' b' c s, OpIs N0 N' b' op c s ∧ ∀ R c2 s2, Kf (nI w) (nI fr) (nI bh) (nI co) (nI i) bad (nI lv) (nI (5 * op.length)) N' b' = some (R, c2, s2) → X = some (R, c + c2, s + s2)
theorem OpIs.nil {N : Nat} {b : Nat → Int32} {l : List Int32} (h : Vec N b l) (hN : N ≤ 600) {b' : Nat → Int32} : OpIs N N b' [] 0 0 := ⟨Vec.nil h.pos h.room, Grow.rfl, hN⟩
/-- nothing grew: the turn goes on -/
theorem Mx.go0 {m N : Nat} {bad : Int32} {Kf : Int32 → Int32 → Int32 → Int32 → Int32 → Int32 → Int32 → Int32 → Nat → (Nat → Int32) → Option ((Int32 × Int32 × Int32 × Int32 × Int32 × Nat × (Nat → Int32)) × Nat × Nat)} {w fr bh co i lv : Nat} {op : List Ent} {b : Nat → Int32} (h : Vec N b (Mx.flat op)) (hN : N ≤ 600) {X : Option ((Int32 × Int32 × Int32 × Int32 × Int32 × Nat × (Nat → Int32)) × Nat × Nat)} (e : X = Kf (nI w) (nI fr) (nI bh) (nI co) (nI i) bad (nI lv) (nI (5 * op.length)) N b) : Mx.Res m N bad Kf X (.inr (false, (w, fr, bh, co, i, lv, op))) :=
  ⟨N, b, 0, 0, ⟨h, Grow.rfl, hN⟩, fun R c2 s2 h2 => by rw [e, h2, Nat.zero_add, Nat.zero_add]⟩
theorem Mx.no0 {m N j : Nat} {bad : Int32} {Kf : Int32 → Int32 → Int32 → Int32 → Int32 → Int32 → Int32 → Int32 → Nat → (Nat → Int32) → Option ((Int32 × Int32 × Int32 × Int32 × Int32 × Nat × (Nat → Int32)) × Nat × Nat)} {l : List Int32} {b b' : Nat → Int32} {lv' sz' : Int32} (h : Vec N b l) (hN : N ≤ 600) (hj : j < m) {X : Option ((Int32 × Int32 × Int32 × Int32 × Int32 × Nat × (Nat → Int32)) × Nat × Nat)} (e : X = some ((0, nI j, nI j, lv', sz', N, b'), 0, 0)) : Mx.Res m N bad Kf X (.inl j) :=
  ⟨hj, lv', sz', N, b', 0, 0, e, OpIs.nil h hN⟩
section Md
variable {m N5 : Nat} {a5 : Nat → Int32} {K : Nat → Nat}
variable {q1 q2 q3 q4 q5 q6 : Int32} {q7 : Int32}
variable {Kf : Int32 → Int32 → Int32 → Int32 → Int32 → Int32 → Int32 → Int32 → Nat → (Nat → Int32) → Option ((Int32 × Int32 × Int32 × Int32 × Int32 × Nat × (Nat → Int32)) × Nat × Nat)}
theorem Mo_123 (hk : KdIs m N5 a5 K) {N i n cn li co1 fr1 : Nat} {r : List Ent} {b : Nat → Int32} {bad lv : Int32} (hv : Vec N b (Mx.flat ((2, cn, li, co1, fr1) :: r))) (hN : N ≤ 600) (hi : i < m) (hn : n ≤ 8) (hli : li ≤ 1) :
    ∃ b1 b2, Vec N b1 (Mx.flat ((2, n, li, co1, fr1) :: r)) ∧ (K i = 54 → n ≤ 1 → K (i + 1) = 38 → Vec N b2 (Mx.flat ((2, n + 1, 1, co1, fr1) :: r))) ∧ ∃ b3, F_Mo_inBracket_123 (nI (K i)) q1 q2 q3 q4 (nI i) bad lv q5 q6 q7 N5 a5 (nI (5 * (r.length + 1))) N b (nI n) =
      (if K i = 54 ∧ n ≠ 8 ∧ (n ≤ 1 ∨ li ≠ 1) then (if K (i + 1) = 38 then (if n ≤ 1 then (if K (i + 2) = 54 ∨ K (i + 2) = 51 then some (2, nI (i + 2), bad, b2) else some (-1, nI (i + 2), nI (i + 2), b3)) else some (-1, nI (i + 1), nI (i + 1), b1)) else some (1, nI (i + 1), bad, b1)) else some (-1, nI i, nI i, b1)) := by
  have h57 := hk.lt i
  have hle := hv.le
  rw [Mx.flat_len, List.length_cons] at hle
  have hv1 := Mx.flat_cn hv n
  obtain ⟨b0, b1, b2, b3, b4⟩ := Mx.flat_at hv1
  have tix : ∀ j, j < 5 → Int32.toNatClampNeg (nI (5 * (r.length + 1)) - 5 + nI j) = 5 * r.length + j := fun j hj => Mo_tix (by omega) hj
  have t1 : Int32.toNatClampNeg (nI (5 * (r.length + 1)) - 5 + 1) = 5 * r.length + 1 := tix 1 (by omega)
  have t2 : Int32.toNatClampNeg (nI (5 * (r.length + 1)) - 5 + 2) = 5 * r.length + 2 := tix 2 (by omega)
  unfold F_Mo_inBracket_123
  rw [show F_Mo_setTop 1 (nI n) q1 q2 q3 q4 (nI i) bad lv q5 q6 (nI (5 * (r.length + 1))) N b = some () from Mo_setTop (j := 1) hle hN (by omega), Option.bind_some, t1, t2, show (54 : Int32) = nI 54 from rfl, show F_Mo_top 2 q1 q2 q3 q4 (nI i) bad lv q5 q6 (nI (5 * (r.length + 1))) N (upd b (5 * r.length + 1) (nI n)) = some () from Mo_top (j := 2) hle hN (by omega), Option.bind_some, b2]
  by_cases c : K i = 54
  · rw [if_pos (show nI (K i) = nI 54 by rw [c])]
    by_cases d : n = 8
    · rw [if_pos (show nI n = 8 by rw [d]; rfl)]
      exact ⟨_, fun _ => 0, hv1, fun _ h => by omega, fun _ => 0, (if_neg (fun x => x.2.1 d)).symm⟩
    · rw [if_neg (show ¬ nI n = 8 by simp (disch := omega) only [lit_nI, nI_eq', nI_add', nI_le', nI_lt', nI_nn, nI_ge0, nI_clamp', nI_ne1, nI_ne2, nI_ne3, m1_lt, m1_le, m1_ge, m1_gt, if_false, if_true, Option.bind_some, nm_app]; exact d)]
      have hi1 : i + 1 < m := hk.go hi (by omega)
      have key : (n ≤ 1 ∨ li ≠ 1) → ∃ b1' b2', Vec N b1' (Mx.flat ((2, n, li, co1, fr1) :: r)) ∧ (K i = 54 → n ≤ 1 → K (i + 1) = 38 → Vec N b2' (Mx.flat ((2, n + 1, 1, co1, fr1) :: r))) ∧ ∃ b3', F_Mo_inBracket_163 q1 q2 q3 q4 (nI i) bad lv q5 q6 q7 N5 a5 (nI (5 * (r.length + 1))) N (nI n) (upd b (5 * r.length + 1) (nI n)) = (if K i = 54 ∧ n ≠ 8 ∧ (n ≤ 1 ∨ li ≠ 1) then (if K (i + 1) = 38 then (if n ≤ 1 then (if K (i + 2) = 54 ∨ K (i + 2) = 51 then some (2, nI (i + 2), bad, b2') else some (-1, nI (i + 2), nI (i + 2), b3')) else some (-1, nI (i + 1), nI (i + 1), b1')) else some (1, nI (i + 1), bad, b1')) else some (-1, nI i, nI i, b1')) := by
        intro ho
        have hw := Mo_whole hk (q1 := q1) (q2 := q2) (q3 := q3) (q4 := q4) (q5 := lv) (q6 := q5) (q7 := q6) (q8 := q7) hv1 hN (by omega) hi1 (bad := bad)
        unfold F_Mo_inBracket_163
        rw [show nI i + 1 = nI (i + 1) from nI_add' i 1]
        by_cases e : K (i + 1) = 38
        · rw [if_pos e] at hw
          by_cases f : n ≤ 1
          · rw [if_pos f] at hw
            obtain ⟨b', v', e'⟩ := hw
            rw [e']
            by_cases g : K (i + 2) = 54 ∨ K (i + 2) = 51
            · refine ⟨upd b (5 * r.length + 1) (nI n), upd b' (5 * r.length + 1) (nI (n + 1)), hv1, fun _ _ _ => Mx.flat_cn v' (n + 1), fun _ => 0, ?_⟩
              rw [if_pos (show K i = 54 ∧ n ≠ 8 ∧ (n ≤ 1 ∨ li ≠ 1) from ⟨c, d, ho⟩), if_pos e, if_pos f, if_pos g, if_pos (show K (i + 1 + 1) = 54 ∨ K (i + 1 + 1) = 51 from g), Option.bind_some]
              dsimp only
              rw [if_pos rfl, show F_Mo_setTop 1 (nI n + 1) q1 q2 q3 q4 (nI (i + 1 + 1)) bad lv q5 q6 (nI (5 * (r.length + 1))) N b' = some () from Mo_setTop (j := 1) hle hN (by omega), Option.bind_some, t1, show nI n + 1 = nI (n + 1) from nI_add' n 1]
              rfl
            · refine ⟨upd b (5 * r.length + 1) (nI n), upd b' (5 * r.length + 1) (nI (n + 1)), hv1, fun _ _ _ => Mx.flat_cn v' (n + 1), b', ?_⟩
              rw [if_pos (show K i = 54 ∧ n ≠ 8 ∧ (n ≤ 1 ∨ li ≠ 1) from ⟨c, d, ho⟩), if_pos e, if_pos f, if_neg g, if_neg (show ¬ (K (i + 1 + 1) = 54 ∨ K (i + 1 + 1) = 51) from g), Option.bind_some]
              rfl
          · rw [if_neg f] at hw
            rw [hw]
            refine ⟨_, fun _ => 0, hv1, fun _ h => by omega, fun _ => 0, ?_⟩
            rw [if_pos (show K i = 54 ∧ n ≠ 8 ∧ (n ≤ 1 ∨ li ≠ 1) from ⟨c, d, ho⟩), if_pos e, if_neg f]
            rfl
        · rw [if_neg e] at hw
          rw [hw]
          refine ⟨_, fun _ => 0, hv1, fun _ _ h => absurd h e, fun _ => 0, ?_⟩
          rw [if_pos (show K i = 54 ∧ n ≠ 8 ∧ (n ≤ 1 ∨ li ≠ 1) from ⟨c, d, ho⟩), if_neg e]
          rfl
      by_cases f : n ≤ 1
      · rw [if_pos (show nI n ≤ 1 by simp (disch := omega) only [lit_nI, nI_eq', nI_add', nI_le', nI_lt', nI_nn, nI_ge0, nI_clamp', nI_ne1, nI_ne2, nI_ne3, m1_lt, m1_le, m1_ge, m1_gt, if_false, if_true, Option.bind_some, nm_app]; exact f)]
        exact key (Or.inl f)
      · rw [if_neg (show ¬ nI n ≤ 1 by simp (disch := omega) only [lit_nI, nI_eq', nI_add', nI_le', nI_lt', nI_nn, nI_ge0, nI_clamp', nI_ne1, nI_ne2, nI_ne3, m1_lt, m1_le, m1_ge, m1_gt, if_false, if_true, Option.bind_some, nm_app]; exact f)]
        by_cases g : li = 1
        · rw [if_pos (show nI li = 1 by rw [g]; rfl)]
          exact ⟨_, fun _ => 0, hv1, fun _ h => absurd h f, fun _ => 0, (if_neg (fun x => x.2.2.elim f (fun h => h g))).symm⟩
        · rw [if_neg (show ¬ nI li = 1 by simp (disch := omega) only [lit_nI, nI_eq', nI_add', nI_le', nI_lt', nI_nn, nI_ge0, nI_clamp', nI_ne1, nI_ne2, nI_ne3, m1_lt, m1_le, m1_ge, m1_gt, if_false, if_true, Option.bind_some, nm_app]; exact g)]
          exact key (Or.inr g)
  · rw [if_neg (show ¬ nI (K i) = nI 54 by simp (disch := omega) only [lit_nI, nI_eq', nI_add', nI_le', nI_lt', nI_nn, nI_ge0, nI_clamp', nI_ne1, nI_ne2, nI_ne3, m1_lt, m1_le, m1_ge, m1_gt, if_false, if_true, Option.bind_some, nm_app]; exact c)]
    exact ⟨_, fun _ => 0, hv1, fun h => absurd h c, fun _ => 0, (if_neg (fun x => c x.1)).symm⟩
theorem RE486 (hk : KdIs m N5 a5 K) {N fr bh i lv : Nat} {op : List Ent} {b : Nat → Int32} {bad : Int32} (hv : Vec N b (Mx.flat op)) (hN : N ≤ 600) (hi : i < m) (h0 : 0 < i) (hl : ∀ e ∈ op, (e.1 = 50 ∨ e.1 = 52 ∨ e.1 = 2) ∧ e.2.1 ≤ 7 ∧ e.2.2.1 ≤ 1 ∧ e.2.2.2.2 + 1 ≤ lv) :
    Mx.Res m N bad Kf (F_Mo_readExpression_486 q1 q2 q3 q4 q5 q6 q7 N5 a5 0 (nI fr) (nI bh) (nI i) bad (nI lv) (nI (5 * op.length)) N b Kf) (Mx.inB K fr bh i lv op) := by
  have h57 := hk.lt i
  have hroom := hk.room
  have hmle := hk.le
  unfold F_Mo_readExpression_486
  match op, hv, hl with
  | [], hv, hl =>
    rw [if_pos (show nI (5 * ([] : List Ent).length) = 0 from rfl), Mx.inB]
    exact ⟨b, rfl, OpIs.nil hv hN⟩
  | (wh, cn, li, co1, fr1) :: r, hv, hl =>
    have hle := hv.le
    rw [Mx.flat_len, List.length_cons] at hle
    obtain ⟨b0, b1, b2, b3, b4⟩ := Mx.flat_at hv
    obtain ⟨hw, hc7, hli, hfr⟩ := hl (wh, cn, li, co1, fr1) List.mem_cons_self
    have hw : wh = 50 ∨ wh = 52 ∨ wh = 2 := hw
    have hc7 : cn ≤ 7 := hc7
    have hli : li ≤ 1 := hli
    have hfr : fr1 + 1 ≤ lv := hfr
    have tix : ∀ j, j < 5 → Int32.toNatClampNeg (nI (5 * (r.length + 1)) - 5 + nI j) = 5 * r.length + j := fun j hj => Mo_tix (by omega) hj
    rw [List.length_cons, if_neg (show ¬ nI (5 * (r.length + 1)) = 0 by simp (disch := omega) only [lit_nI, nI_eq', nI_add', nI_le', nI_lt', nI_nn, nI_ge0, nI_clamp', nI_ne1, nI_ne2, nI_ne3, m1_lt, m1_le, m1_ge, m1_gt, if_false, if_true, Option.bind_some, nm_app]; omega), show (0 : Int32) = nI 0 from rfl, Mo_top hle hN (by omega), Option.bind_some, tix 0 (by omega), Mo_a5 hk hi, Nat.add_zero, b0]
    have pop : ∀ (X : Option ((Int32 × Int32 × Int32 × Int32 × Int32 × Nat × (Nat → Int32)) × Nat × Nat)), X = Kf 0 0 (nI bh) (nI co1) (nI (i + 1)) bad (nI lv - nI fr1 - 1) (nI (5 * (r.length + 1)) - 5) N b → Mx.Res m N bad Kf X (.inr (false, (0, 0, bh, co1, i + 1, lv - fr1 - 1, r))) := by
      intro X hX
      refine Mx.go0 (Mx.flat_tl hv) hN ?_
      rw [hX, show nI (5 * (r.length + 1)) - 5 = nI (5 * r.length) by rw [show (5 : Int32) = nI 5 from rfl, nI_sub' (by omega)]; congr 1, nI_sub' (by omega), show (1 : Int32) = nI 1 from rfl, nI_sub' (by omega)]; rfl
    have fin0 : ∀ (at1 bad1 : Int32) (bb : Nat → Int32), bb (5 * r.length + 3) = nI co1 → bb (5 * r.length + 4) = nI fr1 → (Option.bind (F_Mo_top (nI 3) q1 q2 q3 q4 at1 bad1 (nI lv) q5 q6 (nI (5 * (r.length + 1))) N bb) fun _ => Option.bind (F_Mo_top (nI 4) q1 q2 q3 q4 at1 bad1 (nI lv) q5 q6 (nI (5 * (r.length + 1))) N bb) fun _ => Kf (nI 0) (nI 0) (nI bh) (bb (Int32.toNatClampNeg (nI (5 * (r.length + 1)) - 5 + nI 3))) at1 bad1 (nI lv - bb (Int32.toNatClampNeg (nI (5 * (r.length + 1)) - 5 + nI 4)) - 1) (nI (5 * (r.length + 1)) - 5) N bb) = Kf (nI 0) (nI 0) (nI bh) (nI co1) at1 bad1 (nI lv - nI fr1 - 1) (nI (5 * (r.length + 1)) - 5) N bb := by
      intro at1 bad1 bb e3 e4
      rw [Mo_top hle hN (by omega), Option.bind_some, Mo_top hle hN (by omega), Option.bind_some, tix 3 (by omega), tix 4 (by omega), e3, e4]
    rw [Mx.inB]
    unfold F_Mo_inBracket
    rcases hw with rfl | rfl | rfl
    · rw [if_pos (show nI 50 = 50 from rfl), if_pos rfl, show (51 : Int32) = nI 51 from rfl, Mo_take hk hi (by omega)]
      by_cases c : K i = 51
      · rw [if_pos c, if_pos c]
        exact pop _ (fin0 _ _ b b3 b4)
      · rw [if_neg c, if_neg c]
        exact Mx.no0 hv hN hi rfl
    · rw [if_neg (show ¬ nI 52 = 50 by decide), if_pos (show nI 52 = 52 from rfl), if_neg (show ¬ (52 : Nat) = 50 by decide), if_pos rfl, show (53 : Int32) = nI 53 from rfl, show (54 : Int32) = nI 54 from rfl, show (55 : Int32) = nI 55 from rfl]
      by_cases c : K i = 53
      · rw [if_pos c, if_pos (show nI (K i) = nI 53 by rw [c])]
        rw [show nI i + 1 = nI (i + 1) from nI_add' i 1]
        exact pop _ (fin0 _ _ b b3 b4)
      · rw [if_neg c, if_neg (show ¬ nI (K i) = nI 53 by simp (disch := omega) only [lit_nI, nI_eq', nI_add', nI_le', nI_lt', nI_nn, nI_ge0, nI_clamp', nI_ne1, nI_ne2, nI_ne3, m1_lt, m1_le, m1_ge, m1_gt, if_false, if_true, Option.bind_some, nm_app]; exact c)]
        have sep : K i = 54 ∨ K i = 55 → Mx.Res m N bad Kf (Option.bind (F_Mo_inBracket_57 q1 q2 q3 q4 (nI i) bad (nI lv) q5 q6 q7 N5 a5 b) fun x => match x with | (r3, r4, r5, r6) => if nI 0 ≤ r3 then (if r3 = nI 0 then (Option.bind (F_Mo_top 3 q1 q2 q3 q4 r4 r5 (nI lv) q5 q6 (nI (5 * (r.length + 1))) N r6) fun _ => Option.bind (F_Mo_top 4 q1 q2 q3 q4 r4 r5 (nI lv) q5 q6 (nI (5 * (r.length + 1))) N r6) fun _ => Kf (nI 0) (nI 0) (nI bh) (r6 (Int32.toNatClampNeg (nI (5 * (r.length + 1)) - 5 + 3))) r4 r5 (nI lv - r6 (Int32.toNatClampNeg (nI (5 * (r.length + 1)) - 5 + 4)) - 1) (nI (5 * (r.length + 1)) - 5) N r6) else if r3 = 1 then Kf 1 (nI fr) (nI 0) (nI 0) r4 r5 (nI lv) (nI (5 * (r.length + 1))) N r6 else Kf (nI 0) (nI fr) (nI 0) (nI 0) r4 r5 (nI lv) (nI (5 * (r.length + 1))) N r6) else some ((nI 0, r4, r5, nI lv, nI (5 * (r.length + 1)), N, r6), 0, 0)) (if (K i = 54 ∨ K i = 55) ∧ K (i - 1) ≠ 50 ∧ K (i - 1) ≠ 52 then .inr (false, (1, fr, 0, 0, i + 1, lv, (52, cn, li, co1, fr1) :: r)) else .inl i) := by
          intro ho
          unfold F_Mo_inBracket_57
          rw [Mo_emptyO hk hi h0, Option.bind_some]
          by_cases d : K (i - 1) = 50 ∨ K (i - 1) = 52
          · rw [if_pos d, if_neg (show ¬ (1 : Int32) = 0 by decide), if_neg (fun x => d.elim x.2.1 x.2.2)]
            exact Mx.no0 hv hN hi rfl
          · rw [if_neg d, if_pos rfl, if_pos (show (K i = 54 ∨ K i = 55) ∧ K (i - 1) ≠ 50 ∧ K (i - 1) ≠ 52 from ⟨ho, fun x => d (Or.inl x), fun x => d (Or.inr x)⟩), show nI i + 1 = nI (i + 1) from nI_add' i 1]
            exact Mx.go0 hv hN rfl
        by_cases d : K i = 54
        · rw [if_pos (show nI (K i) = nI 54 by rw [d])]
          exact sep (Or.inl d)
        · rw [if_neg (show ¬ nI (K i) = nI 54 by simp (disch := omega) only [lit_nI, nI_eq', nI_add', nI_le', nI_lt', nI_nn, nI_ge0, nI_clamp', nI_ne1, nI_ne2, nI_ne3, m1_lt, m1_le, m1_ge, m1_gt, if_false, if_true, Option.bind_some, nm_app]; exact d)]
          by_cases e : K i = 55
          · rw [if_pos (show nI (K i) = nI 55 by rw [e])]
            exact sep (Or.inr e)
          · rw [if_neg (show ¬ nI (K i) = nI 55 by simp (disch := omega) only [lit_nI, nI_eq', nI_add', nI_le', nI_lt', nI_nn, nI_ge0, nI_clamp', nI_ne1, nI_ne2, nI_ne3, m1_lt, m1_le, m1_ge, m1_gt, if_false, if_true, Option.bind_some, nm_app]; exact e), if_neg (fun x => x.1.elim d e)]
            exact Mx.no0 hv hN hi rfl
    · rw [if_neg (show ¬ nI 2 = 50 by decide), if_neg (show ¬ nI 2 = 52 by decide), if_neg (show ¬ (2 : Nat) = 50 by decide), if_neg (show ¬ (2 : Nat) = 52 by decide), show (51 : Int32) = nI 51 from rfl]
      by_cases c : K i = 51
      · rw [if_pos c, if_pos (show nI (K i) = nI 51 by rw [c])]
        rw [show nI i + 1 = nI (i + 1) from nI_add' i 1]
        exact pop _ (fin0 _ _ b b3 b4)
      · rw [if_neg c, if_neg (show ¬ nI (K i) = nI 51 by simp (disch := omega) only [lit_nI, nI_eq', nI_add', nI_le', nI_lt', nI_nn, nI_ge0, nI_clamp', nI_ne1, nI_ne2, nI_ne3, m1_lt, m1_le, m1_ge, m1_gt, if_false, if_true, Option.bind_some, nm_app]; exact c), Mo_colonB hk hi h0, Option.bind_some]
        have done : ∀ n, n ≤ 8 → (if K (i - 1) = 38 then cn else cn + 1) = n → Mx.Res m N bad Kf (Option.bind (F_Mo_inBracket_123 (nI (K i)) q1 q2 q3 q4 (nI i) bad (nI lv) q5 q6 q7 N5 a5 (nI (5 * (r.length + 1))) N b (nI n)) fun x => match x with | (r3, r4, r5, r6) => if nI 0 ≤ r3 then (if r3 = nI 0 then (Option.bind (F_Mo_top 3 q1 q2 q3 q4 r4 r5 (nI lv) q5 q6 (nI (5 * (r.length + 1))) N r6) fun _ => Option.bind (F_Mo_top 4 q1 q2 q3 q4 r4 r5 (nI lv) q5 q6 (nI (5 * (r.length + 1))) N r6) fun _ => Kf (nI 0) (nI 0) (nI bh) (r6 (Int32.toNatClampNeg (nI (5 * (r.length + 1)) - 5 + 3))) r4 r5 (nI lv - r6 (Int32.toNatClampNeg (nI (5 * (r.length + 1)) - 5 + 4)) - 1) (nI (5 * (r.length + 1)) - 5) N r6) else if r3 = 1 then Kf 1 (nI fr) (nI 0) (nI 0) r4 r5 (nI lv) (nI (5 * (r.length + 1))) N r6 else Kf (nI 0) (nI fr) (nI 0) (nI 0) r4 r5 (nI lv) (nI (5 * (r.length + 1))) N r6) else some ((nI 0, r4, r5, nI lv, nI (5 * (r.length + 1)), N, r6), 0, 0)) (if K i = 54 ∧ (if K (i - 1) = 38 then cn else cn + 1) ≠ 8 ∧ ((if K (i - 1) = 38 then cn else cn + 1) ≤ 1 ∨ li ≠ 1) then (if K (i + 1) = 38 then (if (if K (i - 1) = 38 then cn else cn + 1) ≤ 1 then (if K (i + 2) = 54 ∨ K (i + 2) = 51 then .inr (false, (0, fr, 0, 0, i + 2, lv, (2, (if K (i - 1) = 38 then cn else cn + 1) + 1, 1, co1, fr1) :: r)) else .inl (i + 2)) else .inl (i + 1)) else .inr (false, (1, fr, 0, 0, i + 1, lv, (2, (if K (i - 1) = 38 then cn else cn + 1), li, co1, fr1) :: r))) else .inl i) := by
          intro n hn8 hn
          rw [hn]
          obtain ⟨c1, c2, w1, w2, c3, e⟩ := Mo_123 hk (q1 := q1) (q2 := q2) (q3 := q3) (q4 := q4) (q5 := q5) (q6 := q6) (q7 := q7) hv hN hi hn8 hli (bad := bad) (lv := nI lv)
          rw [e]
          by_cases d : K i = 54 ∧ n ≠ 8 ∧ (n ≤ 1 ∨ li ≠ 1)
          · have hi1 : i + 1 < m := hk.go hi (by omega)
            rw [if_pos d, if_pos d]
            by_cases f : K (i + 1) = 38
            · have hi2 : i + 2 < m := hk.go hi1 (by omega)
              rw [if_pos f, if_pos f]
              by_cases g : n ≤ 1
              · rw [if_pos g, if_pos g]
                by_cases h : K (i + 2) = 54 ∨ K (i + 2) = 51
                · rw [if_pos h, if_pos h]
                  exact Mx.go0 (w2 d.1 g f) hN rfl
                · rw [if_neg h, if_neg h]
                  exact Mx.no0 hv hN hi2 rfl
              · rw [if_neg g, if_neg g]
                exact Mx.no0 hv hN hi1 rfl
            · rw [if_neg f, if_neg f]
              exact Mx.go0 w1 hN rfl
          · rw [if_neg d, if_neg d]
            exact Mx.no0 hv hN hi rfl
        have et : F_Mo_top 1 q1 q2 q3 q4 (nI i) bad (nI lv) q5 q6 (nI (5 * (r.length + 1))) N b = some () := Mo_top (j := 1) hle hN (by omega)
        have ti : b (Int32.toNatClampNeg (nI (5 * (r.length + 1)) - 5 + 1)) = nI cn := by
          rw [show Int32.toNatClampNeg (nI (5 * (r.length + 1)) - 5 + 1) = 5 * r.length + 1 from tix 1 (by omega)]; exact b1
        by_cases d : K (i - 1) = 38
        · rw [if_pos d, if_neg (show ¬ (1 : Int32) = 0 by decide), et, Option.bind_some, ti]
          exact done cn (by omega) (if_pos d)
        · rw [if_neg d, if_pos (show (0 : Int32) = 0 from rfl), et, Option.bind_some, ti, show nI cn + 1 = nI (cn + 1) from nI_add' cn 1]
          exact done (cn + 1) (by omega) (if_neg d)
end Md
end

section
theorem Mx.mark_len : ∀ (op : List Ent), match Mx.mark op with | none => True | some op' => op'.length = op.length
  | [] => trivial
  | (wh, cn, li, co, fr) :: r => by
    have ih := Mx.mark_len r
    rw [Mx.mark]
    by_cases c : wh = 2
    · rw [if_pos c]
      by_cases d : cn ≤ 1
      · rw [if_pos d]; rfl
      · rw [if_neg d]; trivial
    · rw [if_neg c]
      cases e : Mx.mark r with
      | none => trivial
      | some op' =>
        rw [e] at ih
        show op'.length + 1 = r.length + 1
        rw [show op'.length = r.length from ih]
section Md
variable {m N5 : Nat} {a5 : Nat → Int32} {K : Nat → Nat}
variable {n2 : Nat} {b2 : Nat → Int32}
variable {q1 q2 q3 q4 q5 q6 : Int32} {q7 : Int32}
variable {Kf : Int32 → Int32 → Int32 → Int32 → Int32 → Int32 → Int32 → Int32 → Nat → (Nat → Int32) → Option ((Int32 × Int32 × Int32 × Int32 × Int32 × Nat × (Nat → Int32)) × Nat × Nat)}
theorem RE391 (hk : KdIs m N5 a5 K) (hr : RkIs n2 b2) {N fr bh co i lv : Nat} {op : List Ent} {b : Nat → Int32} {bad : Int32} (hv : Vec N b (Mx.flat op)) (hN : N ≤ 600) (hi : i < m) (h0 : 0 < i) (hco : co ≤ 2) (hl : ∀ e ∈ op, (e.1 = 50 ∨ e.1 = 52 ∨ e.1 = 2) ∧ e.2.1 ≤ 7 ∧ e.2.2.1 ≤ 1 ∧ e.2.2.2.2 + 1 ≤ lv) :
    Mx.Res m N bad Kf (F_Mo_readExpression_391 q1 q2 q3 q4 q5 q6 q7 N5 a5 n2 b2 0 (nI fr) (nI bh) (nI co) (nI i) bad (nI lv) (nI (5 * op.length)) N b Kf)
      (if 0 < rkM (K i) ∧ K (i - 1) ≠ 38 ∧ K (i - 1) ≠ 50 ∧ K (i - 1) ≠ 52 then
        (if Mx.co' (K i) co ≤ 2 then .inr (false, (1, fr, if rkM (K i) = 8 then 1 else 0, Mx.co' (K i) co, i + 1, lv, op)) else .inl i)
      else Mx.inB K fr bh i lv op) := by
  have h57 := hk.lt i
  have hrk := rkM_le (K i)
  have h486 := RE486 hk (q1 := q1) (q2 := q2) (q3 := q3) (q4 := q4) (q5 := q5) (q6 := q6) (q7 := q7) (Kf := Kf) (fr := fr) (bh := bh) (bad := bad) hv hN hi h0 hl
  unfold F_Mo_readExpression_391
  rw [Mo_a5 hk hi, Mo_rank hr h57, Option.bind_some, Option.bind_some, Mo_colonB hk hi h0, Option.bind_some, Mo_emptyO hk hi h0, Option.bind_some]
  by_cases c : rkM (K i) = 0
  · rw [if_pos (show nI (rkM (K i)) ≤ 0 by rw [c]; decide), if_neg (fun x => by omega)]
    exact h486
  · rw [if_neg (show ¬ nI (rkM (K i)) ≤ 0 by simp (disch := omega) only [lit_nI, nI_eq', nI_add', nI_le', nI_lt', nI_nn, nI_ge0, nI_clamp', nI_ne1, nI_ne2, nI_ne3, m1_lt, m1_le, m1_ge, m1_gt, if_false, if_true, Option.bind_some, nm_app]; omega)]
    by_cases d : K (i - 1) = 38
    · rw [if_pos d, if_neg (show ¬ (1 : Int32) = 0 by decide), if_neg (fun x => x.2.1 d)]
      exact h486
    · rw [if_neg d, if_pos (show (0 : Int32) = 0 from rfl)]
      by_cases e : K (i - 1) = 50 ∨ K (i - 1) = 52
      · rw [if_pos e, if_neg (show ¬ (1 : Int32) = 0 by decide), if_neg (fun x => e.elim x.2.2.1 x.2.2.2)]
        exact h486
      · rw [if_neg e, if_pos (show (0 : Int32) = 0 from rfl), if_pos (show 0 < rkM (K i) ∧ K (i - 1) ≠ 38 ∧ K (i - 1) ≠ 50 ∧ K (i - 1) ≠ 52 from ⟨by omega, d, fun x => e (Or.inl x), fun x => e (Or.inr x)⟩)]
        have fin : ∀ v : Nat, v ≤ 3 → Mx.Res m N bad Kf (F_Mo_readExpression_442 q1 q2 q3 q4 q5 q6 a5 n2 b2 (nI fr) (nI i) bad (nI lv) (nI (5 * op.length)) N b Kf (nI v)) (if v ≤ 2 then .inr (false, (1, fr, if rkM (K i) = 8 then 1 else 0, v, i + 1, lv, op)) else .inl i) := by
          intro v hv3
          unfold F_Mo_readExpression_442 F_Mo_readExpression_469
          rw [Mo_a5 hk hi, Mo_rank hr h57, Option.bind_some, show nI i + 1 = nI (i + 1) from nI_add' i 1]
          by_cases f : v ≤ 2
          · rw [if_pos f, if_pos (show nI v ≤ 2 by simp (disch := omega) only [lit_nI, nI_eq', nI_add', nI_le', nI_lt', nI_nn, nI_ge0, nI_clamp', nI_ne1, nI_ne2, nI_ne3, m1_lt, m1_le, m1_ge, m1_gt, if_false, if_true, Option.bind_some, nm_app]; exact f)]
            refine Mx.go0 hv hN ?_
            by_cases g : rkM (K i) = 8
            · rw [if_pos g, if_pos (show nI (rkM (K i)) = 8 by rw [g]; rfl)]; rfl
            · rw [if_neg g, if_neg (show ¬ nI (rkM (K i)) = 8 by simp (disch := omega) only [lit_nI, nI_eq', nI_add', nI_le', nI_lt', nI_nn, nI_ge0, nI_clamp', nI_ne1, nI_ne2, nI_ne3, m1_lt, m1_le, m1_ge, m1_gt, if_false, if_true, Option.bind_some, nm_app]; exact g)]; rfl
          · rw [if_neg f, if_neg (show ¬ nI v ≤ 2 by simp (disch := omega) only [lit_nI, nI_eq', nI_add', nI_le', nI_lt', nI_nn, nI_ge0, nI_clamp', nI_ne1, nI_ne2, nI_ne3, m1_lt, m1_le, m1_ge, m1_gt, if_false, if_true, Option.bind_some, nm_app]; exact f)]
            exact Mx.no0 hv hN hi rfl
        unfold Mx.co'
        by_cases f : rkM (K i) < 4
        · rw [if_neg (show ¬ 4 ≤ nI (rkM (K i)) by simp (disch := omega) only [lit_nI, nI_eq', nI_add', nI_le', nI_lt', nI_nn, nI_ge0, nI_clamp', nI_ne1, nI_ne2, nI_ne3, m1_lt, m1_le, m1_ge, m1_gt, if_false, if_true, Option.bind_some, nm_app]; omega), if_pos f]
          exact fin 0 (by omega)
        · rw [if_pos (show 4 ≤ nI (rkM (K i)) by simp (disch := omega) only [lit_nI, nI_eq', nI_add', nI_le', nI_lt', nI_nn, nI_ge0, nI_clamp', nI_ne1, nI_ne2, nI_ne3, m1_lt, m1_le, m1_ge, m1_gt, if_false, if_true, Option.bind_some, nm_app]; omega), if_neg f]
          by_cases g : K i = 38
          · rw [if_pos g, if_pos (show nI (K i) = 38 by rw [g]; rfl), show nI co + 1 = nI (co + 1) from nI_add' co 1]
            exact fin (co + 1) (by omega)
          · rw [if_neg g, if_neg (show ¬ nI (K i) = 38 by simp (disch := omega) only [lit_nI, nI_eq', nI_add', nI_le', nI_lt', nI_nn, nI_ge0, nI_clamp', nI_ne1, nI_ne2, nI_ne3, m1_lt, m1_le, m1_ge, m1_gt, if_false, if_true, Option.bind_some, nm_app]; exact g)]
            exact fin co (by omega)
theorem RE288 (hk : KdIs m N5 a5 K) {N fr co i lv : Nat} {op : List Ent} {b : Nat → Int32} {bad : Int32} (hv : Vec N b (Mx.flat op)) (hN : N ≤ 600) (hi : i < m) (hfr : fr ≤ lv) (hl : ∀ e ∈ op, e.1 < 57 ∧ e.2.1 ≤ 9) :
    Mx.Res m N bad Kf (F_Mo_readExpression_288 q1 q2 q3 q4 q5 q6 a5 (nI fr) (nI co) (nI i) bad (nI lv) (nI (5 * op.length)) N b Kf)
      (if K i = 2 ∨ K i = 3 ∨ K i = 4 then .inr (false, (0, 0, 0, co, i + 1, lv - fr, op))
      else if K i = 13 then (match Mx.mark op with
        | none => .inl i
        | some op' => .inr (false, (0, 0, 0, co, i + 1, lv - fr, op')))
      else .inl i) := by
  have h57 := hk.lt i
  unfold F_Mo_readExpression_288 F_Mo_readExpression_329
  rw [Mo_a5 hk hi, show nI i + 1 = nI (i + 1) from nI_add' i 1, nI_sub' hfr]
  by_cases c2 : K i = 2
  · rw [if_pos (show nI (K i) = 2 by rw [c2]; rfl), if_neg (show ¬ nI (K i) = 13 by rw [c2]; decide), if_pos (Or.inl c2)]
    exact Mx.go0 hv hN rfl
  · rw [if_neg (show ¬ nI (K i) = 2 by simp (disch := omega) only [lit_nI, nI_eq', nI_add', nI_le', nI_lt', nI_nn, nI_ge0, nI_clamp', nI_ne1, nI_ne2, nI_ne3, m1_lt, m1_le, m1_ge, m1_gt, if_false, if_true, Option.bind_some, nm_app]; exact c2)]
    by_cases c3 : K i = 3
    · rw [if_pos (show nI (K i) = 3 by rw [c3]; rfl), if_neg (show ¬ nI (K i) = 13 by rw [c3]; decide), if_pos (Or.inr (Or.inl c3))]
      exact Mx.go0 hv hN rfl
    · rw [if_neg (show ¬ nI (K i) = 3 by simp (disch := omega) only [lit_nI, nI_eq', nI_add', nI_le', nI_lt', nI_nn, nI_ge0, nI_clamp', nI_ne1, nI_ne2, nI_ne3, m1_lt, m1_le, m1_ge, m1_gt, if_false, if_true, Option.bind_some, nm_app]; exact c3)]
      by_cases c4 : K i = 4
      · rw [if_pos (show nI (K i) = 4 by rw [c4]; rfl), if_neg (show ¬ nI (K i) = 13 by rw [c4]; decide), if_pos (Or.inr (Or.inr c4))]
        exact Mx.go0 hv hN rfl
      · rw [if_neg (show ¬ nI (K i) = 4 by simp (disch := omega) only [lit_nI, nI_eq', nI_add', nI_le', nI_lt', nI_nn, nI_ge0, nI_clamp', nI_ne1, nI_ne2, nI_ne3, m1_lt, m1_le, m1_ge, m1_gt, if_false, if_true, Option.bind_some, nm_app]; exact c4), if_neg (show ¬ (K i = 2 ∨ K i = 3 ∨ K i = 4) from fun x => x.elim c2 (fun x => x.elim c3 c4))]
        by_cases c : K i = 13
        · rw [if_pos (show nI (K i) = 13 by rw [c]; rfl), if_pos c]
          have hm := Mo_mark hv hl hN (at0 := nI i) (bad := bad) (q1 := q1) (q2 := q2) (q3 := q3) (q4 := q4) (q5 := nI lv) (q6 := q5) (q7 := q6)
          cases e : Mx.mark op with
          | none =>
            rw [e] at hm
            rw [if_pos (show nI (K i) = 13 by rw [c]; rfl), hm]
            exact Mx.no0 hv hN hi rfl
          | some op' =>
            rw [e] at hm
            obtain ⟨b', e1, e2⟩ := hm
            rw [if_pos (show nI (K i) = 13 by rw [c]; rfl), e1]
            have hlen : op'.length = op.length := by
              have h1 := Mx.mark_len op
              rw [e] at h1
              exact h1
            refine Mx.go0 e2 hN ?_
            rw [hlen]; rfl
        · rw [if_neg (show ¬ nI (K i) = 13 by simp (disch := omega) only [lit_nI, nI_eq', nI_add', nI_le', nI_lt', nI_nn, nI_ge0, nI_clamp', nI_ne1, nI_ne2, nI_ne3, m1_lt, m1_le, m1_ge, m1_gt, if_false, if_true, Option.bind_some, nm_app]; exact c), if_neg c]
          exact Mx.no0 hv hN hi rfl
end Md
end

section
theorem Mx.lift {m N N1 c1 s1 : Nat} {bad : Int32} {Kf : Int32 → Int32 → Int32 → Int32 → Int32 → Int32 → Int32 → Int32 → Nat → (Nat → Int32) → Option ((Int32 × Int32 × Int32 × Int32 × Int32 × Nat × (Nat → Int32)) × Nat × Nat)} {X Y : Option ((Int32 × Int32 × Int32 × Int32 × Int32 × Nat × (Nat → Int32)) × Nat × Nat)} (g : Grow N N1 c1 s1) (hX : ∀ R c2 s2, Y = some (R, c2, s2) → X = some (R, c1 + c2, s1 + s2)) : ∀ o : Sum Nat (Bool × Mx), (∀ s, o ≠ .inr (true, s)) → Mx.Res m N1 bad Kf Y o → Mx.Res m N bad Kf X o
  | .inl j, _, ⟨hj, lv', sz', N', b', c, s, e, h⟩ => ⟨hj, lv', sz', N', b', c1 + c, s1 + s, hX _ _ _ e, ⟨h.vec, g.trans h.grow, h.le⟩⟩
  | .inr (true, s), hn, _ => absurd rfl (hn s)
  | .inr (false, (w, fr, bh, co, i, lv, op)), _, ⟨N', b', c, s, h, hc⟩ => ⟨N', b', c1 + c, s1 + s, ⟨h.vec, g.trans h.grow, h.le⟩, fun R c2 s2 e => by
      rw [Nat.add_assoc, Nat.add_assoc]
      exact hX _ _ _ (hc R c2 s2 e)⟩
section Md
variable {m N5 : Nat} {a5 : Nat → Int32} {K : Nat → Nat}
variable {n2 : Nat} {b2 : Nat → Int32}
variable {q1 q2 q3 q4 q5 q6 : Int32} {q7 : Int32}
variable {Kf : Int32 → Int32 → Int32 → Int32 → Int32 → Int32 → Int32 → Int32 → Nat → (Nat → Int32) → Option ((Int32 × Int32 × Int32 × Int32 × Int32 × Nat × (Nat → Int32)) × Nat × Nat)}
/-- behind a bracket that has opened, t0 tells whether nothing stands in it -/
theorem RE226 (hk : KdIs m N5 a5 K) {N fr co i a lv wh : Nat} {op : List Ent} {b : Nat → Int32} {bad : Int32} (hv : Vec N b (Mx.flat ((wh, 0, 0, co, fr) :: op))) (hN : N ≤ 600) (hi : i < m) (ha : a < m) (hw : K i = wh) (hw3 : wh = 50 ∨ wh = 52 ∨ wh = 2) (t0 : Nat) (ht : t0 = 0 ∨ t0 = 1) (hsz : nI (5 * op.length) + 1 + 1 + 1 + 1 + 1 = nI (5 * (op.length + 1))) :
    Mx.Res m N bad Kf (F_Mo_readExpression_226 q1 q2 q3 q4 q5 q6 q7 N5 a5 (nI i) (nI (5 * op.length)) Kf (nI t0) N b (nI a) bad (nI lv))
      (if t0 = 1 then .inr (false, (0, 0, 0, 0, a, lv, (wh, 0, 0, co, fr) :: op))
      else if wh = 2 ∧ K a = 38 then
        (if K (a + 1) = 54 ∨ K (a + 1) = 51 then .inr (false, (0, 0, 0, 0, a + 1, lv, (wh, 1, 1, co, fr) :: op)) else .inl (a + 1))
      else .inr (false, (1, 0, 0, 0, a, lv, (wh, 0, 0, co, fr) :: op))) := by
  have h57 := hk.lt i
  have hle := hv.le
  rw [Mx.flat_len, List.length_cons] at hle
  have e271 : ∀ (v6 : Int32) (w : Nat) (bb : Nat → Int32) (at1 : Nat) (bd : Int32), F_Mo_readExpression_271 q1 q2 q3 q4 q5 q6 (nI (5 * op.length)) Kf 0 v6 (nI w) N bb (nI at1) bd (nI lv) = Kf (nI w) (nI 0) (nI 0) (nI 0) (nI at1) bd (nI lv) (nI (5 * (op.length + 1))) N bb := by
    intro v6 w bb at1 bd
    unfold F_Mo_readExpression_271
    rw [if_neg (show ¬ (0 : Int32) = 1 by decide), hsz]; rfl
  have e247 : ∀ (bd : Int32), F_Mo_readExpression_247 q1 q2 q3 q4 q5 q6 (nI (5 * op.length)) Kf (nI t0) 0 N b (nI a) bd (nI lv) = Kf (nI (1 - t0)) (nI 0) (nI 0) (nI 0) (nI a) bd (nI lv) (nI (5 * (op.length + 1))) N b := by
    intro bd
    unfold F_Mo_readExpression_247
    rw [if_pos (show (0 : Int32) ≤ 0 by decide)]
    rcases ht with rfl | rfl
    · rw [if_pos (show nI 0 = 0 from rfl), if_pos (show (0 : Int32) = 0 from rfl)]
      exact e271 _ 1 b a bd
    · rw [if_neg (show ¬ nI 1 = 0 by decide)]
      exact e271 _ 0 b a bd
  have e247' : Mx.Res m N bad Kf (F_Mo_readExpression_247 q1 q2 q3 q4 q5 q6 (nI (5 * op.length)) Kf (nI t0) 0 N b (nI a) bad (nI lv)) (.inr (false, (1 - t0, 0, 0, 0, a, lv, (wh, 0, 0, co, fr) :: op))) := by
    rw [e247]
    exact Mx.go0 hv hN rfl
  unfold F_Mo_readExpression_226
  rw [Mo_a5 hk hi, hw]
  by_cases c : wh = 2
  · rw [if_pos (show nI wh = 2 by rw [c]; rfl)]
    rcases ht with rfl | rfl
    · rw [if_pos (show nI 0 = 0 from rfl), hsz, if_neg (show ¬ (0 : Nat) = 1 by decide)]
      subst c
      have hwc := Mo_whole hk (q1 := q1) (q2 := q2) (q3 := q3) (q4 := q4) (q5 := nI lv) (q6 := q5) (q7 := q6) (q8 := q7) hv hN (by omega) ha (bad := bad)
      by_cases d : K a = 38
      · rw [if_pos d, if_pos (show (0 : Nat) ≤ 1 by omega)] at hwc
        obtain ⟨b', v', e'⟩ := hwc
        have ha1 : a + 1 < m := hk.go ha (by omega)
        rw [e', if_pos (show (2 : Nat) = 2 ∧ K a = 38 from ⟨rfl, d⟩)]
        by_cases g : K (a + 1) = 54 ∨ K (a + 1) = 51
        · rw [if_pos g, if_pos g, Option.bind_some]
          dsimp only
          unfold F_Mo_readExpression_247 F_Mo_readExpression_271
          rw [if_pos (show (0 : Int32) ≤ 1 by decide), if_pos (show nI 0 = 0 from rfl), if_neg (show ¬ (1 : Int32) = 0 by decide), if_pos (show (1 : Int32) = 1 from rfl), hsz, show F_Mo_setTop 1 1 q1 q2 q3 q4 (nI (a + 1)) bad (nI lv) q5 q6 (nI (5 * (op.length + 1))) N b' = some () from Mo_setTop (j := 1) hle hN (by omega), Option.bind_some, show Int32.toNatClampNeg (nI (5 * (op.length + 1)) - 5 + 1) = 5 * op.length + 1 from Mo_tix (j := 1) (by omega) (by omega)]
          exact Mx.go0 (Mx.flat_cn v' 1) hN rfl
        · rw [if_neg g, if_neg g, Option.bind_some]
          dsimp only
          unfold F_Mo_readExpression_247
          rw [if_neg (show ¬ (0 : Int32) ≤ -1 by decide)]
          exact Mx.no0 hv hN ha1 rfl
      · rw [if_neg d] at hwc
        rw [hwc, if_neg (show ¬ ((2 : Nat) = 2 ∧ K a = 38) from fun x => d x.2), Option.bind_some]
        exact e247'
    · rw [if_neg (show ¬ nI 1 = 0 by decide), if_pos (show (1 : Nat) = 1 from rfl)]
      exact e247'
  · rw [if_neg (show ¬ nI wh = 2 by rcases hw3 with h | h | h <;> (subst h; first | decide | exact absurd rfl c)), if_neg (show ¬ (wh = 2 ∧ K a = 38) from fun x => c x.1)]
    rcases ht with rfl | rfl
    · rw [if_neg (show ¬ (0 : Nat) = 1 by decide)]
      exact e247'
    · rw [if_pos (show (1 : Nat) = 1 from rfl)]
      exact e247'
theorem RE155 (hk : KdIs m N5 a5 K) {N fr co i a lv : Nat} {op : List Ent} {b : Nat → Int32} {bad : Int32} (hv : Vec N b (Mx.flat op)) (hN : N ≤ 600) (hi : i < m) (ha : a < m) (ha1 : 1 < K a) (hw3 : K i = 50 ∨ K i = 52 ∨ K i = 2) (hlv : lv ≤ 60) (hop : op.length ≤ lv) :
    Mx.Res m N bad Kf (F_Mo_readExpression_155 q1 q2 q3 q4 q5 q6 q7 N5 a5 (nI fr) (nI co) (nI i) bad (nI lv) (nI (5 * op.length)) N b Kf (nI a)) (Mx.opn K fr co lv op (K i) a) := by
  have h57 := hk.lt a
  have h57i := hk.lt i
  have ham := hk.go ha ha1
  unfold F_Mo_readExpression_155 Mx.opn
  rw [Mo_kind hk ha, Option.bind_some, Mo_a5 hk ha, Mo_enter hk ha h57 hlv, if_pos rfl, Mo_a5 hk hi]
  by_cases c : lv = 60
  · rw [if_pos c, if_pos c]
    exact Mx.no0 hv hN ha rfl
  · rw [if_neg c, if_neg c, Option.bind_some]
    dsimp only
    rw [if_neg (show ¬ (1 : Int32) = 0 by decide)]
    obtain ⟨N1, b1, c1, s1, e1, h1⟩ := Mo_push (wh := K i) (fr := fr) (q1 := q1) (q2 := q2) (q3 := q3) (q4 := q4) (q5 := nI (a + 1)) (q6 := bad) (q7 := nI (lv + 1)) (q8 := q5) (q9 := q6) hv hN (by omega)
    have hle := h1.vec.le
    rw [Mx.flat_len, List.length_cons] at hle
    have hsz : nI (5 * op.length) + 1 + 1 + 1 + 1 + 1 = nI (5 * (op.length + 1)) := by
      rw [show (1 : Int32) = nI 1 from rfl, nI_add', nI_add', nI_add', nI_add', nI_add']; congr 1
    have hv3 := Mx.flat_co h1.vec co
    have k226 := fun t0 ht => RE226 hk (q1 := q1) (q2 := q2) (q3 := q3) (q4 := q4) (q5 := q5) (q6 := q6) (q7 := q7) (Kf := Kf) (bad := bad) (lv := lv + 1) hv3 h1.le hi ham rfl hw3 t0 ht hsz
    refine Mx.lift h1.grow (Y := if nI (K i) = 52 then (if nI (K (a + 1)) = 53 then F_Mo_readExpression_226 q1 q2 q3 q4 q5 q6 q7 N5 a5 (nI i) (nI (5 * op.length)) Kf 1 N1 (upd b1 (5 * op.length + 3) (nI co)) (nI (a + 1)) bad (nI (lv + 1)) else F_Mo_readExpression_206 q1 q2 q3 q4 q5 q6 q7 N5 a5 (nI i) (nI (5 * op.length)) Kf (nI (a + 1)) bad (nI (lv + 1)) N1 (upd b1 (5 * op.length + 3) (nI co))) else F_Mo_readExpression_206 q1 q2 q3 q4 q5 q6 q7 N5 a5 (nI i) (nI (5 * op.length)) Kf (nI (a + 1)) bad (nI (lv + 1)) N1 (upd b1 (5 * op.length + 3) (nI co))) ?_ _ ?_ ?_
    · intro R c2 s2 eY
      refine bw_ok e1 ?_
      dsimp only
      rw [hsz, show F_Mo_setTop 3 (nI co) q1 q2 q3 q4 (nI (a + 1)) bad (nI (lv + 1)) q5 q6 (nI (5 * (op.length + 1))) N1 b1 = some () from Mo_setTop (j := 3) hle h1.le (by omega), Option.bind_some, Mo_kind hk ham, Option.bind_some, Mo_a5 hk ham, show Int32.toNatClampNeg (nI (5 * (op.length + 1)) - 5 + 3) = 5 * op.length + 3 from Mo_tix (j := 3) (by have := h1.le; omega) (by omega)]
      exact eY
    · intro s
      by_cases d : (K i = 52 ∧ K (a + 1) = 53) ∨ (K i = 2 ∧ K (a + 1) = 51)
      · rw [if_pos d]; intro h; cases h
      · rw [if_neg d]
        by_cases e : K i = 2 ∧ K (a + 1) = 38
        · rw [if_pos e]
          by_cases f : K (a + 2) = 54 ∨ K (a + 2) = 51
          · rw [if_pos f]; intro h; cases h
          · rw [if_neg f]; intro h; cases h
        · rw [if_neg e]; intro h; cases h
    · have hk1 := hk.lt (a + 1)
      unfold F_Mo_readExpression_206
      rw [Mo_a5 hk hi, Mo_kind hk ham, Option.bind_some, Mo_a5 hk ham]
      have k0 := k226 0 (Or.inl rfl)
      have k1 := k226 1 (Or.inr rfl)
      rw [if_neg (show ¬ (0 : Nat) = 1 by decide)] at k0
      rw [if_pos (show (1 : Nat) = 1 from rfl)] at k1
      rcases hw3 with h | h | h
      · rw [h] at k0 k1
        rw [h, if_neg (show ¬ nI 50 = 52 by decide), if_neg (show ¬ nI 50 = 2 by decide), if_neg (show ¬ (((50 : Nat) = 52 ∧ K (a + 1) = 53) ∨ ((50 : Nat) = 2 ∧ K (a + 1) = 51)) by omega), if_neg (show ¬ ((50 : Nat) = 2 ∧ K (a + 1) = 38) by omega)]
        rw [if_neg (show ¬ ((50 : Nat) = 2 ∧ K (a + 1) = 38) by omega)] at k0
        exact k0
      · rw [h] at k0 k1
        rw [h, if_pos (show nI 52 = 52 from rfl), if_neg (show ¬ nI 52 = 2 by decide), if_neg (show ¬ ((52 : Nat) = 2 ∧ K (a + 1) = 38) by omega)]
        rw [if_neg (show ¬ ((52 : Nat) = 2 ∧ K (a + 1) = 38) by omega)] at k0
        by_cases d : K (a + 1) = 53
        · rw [if_pos (show nI (K (a + 1)) = 53 by rw [d]; rfl), if_pos (Or.inl ⟨rfl, d⟩)]
          exact k1
        · rw [if_neg (show ¬ nI (K (a + 1)) = 53 by simp (disch := omega) only [lit_nI, nI_eq', nI_add', nI_le', nI_lt', nI_nn, nI_ge0, nI_clamp', nI_ne1, nI_ne2, nI_ne3, m1_lt, m1_le, m1_ge, m1_gt, if_false, if_true, Option.bind_some, nm_app]; exact d), if_neg (show ¬ (((52 : Nat) = 52 ∧ K (a + 1) = 53) ∨ ((52 : Nat) = 2 ∧ K (a + 1) = 51)) by omega)]
          exact k0
      · rw [h] at k0 k1
        rw [h, if_neg (show ¬ nI 2 = 52 by decide), if_pos (show nI 2 = 2 from rfl)]
        by_cases d : K (a + 1) = 51
        · rw [if_pos (show nI (K (a + 1)) = 51 by rw [d]; rfl), if_pos (Or.inr ⟨rfl, d⟩)]
          exact k1
        · rw [if_neg (show ¬ nI (K (a + 1)) = 51 by simp (disch := omega) only [lit_nI, nI_eq', nI_add', nI_le', nI_lt', nI_nn, nI_ge0, nI_clamp', nI_ne1, nI_ne2, nI_ne3, m1_lt, m1_le, m1_ge, m1_gt, if_false, if_true, Option.bind_some, nm_app]; exact d), if_neg (show ¬ (((2 : Nat) = 52 ∧ K (a + 1) = 53) ∨ ((2 : Nat) = 2 ∧ K (a + 1) = 51)) by omega)]
          exact k0
end Md
end

section
/-- what holds of a turn's start -/
abbrev Mx.MI (m : Nat) (K : Nat → Nat) (w fr bh co i lv : Nat) (op : List Ent) : Prop := (i < m) ∧ (w ≤ 1) ∧ (w = 0 → 0 < i) ∧ (bh ≤ 2) ∧ (co ≤ 2) ∧ (lv ≤ 60) ∧ (op.length + fr + (op.map (fun e => e.2.2.2.2)).sum ≤ lv) ∧ (∀ e ∈ op, (e.1 = 50 ∨ e.1 = 52 ∨ e.1 = 2) ∧ e.2.1 ≤ 7 ∧ e.2.2.1 ≤ 1 ∧ e.2.2.2.1 ≤ 2)
theorem Mx.MI.at' {m : Nat} {K : Nat → Nat} {w fr bh co i lv : Nat} {op : List Ent} (h : Mx.MI m K w fr bh co i lv op) : i < m := h.1
theorem Mx.MI.wn {m : Nat} {K : Nat → Nat} {w fr bh co i lv : Nat} {op : List Ent} (h : Mx.MI m K w fr bh co i lv op) : w ≤ 1 := h.2.1
theorem Mx.MI.pos {m : Nat} {K : Nat → Nat} {w fr bh co i lv : Nat} {op : List Ent} (h : Mx.MI m K w fr bh co i lv op) : w = 0 → 0 < i := h.2.2.1
theorem Mx.MI.bh' {m : Nat} {K : Nat → Nat} {w fr bh co i lv : Nat} {op : List Ent} (h : Mx.MI m K w fr bh co i lv op) : bh ≤ 2 := h.2.2.2.1
theorem Mx.MI.co' {m : Nat} {K : Nat → Nat} {w fr bh co i lv : Nat} {op : List Ent} (h : Mx.MI m K w fr bh co i lv op) : co ≤ 2 := h.2.2.2.2.1
theorem Mx.MI.lv' {m : Nat} {K : Nat → Nat} {w fr bh co i lv : Nat} {op : List Ent} (h : Mx.MI m K w fr bh co i lv op) : lv ≤ 60 := h.2.2.2.2.2.1
theorem Mx.MI.sum {m : Nat} {K : Nat → Nat} {w fr bh co i lv : Nat} {op : List Ent} (h : Mx.MI m K w fr bh co i lv op) : op.length + fr + (op.map (fun e => e.2.2.2.2)).sum ≤ lv := h.2.2.2.2.2.2.1
theorem Mx.MI.ent {m : Nat} {K : Nat → Nat} {w fr bh co i lv : Nat} {op : List Ent} (h : Mx.MI m K w fr bh co i lv op) : ∀ e ∈ op, (e.1 = 50 ∨ e.1 = 52 ∨ e.1 = 2) ∧ e.2.1 ≤ 7 ∧ e.2.2.1 ≤ 1 ∧ e.2.2.2.1 ≤ 2 := h.2.2.2.2.2.2.2
theorem Mx.sum_mem : ∀ (op : List Ent) (e : Ent), e ∈ op → e.2.2.2.2 ≤ (op.map (fun e => e.2.2.2.2)).sum
  | [], e, h => absurd h List.not_mem_nil
  | a :: r, e, h => by
    rw [List.map_cons, List.sum_cons]
    rcases List.mem_cons.mp h with h1 | h1
    · rw [h1]; omega
    · have := Mx.sum_mem r e h1; omega
section Md
variable {m N5 : Nat} {a5 : Nat → Int32} {K : Nat → Nat}
variable {n2 : Nat} {b2 : Nat → Int32}
variable {q1 q2 q3 q4 q5 q6 : Int32} {q7 : Int32}
variable {Kf : Int32 → Int32 → Int32 → Int32 → Int32 → Int32 → Int32 → Int32 → Nat → (Nat → Int32) → Option ((Int32 × Int32 × Int32 × Int32 × Int32 × Nat × (Nat → Int32)) × Nat × Nat)}
theorem RE97 (hk : KdIs m N5 a5 K) {N fr bh co i lv : Nat} {op : List Ent} {b : Nat → Int32} {bad : Int32} (hI : Mx.MI m K 1 fr bh co i lv op) (hv : Vec N b (Mx.flat op)) (hN : N ≤ 600) (h1 : ¬ (K i = 40 ∧ bh = 1)) (h2 : ¬ ((K i = 40 ∨ K i = 39 ∨ K i = 49) ∧ bh = 0)) :
    Mx.Res m N bad Kf (F_Mo_readExpression_97 q1 q2 q3 q4 q5 q6 q7 N5 a5 (nI fr) (nI co) (nI i) bad (nI lv) (nI (5 * op.length)) N b Kf) (Mx.wnt K fr bh co i lv op) := by
  have h57 := hk.lt i
  have hi := hI.at'
  have hs := hI.sum
  have r288 := RE288 hk (q1 := q1) (q2 := q2) (q3 := q3) (q4 := q4) (q5 := q5) (q6 := q6) (Kf := Kf) (bad := bad) (fr := fr) (co := co) (lv := lv) hv hN hi (by omega) (fun e he => by have := hI.ent e he; omega)
  have r155 := fun a ha ha1 hw => RE155 hk (q1 := q1) (q2 := q2) (q3 := q3) (q4 := q4) (q5 := q5) (q6 := q6) (q7 := q7) (Kf := Kf) (bad := bad) (fr := fr) (co := co) (lv := lv) (i := i) (a := a) hv hN hi ha ha1 hw hI.lv' (by omega)
  unfold F_Mo_readExpression_97 F_Mo_readExpression_135 Mx.wnt
  rw [if_neg h1, if_neg h2, Mo_a5 hk hi]
  by_cases c : K i = 50
  · rw [if_pos (show nI (K i) = 50 by rw [c]; rfl), if_neg (show ¬ nI (K i) = 2 by rw [c]; decide), if_pos (Or.inl c)]
    exact r155 i hi (by omega) (Or.inl c)
  · rw [if_neg (show ¬ nI (K i) = 50 by simp (disch := omega) only [lit_nI, nI_eq', nI_add', nI_le', nI_lt', nI_nn, nI_ge0, nI_clamp', nI_ne1, nI_ne2, nI_ne3, m1_lt, m1_le, m1_ge, m1_gt, if_false, if_true, Option.bind_some, nm_app]; exact c)]
    by_cases d : K i = 52
    · rw [if_pos (show nI (K i) = 52 by rw [d]; rfl), if_neg (show ¬ nI (K i) = 2 by rw [d]; decide), if_pos (Or.inr d)]
      exact r155 i hi (by omega) (Or.inr (Or.inl d))
    · rw [if_neg (show ¬ nI (K i) = 52 by simp (disch := omega) only [lit_nI, nI_eq', nI_add', nI_le', nI_lt', nI_nn, nI_ge0, nI_clamp', nI_ne1, nI_ne2, nI_ne3, m1_lt, m1_le, m1_ge, m1_gt, if_false, if_true, Option.bind_some, nm_app]; exact d), if_neg (show ¬ (K i = 50 ∨ K i = 52) from fun x => x.elim c d)]
      by_cases e : K i = 2
      · have hi1 := hk.go hi (by omega)
        have h571 := hk.lt (i + 1)
        rw [if_pos (show nI (K i) = 2 by rw [e]; rfl), show nI i + 1 = nI (i + 1) from nI_add' i 1, Mo_at hk hi1, Option.bind_some, Mo_a5 hk hi1]
        by_cases f : K (i + 1) = 50
        · rw [if_pos (show nI (K (i + 1)) = 50 by rw [f]; rfl), if_pos (show K i = 2 ∧ K (i + 1) = 50 from ⟨e, f⟩), if_pos (show nI (K i) = 2 by rw [e]; rfl)]
          have := r155 (i + 1) hi1 (by omega) (Or.inr (Or.inr e))
          rw [e] at this
          exact this
        · rw [if_neg (show ¬ nI (K (i + 1)) = 50 by simp (disch := omega) only [lit_nI, nI_eq', nI_add', nI_le', nI_lt', nI_nn, nI_ge0, nI_clamp', nI_ne1, nI_ne2, nI_ne3, m1_lt, m1_le, m1_ge, m1_gt, if_false, if_true, Option.bind_some, nm_app]; exact f), if_neg (show ¬ (K i = 2 ∧ K (i + 1) = 50) from fun x => f x.2)]
          exact r288
      · rw [if_neg (show ¬ nI (K i) = 2 by simp (disch := omega) only [lit_nI, nI_eq', nI_add', nI_le', nI_lt', nI_nn, nI_ge0, nI_clamp', nI_ne1, nI_ne2, nI_ne3, m1_lt, m1_le, m1_ge, m1_gt, if_false, if_true, Option.bind_some, nm_app]; exact e), if_neg (show ¬ (K i = 2 ∧ K (i + 1) = 50) from fun x => e x.1)]
        exact r288
theorem RE55 (hk : KdIs m N5 a5 K) {N fr bh co i lv : Nat} {op : List Ent} {b : Nat → Int32} {bad : Int32} (hI : Mx.MI m K 1 fr bh co i lv op) (hv : Vec N b (Mx.flat op)) (hN : N ≤ 600) (h1 : ¬ (K i = 40 ∧ bh = 1)) :
    Mx.Res m N bad Kf (F_Mo_readExpression_55 q1 q2 q3 q4 q5 q6 q7 N5 a5 1 (nI fr) (nI bh) (nI co) (nI i) bad (nI lv) (nI (5 * op.length)) N b Kf) (Mx.wnt K fr bh co i lv op) := by
  have h57 := hk.lt i
  have hi := hI.at'
  have hb := hI.bh'
  have r97 := RE97 hk (q1 := q1) (q2 := q2) (q3 := q3) (q4 := q4) (q5 := q5) (q6 := q6) (q7 := q7) (Kf := Kf) (bad := bad) hI hv hN h1
  have r76 : (K i = 40 ∨ K i = 39 ∨ K i = 49) → Mx.Res m N bad Kf (F_Mo_readExpression_76 q1 q2 q3 q4 q5 q6 q7 N5 a5 1 (nI fr) (nI bh) (nI co) (nI i) bad (nI lv) (nI (5 * op.length)) N b Kf) (Mx.wnt K fr bh co i lv op) := by
    intro ho
    unfold F_Mo_readExpression_76
    by_cases c : bh = 0
    · subst c
      rw [if_pos (show nI 0 = 0 from rfl), Mo_a5 hk hi, Mo_enter hk hi h57 hI.lv', if_pos rfl]
      unfold Mx.wnt
      rw [if_neg h1, if_pos (show (K i = 40 ∨ K i = 39 ∨ K i = 49) ∧ (0 : Nat) = 0 from ⟨ho, rfl⟩)]
      by_cases d : lv = 60
      · rw [if_pos d, if_pos d]
        exact Mx.no0 hv hN hi rfl
      · rw [if_neg d, if_neg d, Option.bind_some]
        dsimp only
        rw [if_neg (show ¬ (1 : Int32) = 0 by decide), show nI fr + 1 = nI (fr + 1) from nI_add' fr 1]
        exact Mx.go0 hv hN rfl
    · rw [if_neg (show ¬ nI bh = 0 by simp (disch := omega) only [lit_nI, nI_eq', nI_add', nI_le', nI_lt', nI_nn, nI_ge0, nI_clamp', nI_ne1, nI_ne2, nI_ne3, m1_lt, m1_le, m1_ge, m1_gt, if_false, if_true, Option.bind_some, nm_app]; exact c)]
      exact r97 (fun x => c x.2)
  unfold F_Mo_readExpression_55
  rw [Mo_a5 hk hi]
  by_cases c : K i = 40
  · rw [if_pos (show nI (K i) = 40 by rw [c]; rfl)]; exact r76 (Or.inl c)
  · rw [if_neg (show ¬ nI (K i) = 40 by simp (disch := omega) only [lit_nI, nI_eq', nI_add', nI_le', nI_lt', nI_nn, nI_ge0, nI_clamp', nI_ne1, nI_ne2, nI_ne3, m1_lt, m1_le, m1_ge, m1_gt, if_false, if_true, Option.bind_some, nm_app]; exact c)]
    by_cases d : K i = 39
    · rw [if_pos (show nI (K i) = 39 by rw [d]; rfl)]; exact r76 (Or.inr (Or.inl d))
    · rw [if_neg (show ¬ nI (K i) = 39 by simp (disch := omega) only [lit_nI, nI_eq', nI_add', nI_le', nI_lt', nI_nn, nI_ge0, nI_clamp', nI_ne1, nI_ne2, nI_ne3, m1_lt, m1_le, m1_ge, m1_gt, if_false, if_true, Option.bind_some, nm_app]; exact d)]
      by_cases e : K i = 49
      · rw [if_pos (show nI (K i) = 49 by rw [e]; rfl)]; exact r76 (Or.inr (Or.inr e))
      · rw [if_neg (show ¬ nI (K i) = 49 by simp (disch := omega) only [lit_nI, nI_eq', nI_add', nI_le', nI_lt', nI_nn, nI_ge0, nI_clamp', nI_ne1, nI_ne2, nI_ne3, m1_lt, m1_le, m1_ge, m1_gt, if_false, if_true, Option.bind_some, nm_app]; exact e)]
        exact r97 (fun x => x.1.elim c (fun x => x.elim d e))
/-- one turn of the reference's loop -/
theorem RE17 (hk : KdIs m N5 a5 K) (hr : RkIs n2 b2) {N w fr bh co i lv fu : Nat} {op : List Ent} {b : Nat → Int32} {bad : Int32} (hI : Mx.MI m K w fr bh co i lv op) (hv : Vec N b (Mx.flat op)) (hN : N ≤ 600) :
    Mx.Res m N bad (F_Mo_readExpression_17 q1 q2 q3 q4 q5 q6 q7 N5 a5 n2 b2 fu) (F_Mo_readExpression_17 q1 q2 q3 q4 q5 q6 q7 N5 a5 n2 b2 (fu + 1) (nI w) (nI fr) (nI bh) (nI co) (nI i) bad (nI lv) (nI (5 * op.length)) N b) (Mx.step K (w, fr, bh, co, i, lv, op)) := by
  have h57 := hk.lt i
  have hi := hI.at'
  have hb := hI.bh'
  have hs := hI.sum
  rw [F_Mo_readExpression_17, Mo_kind hk hi, Option.bind_some, Mx.step, Mo_a5 hk hi]
  have hw := hI.wn
  by_cases c : w = 0
  · subst c
    have h0 := hI.pos rfl
    have r391 := RE391 hk hr (q1 := q1) (q2 := q2) (q3 := q3) (q4 := q4) (q5 := q5) (q6 := q6) (q7 := q7) (Kf := F_Mo_readExpression_17 q1 q2 q3 q4 q5 q6 q7 N5 a5 n2 b2 fu) (bad := bad) (fr := fr) (bh := bh) (lv := lv) hv hN hi h0 hI.co' (fun e he => by
      have h1 := hI.ent e he
      have h2 := Mx.sum_mem op e he
      have h3 := List.length_pos_of_mem he
      exact ⟨h1.1, h1.2.1, h1.2.2.1, by omega⟩)
    rw [if_pos (show nI 0 = 0 from rfl), if_pos (show (0 : Nat) = 0 from rfl), Mo_colonB hk hi h0, Option.bind_some, show nI i + 1 = nI (i + 1) from nI_add' i 1]
    by_cases d : K i = 48
    · rw [if_pos (show nI (K i) = 48 by rw [d]; rfl)]
      by_cases e : K (i - 1) = 38
      · rw [if_pos e, if_neg (show ¬ (1 : Int32) = 0 by decide), if_neg (show ¬ (K i = 48 ∧ K (i - 1) ≠ 38) from fun x => x.2 e)]
        exact r391
      · rw [if_neg e, if_pos (show (0 : Int32) = 0 from rfl), if_pos (show K i = 48 ∧ K (i - 1) ≠ 38 from ⟨d, e⟩)]
        exact Mx.go0 hv hN rfl
    · rw [if_neg (show ¬ nI (K i) = 48 by simp (disch := omega) only [lit_nI, nI_eq', nI_add', nI_le', nI_lt', nI_nn, nI_ge0, nI_clamp', nI_ne1, nI_ne2, nI_ne3, m1_lt, m1_le, m1_ge, m1_gt, if_false, if_true, Option.bind_some, nm_app]; exact d), if_neg (show ¬ (K i = 48 ∧ K (i - 1) ≠ 38) from fun x => d x.1)]
      exact r391
  · have hw1 : w = 1 := by omega
    subst hw1
    rw [if_neg (show ¬ nI 1 = 0 by decide), if_neg c]
    have r55 := RE55 hk (q1 := q1) (q2 := q2) (q3 := q3) (q4 := q4) (q5 := q5) (q6 := q6) (q7 := q7) (Kf := F_Mo_readExpression_17 q1 q2 q3 q4 q5 q6 q7 N5 a5 n2 b2 fu) (bad := bad) hI hv hN
    by_cases d : K i = 40
    · rw [if_pos (show nI (K i) = 40 by rw [d]; rfl)]
      by_cases e : bh = 1
      · subst e
        rw [if_pos (show nI 1 = 1 from rfl)]
        unfold Mx.wnt
        rw [if_pos (show K i = 40 ∧ (1 : Nat) = 1 from ⟨d, rfl⟩), show nI i + 1 = nI (i + 1) from nI_add' i 1]
        exact Mx.go0 hv hN rfl
      · rw [if_neg (show ¬ nI bh = 1 by simp (disch := omega) only [lit_nI, nI_eq', nI_add', nI_le', nI_lt', nI_nn, nI_ge0, nI_clamp', nI_ne1, nI_ne2, nI_ne3, m1_lt, m1_le, m1_ge, m1_gt, if_false, if_true, Option.bind_some, nm_app]; exact e)]
        exact r55 (fun x => e x.2)
    · rw [if_neg (show ¬ nI (K i) = 40 by simp (disch := omega) only [lit_nI, nI_eq', nI_add', nI_le', nI_lt', nI_nn, nI_ge0, nI_clamp', nI_ne1, nI_ne2, nI_ne3, m1_lt, m1_le, m1_ge, m1_gt, if_false, if_true, Option.bind_some, nm_app]; exact d)]
      exact r55 (fun x => d x.1)
end Md
end

section
/-- MI of a whole state -/
def Mx.MS (m : Nat) (K : Nat → Nat) : Mx → Prop
  | (w, fr, bh, co, i, lv, op) => Mx.MI m K w fr bh co i lv op
def Mx.ix : Mx → Nat
  | (_, _, _, _, i, _, _) => i
/-- what a turn that goes on leaves -/
def Mx.Nxt (m : Nat) (K : Nat → Nat) (i : Nat) : Sum Nat (Bool × Mx) → Prop
  | .inl j => True
  | .inr (true, _) => True
  | .inr (false, s) => Mx.MS m K s ∧ i < s.ix
theorem Mx.nx_ite {m : Nat} {K : Nat → Nat} {i : Nat} {p : Prop} [Decidable p] {x y : Sum Nat (Bool × Mx)} (h1 : p → Mx.Nxt m K i x) (h2 : ¬ p → Mx.Nxt m K i y) : Mx.Nxt m K i (if p then x else y) := by
  by_cases c : p
  · rw [if_pos c]; exact h1 c
  · rw [if_neg c]; exact h2 c
theorem Mx.mark_ok : ∀ (op : List Ent), (∀ e ∈ op, (e.1 = 50 ∨ e.1 = 52 ∨ e.1 = 2) ∧ e.2.1 ≤ 7 ∧ e.2.2.1 ≤ 1 ∧ e.2.2.2.1 ≤ 2) → match Mx.mark op with | none => True | some op' => (∀ e ∈ op', (e.1 = 50 ∨ e.1 = 52 ∨ e.1 = 2) ∧ e.2.1 ≤ 7 ∧ e.2.2.1 ≤ 1 ∧ e.2.2.2.1 ≤ 2) ∧ (op'.map (fun e => e.2.2.2.2)).sum = (op.map (fun e => e.2.2.2.2)).sum
  | [], _ => trivial
  | (wh, cn, li, co, fr) :: r, h => by
    have ih := Mx.mark_ok r (fun e he => h e (List.mem_cons_of_mem _ he))
    have h0 := h (wh, cn, li, co, fr) List.mem_cons_self
    rw [Mx.mark]
    by_cases c : wh = 2
    · rw [if_pos c]
      by_cases d : cn ≤ 1
      · rw [if_pos d]
        refine ⟨fun e he => ?_, rfl⟩
        rcases List.mem_cons.mp he with h1 | h1
        · rw [h1]; exact ⟨h0.1, h0.2.1, Nat.le_refl 1, h0.2.2.2⟩
        · exact h e (List.mem_cons_of_mem _ h1)
      · rw [if_neg d]; trivial
    · rw [if_neg c]
      cases e : Mx.mark r with
      | none => trivial
      | some op' =>
        rw [e] at ih
        refine ⟨fun e2 he => ?_, ?_⟩
        · rcases List.mem_cons.mp he with h1 | h1
          · rw [h1]; exact h0
          · exact ih.1 e2 h1
        · show fr + (op'.map (fun e => e.2.2.2.2)).sum = fr + (r.map (fun e => e.2.2.2.2)).sum
          rw [ih.2]
section Md
variable {m N5 : Nat} {a5 : Nat → Int32} {K : Nat → Nat}
theorem Mx.nx_opn (hk : KdIs m N5 a5 K) {fr co i lv a wh : Nat} {op : List Ent} (ha : a < m) (ha1 : 1 < K a) (hia : i ≤ a) (hw : wh = 50 ∨ wh = 52 ∨ wh = 2) (hlv : lv ≤ 60) (hco : co ≤ 2) (hs : op.length + fr + (op.map (fun e => e.2.2.2.2)).sum ≤ lv) (he : ∀ e ∈ op, (e.1 = 50 ∨ e.1 = 52 ∨ e.1 = 2) ∧ e.2.1 ≤ 7 ∧ e.2.2.1 ≤ 1 ∧ e.2.2.2.1 ≤ 2) : Mx.Nxt m K i (Mx.opn K fr co lv op wh a) := by
  have h1 := hk.go ha ha1
  have hm : ∀ cn li, cn ≤ 7 → li ≤ 1 → ∀ e ∈ ((wh, cn, li, co, fr) : Ent) :: op, (e.1 = 50 ∨ e.1 = 52 ∨ e.1 = 2) ∧ e.2.1 ≤ 7 ∧ e.2.2.1 ≤ 1 ∧ e.2.2.2.1 ≤ 2 := by
    intro cn li h1 h2 e h3
    rcases List.mem_cons.mp h3 with h4 | h4
    · rw [h4]; exact ⟨hw, h1, h2, hco⟩
    · exact he e h4
  have hsum : ∀ cn li, (((wh, cn, li, co, fr) : Ent) :: op).length + 0 + ((((wh, cn, li, co, fr) : Ent) :: op).map (fun e => e.2.2.2.2)).sum ≤ lv + 1 := by
    intro cn li
    show op.length + 1 + 0 + (fr + (op.map (fun e => e.2.2.2.2)).sum) ≤ lv + 1
    omega
  unfold Mx.opn
  refine Mx.nx_ite (fun _ => trivial) fun c => Mx.nx_ite (fun _ => ?_) fun _ => Mx.nx_ite (fun d => Mx.nx_ite (fun f => ?_) fun _ => trivial) fun _ => ?_
  · exact ⟨⟨h1, by omega, fun _ => by omega, by omega, by omega, by omega, hsum 0 0, hm 0 0 (by omega) (by omega)⟩, by show i < a + 1; omega⟩
  · have h2 := hk.go h1 (by omega)
    exact ⟨⟨h2, by omega, fun _ => by omega, by omega, by omega, by omega, hsum 1 1, hm 1 1 (by omega) (by omega)⟩, by show i < a + 2; omega⟩
  · exact ⟨⟨h1, by omega, fun _ => by omega, by omega, by omega, by omega, hsum 0 0, hm 0 0 (by omega) (by omega)⟩, by show i < a + 1; omega⟩
theorem Mx.nx_wnt (hk : KdIs m N5 a5 K) {fr bh co i lv : Nat} {op : List Ent} (hI : Mx.MI m K 1 fr bh co i lv op) : Mx.Nxt m K i (Mx.wnt K fr bh co i lv op) := by
  have hi := hI.at'; have hs := hI.sum; have hlv := hI.lv'; have hco := hI.co'; have hbh := hI.bh'; have he := hI.ent
  unfold Mx.wnt
  refine Mx.nx_ite (fun c => ?_) fun _ => Mx.nx_ite (fun c => Mx.nx_ite (fun _ => trivial) fun d => ?_) fun _ => Mx.nx_ite (fun c => ?_) fun _ => Mx.nx_ite (fun c => ?_) fun _ => Mx.nx_ite (fun c => ?_) fun _ => Mx.nx_ite (fun c => ?_) fun _ => trivial
  · have := hk.go hi (by omega)
    exact ⟨⟨this, by omega, fun _ => by omega, by omega, by omega, by omega, hs, he⟩, by show i < i + 1; omega⟩
  · have := hk.go hi (by omega)
    exact ⟨⟨this, by omega, fun _ => by omega, by omega, by omega, by omega, by omega, he⟩, by show i < i + 1; omega⟩
  · exact Mx.nx_opn hk hi (by omega) (by omega) (c.elim Or.inl (fun x => Or.inr (Or.inl x))) hlv hco hs he
  · exact Mx.nx_opn hk (hk.go hi (by omega)) (by omega) (by omega) (Or.inr (Or.inr rfl)) hlv hco hs he
  · have := hk.go hi (by omega)
    exact ⟨⟨this, by omega, fun _ => by omega, by omega, by omega, by omega, by omega, he⟩, by show i < i + 1; omega⟩
  · have := hk.go hi (by omega)
    have hm := Mx.mark_ok op he
    have hl := Mx.mark_len op
    cases e : Mx.mark op with
    | none => trivial
    | some op' =>
      rw [e] at hm hl
      have hl : op'.length = op.length := hl
      have hm2 := hm.2
      exact ⟨⟨this, by omega, fun _ => by omega, by omega, by omega, by omega, by omega, hm.1⟩, by show i < i + 1; omega⟩
theorem Mx.nx_inB (hk : KdIs m N5 a5 K) {fr bh i lv : Nat} {op : List Ent} (hi : i < m) (h0 : 0 < i) (hb : bh ≤ 2) (hlv : lv ≤ 60) (hs : op.length + fr + (op.map (fun e => e.2.2.2.2)).sum ≤ lv) (he : ∀ e ∈ op, (e.1 = 50 ∨ e.1 = 52 ∨ e.1 = 2) ∧ e.2.1 ≤ 7 ∧ e.2.2.1 ≤ 1 ∧ e.2.2.2.1 ≤ 2) : Mx.Nxt m K i (Mx.inB K fr bh i lv op) := by
  match op, hs, he with
  | [], _, _ => exact trivial
  | (wh, cn, li, co1, fr1) :: r, hs, he =>
    have hs : r.length + 1 + fr + (fr1 + (r.map (fun e => e.2.2.2.2)).sum) ≤ lv := hs
    obtain ⟨hw, hc7, hli, hco⟩ := he (wh, cn, li, co1, fr1) List.mem_cons_self
    have hc7 : cn ≤ 7 := hc7
    have hr : ∀ e ∈ r, (e.1 = 50 ∨ e.1 = 52 ∨ e.1 = 2) ∧ e.2.1 ≤ 7 ∧ e.2.2.1 ≤ 1 ∧ e.2.2.2.1 ≤ 2 := fun e h => he e (List.mem_cons_of_mem _ h)
    have pop : 1 < K i → Mx.Nxt m K i (.inr (false, (0, 0, bh, co1, i + 1, lv - fr1 - 1, r))) := by
      intro h
      have := hk.go hi h
      exact ⟨⟨this, by omega, fun _ => by omega, hb, hco, by omega, by omega, hr⟩, by show i < i + 1; omega⟩
    have nw : ∀ (w j n l2 : Nat), w ≤ 1 → i < j → j < m → n ≤ 7 → l2 ≤ 1 → Mx.Nxt m K i (.inr (false, (w, fr, 0, 0, j, lv, (wh, n, l2, co1, fr1) :: r))) := by
      intro w j n l2 h1 h2 h3 h4 h5
      refine ⟨⟨h3, h1, fun _ => by omega, by omega, by omega, hlv, hs, fun e h => ?_⟩, h2⟩
      rcases List.mem_cons.mp h with h6 | h6
      · rw [h6]; exact ⟨hw, h4, h5, hco⟩
      · exact hr e h6
    have hn : (if K (i - 1) = 38 then cn else cn + 1) ≠ 8 → (if K (i - 1) = 38 then cn else cn + 1) ≤ 7 := by
      by_cases c : K (i - 1) = 38
      · rw [if_pos c]; omega
      · rw [if_neg c]; omega
    rw [Mx.inB]
    refine Mx.nx_ite (fun _ => Mx.nx_ite (fun c => pop (by omega)) fun _ => trivial) fun _ => Mx.nx_ite (fun _ => Mx.nx_ite (fun c => pop (by omega)) fun _ => Mx.nx_ite (fun c => ?_) fun _ => trivial) fun _ => Mx.nx_ite (fun c => pop (by omega)) fun _ => Mx.nx_ite (fun c => Mx.nx_ite (fun d => Mx.nx_ite (fun e => Mx.nx_ite (fun f => ?_) fun _ => trivial) fun _ => trivial) fun d => ?_) fun _ => trivial
    · exact nw 1 (i + 1) cn li (by omega) (by omega) (hk.go hi (by omega)) hc7 hli
    · have h1 := hk.go hi (by omega)
      have h2 := hk.go h1 (by omega)
      exact nw 0 (i + 2) _ 1 (by omega) (by omega) h2 (by omega) (by omega)
    · have h1 := hk.go hi (by omega)
      exact nw 1 (i + 1) _ li (by omega) (by omega) h1 (hn c.2.1) hli
theorem Mx.nx_step (hk : KdIs m N5 a5 K) {w fr bh co i lv : Nat} {op : List Ent} (hI : Mx.MI m K w fr bh co i lv op) : Mx.Nxt m K i (Mx.step K (w, fr, bh, co, i, lv, op)) := by
  have hi := hI.at'; have hs := hI.sum; have hlv := hI.lv'; have hco := hI.co'; have hbh := hI.bh'; have he := hI.ent; have hw := hI.wn
  rw [Mx.step]
  refine Mx.nx_ite (fun c => Mx.nx_ite (fun d => ?_) fun _ => Mx.nx_ite (fun d => Mx.nx_ite (fun e => ?_) fun _ => trivial) fun _ => ?_) fun c => ?_
  · have := hk.go hi (by omega)
    exact ⟨⟨this, by omega, fun _ => by omega, hbh, hco, hlv, hs, he⟩, by show i < i + 1; omega⟩
  · have hr : 1 < K i := by
      by_cases c : K i < 30
      · have := d.1
        unfold rkM at this
        rw [if_pos c] at this
        omega
      · omega
    have := hk.go hi hr
    refine ⟨⟨this, by omega, fun _ => by omega, ?_, e, hlv, hs, he⟩, by show i < i + 1; omega⟩
    by_cases c : rkM (K i) = 8
    · rw [if_pos c]; omega
    · rw [if_neg c]; omega
  · exact Mx.nx_inB hk hi (hI.pos c) hbh hlv hs he
  · have : w = 1 := by omega
    subst this
    exact Mx.nx_wnt hk hI
end Md
/-- the whole reading of an expression: the place where it fails, or the place behind it and the levels -/
def Mx.run (K : Nat → Nat) : Nat → Mx → Sum Nat (Nat × Nat)
  | 0, _ => .inl 0
  | fu + 1, s => match Mx.step K s with
    | .inl j => .inl j
    | .inr (true, (_, _, _, _, i, lv, _)) => .inr (i, lv)
    | .inr (false, s') => Mx.run K fu s'
/-- a turn that ends the expression changes neither place nor levels -/
def Mx.Fn (i lv : Nat) : Sum Nat (Bool × Mx) → Prop
  | .inl _ => True
  | .inr (false, _) => True
  | .inr (true, (_, _, _, _, i', lv', _)) => i' = i ∧ lv' = lv
theorem Mx.fn_ite {i lv : Nat} {p : Prop} [Decidable p] {x y : Sum Nat (Bool × Mx)} (h1 : p → Mx.Fn i lv x) (h2 : ¬ p → Mx.Fn i lv y) : Mx.Fn i lv (if p then x else y) := by
  by_cases c : p
  · rw [if_pos c]; exact h1 c
  · rw [if_neg c]; exact h2 c
theorem Mx.fn_opn {K : Nat → Nat} {fr co lv c a i l : Nat} {op : List Ent} : Mx.Fn i l (Mx.opn K fr co lv op c a) :=
  Mx.fn_ite (fun _ => trivial) fun _ => Mx.fn_ite (fun _ => trivial) fun _ => Mx.fn_ite (fun _ => Mx.fn_ite (fun _ => trivial) fun _ => trivial) fun _ => trivial
theorem Mx.fn_wnt {K : Nat → Nat} {fr bh co lv i : Nat} {op : List Ent} : Mx.Fn i lv (Mx.wnt K fr bh co i lv op) := by
  unfold Mx.wnt
  refine Mx.fn_ite (fun _ => trivial) fun _ => Mx.fn_ite (fun _ => Mx.fn_ite (fun _ => trivial) fun _ => trivial) fun _ => Mx.fn_ite (fun _ => Mx.fn_opn) fun _ => Mx.fn_ite (fun _ => Mx.fn_opn) fun _ => Mx.fn_ite (fun _ => trivial) fun _ => Mx.fn_ite (fun _ => ?_) fun _ => trivial
  cases Mx.mark op <;> trivial
theorem Mx.fn_inB {K : Nat → Nat} {fr bh lv i : Nat} : ∀ {op : List Ent}, Mx.Fn i lv (Mx.inB K fr bh i lv op)
  | [] => ⟨rfl, rfl⟩
  | (wh, cn, li, co1, fr1) :: r => by
    rw [Mx.inB]
    exact Mx.fn_ite (fun _ => Mx.fn_ite (fun _ => trivial) fun _ => trivial) fun _ => Mx.fn_ite (fun _ => Mx.fn_ite (fun _ => trivial) fun _ => Mx.fn_ite (fun _ => trivial) fun _ => trivial) fun _ => Mx.fn_ite (fun _ => trivial) fun _ => Mx.fn_ite (fun _ => Mx.fn_ite (fun _ => Mx.fn_ite (fun _ => Mx.fn_ite (fun _ => trivial) fun _ => trivial) fun _ => trivial) fun _ => trivial) fun _ => trivial
theorem Mx.fin_step {K : Nat → Nat} {w fr bh co i lv w' fr' bh' co' i' lv' : Nat} {op op' : List Ent} (e : Mx.step K (w, fr, bh, co, i, lv, op) = .inr (true, (w', fr', bh', co', i', lv', op'))) : i' = i ∧ lv' = lv := by
  have h : Mx.Fn i lv (Mx.step K (w, fr, bh, co, i, lv, op)) := by
    rw [Mx.step]
    exact Mx.fn_ite (fun _ => Mx.fn_ite (fun _ => trivial) fun _ => Mx.fn_ite (fun _ => Mx.fn_ite (fun _ => trivial) fun _ => trivial) fun _ => Mx.fn_inB) fun _ => Mx.fn_wnt
  rw [e] at h
  exact h
/-- what the reference's reading says of a run -/
def Mx.End (m N0 : Nat) (bad : Int32) (X : Option ((Int32 × Int32 × Int32 × Int32 × Int32 × Nat × (Nat → Int32)) × Nat × Nat)) : Sum Nat (Nat × Nat) → Prop
  | .inl j => j < m ∧ ∃ lv' sz' N' b' c s, X = some ((0, nI j, nI j, lv', sz', N', b'), c, s) ∧ OpIs N0 N' b' [] c s
  | .inr (i, lv) => i < m ∧ lv ≤ 60 ∧ ∃ N' b' c s, X = some ((1, nI i, bad, nI lv, 0, N', b'), c, s) ∧ OpIs N0 N' b' [] c s
theorem Mx.End_pre {m N N1 c1 s1 : Nat} {bad : Int32} {X Y : Option ((Int32 × Int32 × Int32 × Int32 × Int32 × Nat × (Nat → Int32)) × Nat × Nat)} (g : Grow N N1 c1 s1) (hX : ∀ R c2 s2, Y = some (R, c2, s2) → X = some (R, c1 + c2, s1 + s2)) : ∀ o : Sum Nat (Nat × Nat), Mx.End m N1 bad Y o → Mx.End m N bad X o
  | .inl j, ⟨hj, lv', sz', N', b', c, s, e, h⟩ => ⟨hj, lv', sz', N', b', c1 + c, s1 + s, hX _ _ _ e, ⟨h.vec, g.trans h.grow, h.le⟩⟩
  | .inr (i, lv), ⟨hi, hl, N', b', c, s, e, h⟩ => ⟨hi, hl, N', b', c1 + c, s1 + s, hX _ _ _ e, ⟨h.vec, g.trans h.grow, h.le⟩⟩
section Md
variable {m N5 : Nat} {a5 : Nat → Int32} {K : Nat → Nat}
variable {n2 : Nat} {b2 : Nat → Int32}
variable {q1 q2 q3 q4 q5 q6 : Int32} {q7 : Int32}
theorem RErun (hk : KdIs m N5 a5 K) (hr : RkIs n2 b2) : ∀ (fu : Nat) {N w fr bh co i lv : Nat} {op : List Ent} {b : Nat → Int32} {bad : Int32}, Mx.MI m K w fr bh co i lv op → Vec N b (Mx.flat op) → N ≤ 600 → m - i < fu →
    Mx.End m N bad (F_Mo_readExpression_17 q1 q2 q3 q4 q5 q6 q7 N5 a5 n2 b2 fu (nI w) (nI fr) (nI bh) (nI co) (nI i) bad (nI lv) (nI (5 * op.length)) N b) (Mx.run K fu (w, fr, bh, co, i, lv, op))
  | 0, N, w, fr, bh, co, i, lv, op, b, bad, _, _, _, h => by omega
  | fu + 1, N, w, fr, bh, co, i, lv, op, b, bad, hI, hv, hN, hf => by
    have h1 := RE17 hk hr (q1 := q1) (q2 := q2) (q3 := q3) (q4 := q4) (q5 := q5) (q6 := q6) (q7 := q7) (bad := bad) (fu := fu) hI hv hN
    have h2 := Mx.nx_step hk hI
    rw [Mx.run]
    cases e : Mx.step K (w, fr, bh, co, i, lv, op) with
    | inl j => rw [e] at h1; exact h1
    | inr s =>
      rw [e] at h1 h2
      match s, h1, h2, e with
      | (true, (w', fr', bh', co', i', lv', op')), h1, _, e =>
        obtain ⟨b', e1, e2⟩ := h1
        have h4 := Mx.fin_step e
        refine ⟨?_, ?_, N, b', 0, 0, e1, e2⟩
        · rw [h4.1]; exact hI.at'
        · rw [h4.2]; exact hI.lv'
      | (false, (w', fr', bh', co', i', lv', op')), h1, h2, _ =>
        obtain ⟨N', b', c, s, o, k⟩ := h1
        have hlt : i < i' := h2.2
        have ih := RErun hk hr fu (bad := bad) h2.1 o.vec o.le (by have := hI.at'; omega)
        exact Mx.End_pre o.grow k _ ih
end Md
end
