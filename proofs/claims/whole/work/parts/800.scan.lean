section
theorem nI_toInt' {n : Nat} (h : n < 2 ^ 31) : (nI n).toInt = (n : Int) := by
  unfold nI
  rw [Int32.toInt_ofNat']
  have e : Int32.size = 4294967296 := rfl
  rw [e]
  exact Int.bmod_eq_of_le (by omega) (by omega)
theorem nI_clamp' {n : Nat} (h : n < 2 ^ 31) : (nI n).toNatClampNeg = n := by
  show (nI n).toInt.toNat = n
  rw [nI_toInt' h]; rfl
theorem nI_le' {a b : Nat} (ha : a < 2 ^ 31) (hb : b < 2 ^ 31) : (nI a ≤ nI b) = (a ≤ b) := by
  rw [Int32.le_iff_toInt_le, nI_toInt' ha, nI_toInt' hb]; exact propext Int.ofNat_le
theorem nI_lt' {a b : Nat} (ha : a < 2 ^ 31) (hb : b < 2 ^ 31) : (nI a < nI b) = (a < b) := by
  rw [Int32.lt_iff_toInt_lt, nI_toInt' ha, nI_toInt' hb]; exact propext Int.ofNat_lt
theorem nI_eq' {a b : Nat} (ha : a < 2 ^ 31) (hb : b < 2 ^ 31) : (nI a = nI b) = (a = b) := by
  apply propext
  constructor
  · intro h
    have := congrArg Int32.toNatClampNeg h
    rwa [nI_clamp' ha, nI_clamp' hb] at this
  · intro h; rw [h]
theorem nI_add' (a b : Nat) : nI a + nI b = nI (a + b) := (Int32.ofNat_add a b).symm
theorem nI_sub' {a b : Nat} (h : b ≤ a) : nI a - nI b = nI (a - b) := by
  have : nI (a - b) + nI b = nI a := by rw [nI_add']; congr 1; omega
  rw [← this, Int32.add_sub_cancel]
theorem nI_mul' (a b : Nat) : nI a * nI b = nI (a * b) := (Int32.ofNat_mul a b).symm
theorem nI_nn {a : Nat} (ha : a < 2 ^ 31) : (nI a < 0) = False := by
  rw [show (0 : Int32) = nI 0 from rfl, nI_lt' ha (by omega)]; simp
theorem nI_ge0 {a : Nat} (ha : a < 2 ^ 31) : (0 ≤ nI a) = True := by
  rw [show (0 : Int32) = nI 0 from rfl, nI_le' (by omega) ha]; simp
theorem nI_ne1 {a : Nat} (ha : a < 2 ^ 31) : (nI a = -1) = False := by
  apply eq_false
  intro h
  have := congrArg Int32.toInt h
  rw [nI_toInt' ha] at this
  have h2 : (-1 : Int32).toInt = -1 := by decide
  omega
theorem nI_ne2 {a : Nat} (ha : a < 2 ^ 31) : (nI a = -nI 1) = False := nI_ne1 ha
theorem nI_ne3 {a : Nat} (ha : a < 2 ^ 31) : (-nI 1 = nI a) = False := by
  apply eq_false
  intro h
  exact (nI_ne1 ha).mp h.symm
theorem m1_toInt : (-nI 1).toInt = -1 := by decide
theorem m1_lt {a : Nat} (ha : a < 2 ^ 31) : (-nI 1 < nI a) = True := by
  rw [Int32.lt_iff_toInt_lt, nI_toInt' ha, m1_toInt]; first | (apply eq_true; omega) | (apply eq_false; omega)
theorem m1_le {a : Nat} (ha : a < 2 ^ 31) : (-nI 1 ≤ nI a) = True := by
  rw [Int32.le_iff_toInt_le, nI_toInt' ha, m1_toInt]; first | (apply eq_true; omega) | (apply eq_false; omega)
theorem m1_ge {a : Nat} (ha : a < 2 ^ 31) : (nI a ≤ -nI 1) = False := by
  rw [Int32.le_iff_toInt_le, nI_toInt' ha, m1_toInt]; apply eq_false; omega
theorem m1_gt {a : Nat} (ha : a < 2 ^ 31) : (nI a < -nI 1) = False := by
  rw [Int32.lt_iff_toInt_lt, nI_toInt' ha, m1_toInt]; first | (apply eq_true; omega) | (apply eq_false; omega)
theorem inb_ok {α : Type} {i : Nat} {n : Nat} {a : Option α} (h : i < n) (hi : i < 2 ^ 31) : inb (nI i) n a = a := by
  unfold inb
  rw [if_neg]
  rw [nI_clamp' hi, nI_nn hi]
  intro h
  rcases h with h | h
  · exact h
  · omega
theorem upd_self {f : Nat → Int32} {k : Nat} {x : Int32} : upd f k x k = x := if_pos rfl
theorem upd_ne {f : Nat → Int32} {k j : Nat} {x : Int32} (h : j ≠ k) : upd f k x j = f j := if_neg h
theorem nm_app {α β : Type} (a : α) (k : α → β) : nm a k = k a := rfl
/-- the character at i, -1 behind the end -/
def chr (n : Nat) (x : Nat → Nat) (i : Nat) : Int32 := if i < n then nI (x i) else -1
/-- a Row holds the text -/
abbrev RowIs (N : Nat) (b : Nat → Int32) (n : Nat) (x : Nat → Nat) : Prop := (n ≤ N) ∧ (N ≤ 65536) ∧ (∀ i, i < n → b i &&& 255 = nI (x i))
theorem RowIs.le {N : Nat} {b : Nat → Int32} {n : Nat} {x : Nat → Nat} (h : RowIs N b n x) : n ≤ N := h.1
theorem RowIs.room {N : Nat} {b : Nat → Int32} {n : Nat} {x : Nat → Nat} (h : RowIs N b n x) : N ≤ 65536 := h.2.1
theorem RowIs.at' {N : Nat} {b : Nat → Int32} {n : Nat} {x : Nat → Nat} (h : RowIs N b n x) : ∀ i, i < n → b i &&& 255 = nI (x i) := h.2.2
abbrev TextIs (n : Nat) (x : Nat → Nat) : Prop := (n ≤ 65536) ∧ (∀ i, i < n → x i < 256)
theorem TextIs.le {n : Nat} {x : Nat → Nat} (h : TextIs n x) : n ≤ 65536 := h.1
theorem TextIs.byte {n : Nat} {x : Nat → Nat} (h : TextIs n x) : ∀ i, i < n → x i < 256 := h.2
theorem Rw_at {N : Nat} {b : Nat → Int32} {n : Nat} {x : Nat → Nat} (h : RowIs N b n x) {i : Nat} (hi : i < 2 ^ 31) : F_Rw_at (nI i) (nI n) N b = some (chr n x i) := by
  have := h.le; have := h.room
  unfold F_Rw_at chr
  simp (disch := omega) only [nI_nn, nI_le', if_false]
  by_cases h1 : i < n
  · rw [if_neg (by omega), if_neg (by omega), if_pos h1, inb_ok (by omega) hi, nI_clamp' hi, h.at' i h1]
  · rw [if_pos (by omega), if_neg h1]
end

section
theorem lit_nI (k : Nat) : (@OfNat.ofNat Int32 k _) = nI (OfNat.ofNat k) := rfl
/-- the model's text -/
abbrev NumIs (N : Nat) (a : Nat → Int32) (n : Nat) (x : Nat → Nat) : Prop := (n ≤ N) ∧ (N < 2 ^ 30) ∧ (∀ i, i < n → a i = nI (x i))
theorem NumIs.le {N : Nat} {a : Nat → Int32} {n : Nat} {x : Nat → Nat} (h : NumIs N a n x) : n ≤ N := h.1
theorem NumIs.room {N : Nat} {a : Nat → Int32} {n : Nat} {x : Nat → Nat} (h : NumIs N a n x) : N < 2 ^ 30 := h.2.1
theorem NumIs.at' {N : Nat} {a : Nat → Int32} {n : Nat} {x : Nat → Nat} (h : NumIs N a n x) : ∀ i, i < n → a i = nI (x i) := h.2.2
theorem Nm_at {N : Nat} {a : Nat → Int32} {sz : Int32} {i : Nat} (h : i < N) (hi : i < 2 ^ 31) : F_Nm_at (nI i) sz N a = some () := by
  unfold F_Nm_at
  rw [inb_ok h hi]
def isDig (c : Nat) : Bool := 48 ≤ c && c ≤ 57
def isLet (c : Nat) : Bool := (65 ≤ c && c ≤ 90) || (97 ≤ c && c ≤ 122)
def isNmc (c : Nat) : Bool := isLet c || isDig c || c == 95
def isTxc (c : Nat) : Bool := 32 ≤ c && c ≤ 126 && c != 34
def bI (b : Bool) : Int32 := if b then 1 else 0
/-- the first place from i on, m places at most, where P fails -/
def sw (P : Nat → Bool) (x : Nat → Nat) : Nat → Nat → Nat
  | 0, i => i
  | m + 1, i => if P (x i) then sw P x m (i + 1) else i
theorem sw_le (P : Nat → Bool) (x : Nat → Nat) : ∀ m i, i ≤ sw P x m i ∧ sw P x m i ≤ i + m
  | 0, i => by simp [sw]
  | m + 1, i => by
    unfold sw
    have := sw_le P x m (i + 1)
    split <;> omega
theorem bI0 {b : Bool} : (bI b = 0) = (b = false) := by cases b <;> decide
theorem Sc_dig {c : Nat} (h : c < 256) : F_Sc_isDigit (nI c) = bI (isDig c) := by
  unfold F_Sc_isDigit isDig bI
  simp (disch := omega) only [lit_nI, nI_eq', nI_add', nI_le', nI_lt', nI_nn, nI_ge0, nI_clamp', nI_ne1, nI_ne2, nI_ne3, m1_lt, m1_le, m1_ge, m1_gt, if_false, if_true, Option.bind_some, nm_app]
  by_cases h1 : c < 48
  · simp [h1, show ¬ 48 ≤ c by omega]
  · by_cases h2 : 57 < c
    · simp [h1, h2, show ¬ c ≤ 57 by omega]
    · simp [h1, h2, show 48 ≤ c by omega, show c ≤ 57 by omega]
theorem Mo_dig (c : Int32) : F_Mo_isDigit c = F_Sc_isDigit c := rfl
theorem Sc_let {c : Nat} (h : c < 256) : F_Sc_isLetter (nI c) = bI (isLet c) := by
  unfold F_Sc_isLetter F_Sc_isLetter_12 isLet bI
  simp (disch := omega) only [lit_nI, nI_eq', nI_add', nI_le', nI_lt', nI_nn, nI_ge0, nI_clamp', nI_ne1, nI_ne2, nI_ne3, m1_lt, m1_le, m1_ge, m1_gt, if_false, if_true, Option.bind_some, nm_app]
  by_cases h1 : c < 65
  · simp [h1, show ¬ 65 ≤ c by omega, show ¬ 97 ≤ c by omega, show c < 97 by omega]
  · by_cases h2 : c ≤ 90
    · simp [h1, h2, show 65 ≤ c by omega]
    · by_cases h3 : c < 97
      · simp [h1, h2, h3, show ¬ 97 ≤ c by omega]
      · by_cases h4 : c ≤ 122
        · simp [h1, h2, h3, h4, show ¬ 122 < c by omega, show 97 ≤ c by omega]
        · simp [h1, h2, h3, h4, show 122 < c by omega]
theorem Mo_let {c : Nat} (h : c < 256) : F_Mo_isLetter (nI c) = bI (isLet c) := by
  unfold F_Mo_isLetter F_Mo_isLetter_12 isLet bI
  simp (disch := omega) only [lit_nI, nI_eq', nI_add', nI_le', nI_lt', nI_nn, nI_ge0, nI_clamp', nI_ne1, nI_ne2, nI_ne3, m1_lt, m1_le, m1_ge, m1_gt, if_false, if_true, Option.bind_some, nm_app]
  by_cases h1 : c < 97
  · by_cases h2 : c < 65
    · simp [h1, h2, show ¬ 65 ≤ c by omega, show ¬ 97 ≤ c by omega]
    · by_cases h3 : 90 < c
      · simp [h1, h2, h3, show ¬ c ≤ 90 by omega, show ¬ 97 ≤ c by omega]
      · simp [h1, h2, h3, show c ≤ 90 by omega, show 65 ≤ c by omega]
  · by_cases h4 : c ≤ 122
    · simp [h1, h4, show 97 ≤ c by omega]
    · simp [h1, h4, show ¬ c < 65 by omega, show 90 < c by omega, show ¬ c ≤ 90 by omega]
section Text
variable {n : Nat} {x : Nat → Nat}
variable {N : Nat} {b : Nat → Int32}
variable {M : Nat} {a : Nat → Int32}
theorem chr_in {i : Nat} (h : i < n) : chr n x i = nI (x i) := if_pos h
theorem chr_out {i : Nat} (h : ¬ i < n) : chr n x i = -1 := if_neg h
theorem Sc_digitsEnd_2 (ht : TextIs n x) (hr : RowIs N b n x) : ∀ (k i : Nat), n - i < k → i ≤ 65536 → F_Sc_digitsEnd_2 (nI n) N b k (nI i) = some (nI (sw isDig x (n - i) i))
  | 0, i, h, _ => by omega
  | k + 1, i, h, hi => by
    have h1 := ht.le
    unfold F_Sc_digitsEnd_2
    rw [Rw_at hr (by omega)]
    simp (disch := omega) only [lit_nI, nI_eq', nI_add', nI_le', nI_lt', nI_nn, nI_ge0, nI_clamp', nI_ne1, nI_ne2, nI_ne3, m1_lt, m1_le, m1_ge, m1_gt, if_false, if_true, Option.bind_some, nm_app]
    by_cases h2 : i < n
    · rw [if_neg (by omega), chr, if_pos h2, Sc_dig (ht.byte i h2), show n - i = (n - (i + 1)) + 1 by omega, sw]
      cases h3 : isDig (x i)
      · rfl
      · exact Sc_digitsEnd_2 ht hr k (i + 1) (by omega) (by omega)
    · rw [if_pos (by omega), show n - i = 0 by omega, sw]
def ltr (n : Nat) (x : Nat → Nat) (i : Nat) : Nat := if i < n then x i else 0
theorem ltr_in {i : Nat} (h : i < n) : ltr n x i = x i := if_pos h
theorem ltr_out {i : Nat} (h : ¬ i < n) : ltr n x i = 0 := if_neg h
theorem ltr_lt (ht : TextIs n x) (i : Nat) : ltr n x i < 256 := by
  unfold ltr
  split
  · exact ht.byte i (by assumption)
  · omega
variable {q1 q2 q3 q4 q5 q6 q7 q8 q9 : Int32}
theorem Mo_letter (ht : TextIs n x) (hm : NumIs M a n x) {i : Nat} (hi : i < 2 ^ 31) : F_Mo_letter (nI i) q1 q2 q3 q4 q5 q6 q7 q8 q9 (nI n) M a = some (nI (ltr n x i)) := by
  have h1 := ht.le
  have h2 := hm.le
  unfold F_Mo_letter
  simp (disch := omega) only [lit_nI, nI_eq', nI_add', nI_le', nI_lt', nI_nn, nI_ge0, nI_clamp', nI_ne1, nI_ne2, nI_ne3, m1_lt, m1_le, m1_ge, m1_gt, if_false, if_true, Option.bind_some, nm_app]
  by_cases h : i < n
  · rw [if_neg (by omega), Nm_at (by omega) hi, ltr_in h, hm.at' i h]; rfl
  · rw [if_pos (by omega), ltr_out h]
theorem Mo_digitsEnd_2 (ht : TextIs n x) (hm : NumIs M a n x) : ∀ (k i : Nat), n - i < k → i ≤ 65600 → F_Mo_digitsEnd_2 q1 q2 q3 q4 q5 q6 q7 q8 q9 (nI n) M a k (nI i) = some (nI (sw isDig x (n - i) i))
  | 0, i, h, _ => by omega
  | k + 1, i, h, hi => by
    have h1 := ht.le
    unfold F_Mo_digitsEnd_2
    rw [Mo_letter ht hm (by omega)]
    simp (disch := omega) only [lit_nI, nI_eq', nI_add', nI_le', nI_lt', nI_nn, nI_ge0, nI_clamp', nI_ne1, nI_ne2, nI_ne3, m1_lt, m1_le, m1_ge, m1_gt, if_false, if_true, Option.bind_some, nm_app]
    by_cases h2 : i < n
    · rw [ltr_in h2, Mo_dig, Sc_dig (ht.byte i h2), show n - i = (n - (i + 1)) + 1 by omega, sw]
      cases h3 : isDig (x i)
      · rfl
      · exact Mo_digitsEnd_2 ht hm k (i + 1) (by omega) (by omega)
    · rw [ltr_out h2, show n - i = 0 by omega, sw, Mo_dig, Sc_dig (by omega)]; rfl
def digEnd (n : Nat) (x : Nat → Nat) (i : Nat) : Nat := sw isDig x (n - i) i
theorem Sc_digitsEnd (ht : TextIs n x) (hr : RowIs N b n x) {i : Nat} {w1 w2 w3 w4 : Int32} (hi : i ≤ 65536) : F_Sc_digitsEnd (nI i) w1 w2 w3 w4 (nI n) N b = some (nI (digEnd n x i)) :=
  Sc_digitsEnd_2 ht hr FU i (by have := ht.le; unfold FU; omega) hi
theorem Mo_digitsEnd (ht : TextIs n x) (hm : NumIs M a n x) {i : Nat} (hi : i ≤ 65600) : F_Mo_digitsEnd (nI i) q1 q2 q3 q4 q5 q6 q7 q8 q9 (nI n) M a = some (nI (digEnd n x i)) :=
  Mo_digitsEnd_2 ht hm FU i (by have := ht.le; unfold FU; omega) hi
/-- blanks and remarks: m places at most; r: in a remark -/
def sk (x : Nat → Nat) : Nat → Bool → Nat → Nat
  | 0, _, i => i
  | m + 1, r, i => if x i = 10 then sk x m false (i + 1) else if x i = 37 then sk x m true (i + 1) else if r || x i = 9 || x i = 13 || x i = 32 then sk x m r (i + 1) else i
theorem sk_le (x : Nat → Nat) : ∀ m r i, i ≤ sk x m r i ∧ sk x m r i ≤ i + m
  | 0, r, i => by simp [sk]
  | m + 1, r, i => by
    unfold sk
    have h1 := sk_le x m false (i + 1)
    have h2 := sk_le x m true (i + 1)
    have h3 := sk_le x m r (i + 1)
    split
    · omega
    · split
      · omega
      · split <;> omega
theorem Sc_skip_2 (ht : TextIs n x) (hr : RowIs N b n x) : ∀ (k i : Nat) (r : Bool), n - i < k → i ≤ 65536 → F_Sc_skipBlanks_2 (nI n) N b k (bI r) (nI i) = some (nI (sk x (n - i) r i))
  | 0, i, r, h, _ => by omega
  | k + 1, i, r, h, hi => by
    have h1 := ht.le
    unfold F_Sc_skipBlanks_2
    rw [Rw_at hr (by omega)]
    by_cases h2 : i < n
    · have hx := ht.byte i h2
      rw [chr, if_pos h2, show n - i = (n - (i + 1)) + 1 by omega, sk]
      simp (disch := omega) only [lit_nI, nI_eq', nI_add', nI_le', nI_lt', nI_nn, nI_ge0, nI_clamp', nI_ne1, nI_ne2, nI_ne3, m1_lt, m1_le, m1_ge, m1_gt, if_false, if_true, Option.bind_some, nm_app]
      rw [if_neg (by omega)]
      by_cases c1 : x i = 10
      · rw [if_pos c1, if_pos c1]; exact Sc_skip_2 ht hr k (i + 1) false (by omega) (by omega)
      rw [if_neg c1, if_neg c1]
      by_cases c2 : x i = 37
      · rw [if_pos c2, if_pos c2]; exact Sc_skip_2 ht hr k (i + 1) true (by omega) (by omega)
      rw [if_neg c2, if_neg c2]
      have ih := Sc_skip_2 ht hr k (i + 1) r (by omega) (by omega)
      cases r
      · rw [if_pos (by rfl)]
        by_cases c3 : x i = 9
        · rw [if_pos c3, if_pos (by simp [c3])]; exact ih
        rw [if_neg c3]
        by_cases c4 : x i = 13
        · rw [if_pos c4, if_pos (by simp [c4])]; exact ih
        rw [if_neg c4]
        by_cases c5 : x i = 32
        · rw [if_pos c5, if_pos (by simp [c5])]; exact ih
        rw [if_neg c5, if_neg (by simp [c3, c4, c5])]
      · rw [if_neg (by decide), if_pos (by simp)]; exact ih
    · simp (disch := omega) only [lit_nI, nI_eq', nI_add', nI_le', nI_lt', nI_nn, nI_ge0, nI_clamp', nI_ne1, nI_ne2, nI_ne3, m1_lt, m1_le, m1_ge, m1_gt, if_false, if_true, Option.bind_some, nm_app]
      rw [if_pos (by omega), show n - i = 0 by omega, sk]
/-- in a remark: up to its line's end -/
theorem sk_rem (x : Nat → Nat) : ∀ m i, sk x m true i = sk x (m - (sw (fun c => c != 10) x m i - i)) false (sw (fun c => c != 10) x m i)
  | 0, i => by simp [sw, sk]
  | m + 1, i => by
    have h0 := sw_le (fun c => c != 10) x m (i + 1)
    rw [sk]
    unfold sw
    by_cases c1 : x i = 10
    · simp [c1, sk]
    · have ih := sk_rem x m (i + 1)
      simp only [c1, if_false, bne_iff_ne, ne_eq, not_false_eq_true, if_true, Bool.true_or, ite_self]
      rw [ih]
      congr 1
      omega
theorem Mo_skip_53 (ht : TextIs n x) (hm : NumIs M a n x) (K : Int32 → Option Int32) : ∀ (k i : Nat), n - i < k → i ≤ 65536 → F_Mo_skip_53 (nI n) M a K k (nI i) = K (nI (sw (fun c => c != 10) x (n - i) i))
  | 0, i, h, _ => by omega
  | k + 1, i, h, hi => by
    have h1 := ht.le
    have h3 := hm.le
    unfold F_Mo_skip_53
    by_cases h2 : i < n
    · have hx := ht.byte i h2
      rw [Nm_at (by omega) (by omega)]
      simp (disch := omega) only [lit_nI, nI_eq', nI_add', nI_le', nI_lt', nI_nn, nI_ge0, nI_clamp', nI_ne1, nI_ne2, nI_ne3, m1_lt, m1_le, m1_ge, m1_gt, if_false, if_true, Option.bind_some, nm_app]
      rw [if_neg (by omega), hm.at' i h2, show n - i = (n - (i + 1)) + 1 by omega, sw]
      simp (disch := omega) only [lit_nI, nI_eq', nI_add', nI_le', nI_lt', nI_nn, nI_ge0, nI_clamp', nI_ne1, nI_ne2, nI_ne3, m1_lt, m1_le, m1_ge, m1_gt, if_false, if_true, Option.bind_some, nm_app]
      by_cases c1 : x i = 10
      · simp [c1]
      · rw [if_neg c1, if_pos (by simp [c1])]
        exact Mo_skip_53 ht hm K k (i + 1) (by omega) (by omega)
    · simp (disch := omega) only [lit_nI, nI_eq', nI_add', nI_le', nI_lt', nI_nn, nI_ge0, nI_clamp', nI_ne1, nI_ne2, nI_ne3, m1_lt, m1_le, m1_ge, m1_gt, if_false, if_true, Option.bind_some, nm_app]
      rw [if_pos (by omega), show n - i = 0 by omega, sw]
theorem Mo_skip_2 (ht : TextIs n x) (hm : NumIs M a n x) : ∀ (k i : Nat), n - i < k → i ≤ 65536 → F_Mo_skip_2 (nI n) M a k (nI i) = some (nI (sk x (n - i) false i))
  | 0, i, h, _ => by omega
  | k + 1, i, h, hi => by
    have h1 := ht.le
    have h3 := hm.le
    unfold F_Mo_skip_2
    by_cases h2 : i < n
    · have hx := ht.byte i h2
      rw [Nm_at (by omega) (by omega)]
      simp (disch := omega) only [lit_nI, nI_eq', nI_add', nI_le', nI_lt', nI_nn, nI_ge0, nI_clamp', nI_ne1, nI_ne2, nI_ne3, m1_lt, m1_le, m1_ge, m1_gt, if_false, if_true, Option.bind_some, nm_app]
      rw [if_neg (by omega), hm.at' i h2, show n - i = (n - (i + 1)) + 1 by omega, sk]
      unfold F_Mo_isBlank
      simp (disch := omega) only [lit_nI, nI_eq', nI_add', nI_le', nI_lt', nI_nn, nI_ge0, nI_clamp', nI_ne1, nI_ne2, nI_ne3, m1_lt, m1_le, m1_ge, m1_gt, if_false, if_true, Option.bind_some, nm_app]
      by_cases c2 : x i = 37
      · simp only [c2, show ¬ (37 = 10) by decide, show ¬ (37 = 9) by decide, show ¬ (37 = 13) by decide, show ¬ (37 = 32) by decide, if_false, if_true]
        rw [Mo_skip_53 ht hm _ FU i (by unfold FU; omega) hi]
        have hs : sw (fun c => c != 10) x (n - i) i = sw (fun c => c != 10) x (n - (i + 1)) (i + 1) := by
          rw [show n - i = (n - (i + 1)) + 1 by omega, sw, if_pos (by simp [c2])]
        have hl := sw_le (fun c => c != 10) x (n - (i + 1)) (i + 1)
        rw [hs, Mo_skip_2 ht hm k _ (by omega) (by omega), sk_rem]
        congr 3
        omega
      · have ih := Mo_skip_2 ht hm k (i + 1) (by omega) (by omega)
        simp only [c2, if_false]
        by_cases c1 : x i = 10
        · simp only [c1, if_true, show ¬ (10 = 9) by decide, if_false]; exact ih
        by_cases c3 : x i = 9
        · simp only [c3, if_true, show ¬ (9 = 10) by decide, if_false, decide_true, Bool.or_true, Bool.true_or]; exact ih
        by_cases c4 : x i = 13
        · simp only [c4, if_true, show ¬ (13 = 10) by decide, show ¬ (13 = 9) by decide, if_false, decide_true, Bool.or_true, Bool.true_or]; exact ih
        by_cases c5 : x i = 32
        · simp only [c5, if_true, show ¬ (32 = 10) by decide, show ¬ (32 = 9) by decide, show ¬ (32 = 13) by decide, if_false, decide_true, Bool.or_true, Bool.true_or]; exact ih
        simp [c1, c3, c4, c5]
    · simp (disch := omega) only [lit_nI, nI_eq', nI_add', nI_le', nI_lt', nI_nn, nI_ge0, nI_clamp', nI_ne1, nI_ne2, nI_ne3, m1_lt, m1_le, m1_ge, m1_gt, if_false, if_true, Option.bind_some, nm_app]
      rw [if_pos (by omega), show n - i = 0 by omega, sk]
def skp (n : Nat) (x : Nat → Nat) (i : Nat) : Nat := sk x (n - i) false i
theorem Sc_skip (ht : TextIs n x) (hr : RowIs N b n x) {i : Nat} {w2 w3 w4 : Int32} (hi : i ≤ 65536) : F_Sc_skipBlanks (nI i) w2 w3 w4 (nI n) N b = some (nI (skp n x i)) :=
  Sc_skip_2 ht hr FU i false (by have := ht.le; unfold FU; omega) hi
theorem Mo_skip (ht : TextIs n x) (hm : NumIs M a n x) {i : Nat} (hi : i ≤ 65536) : F_Mo_skip (nI i) q1 q2 q3 q4 q5 q6 q7 q8 q9 (nI n) M a = some (nI (skp n x i)) :=
  Mo_skip_2 ht hm FU i (by have := ht.le; unfold FU; omega) hi
end Text
end

section
def gBn (s : Nat) : List Nat := (gB s).map (fun c => c.toNatClampNeg)
theorem gBn_len (s : Nat) : (gBn s).length = (gB s).length := by unfold gBn; rw [List.length_map]
set_option maxRecDepth 100000 in
theorem gB_all : (List.range 85).all (fun s => (gB s).length < 400 && (List.range (gB s).length).all (fun j => sch s (nI j) == nI ((gBn s).getD j 0) && 0 < (gBn s).getD j 0 && (gBn s).getD j 0 < 256)) = true := by decide +kernel
theorem gB_lt {s : Nat} (hs : s < 85) : (gB s).length < 400 := by
  have h := List.all_eq_true.mp gB_all s (List.mem_range.mpr hs)
  rw [Bool.and_eq_true] at h
  simpa using h.1
theorem gB_at {s j : Nat} (hs : s < 85) (hj : j < (gB s).length) : sch s (nI j) = nI ((gBn s)[j]'(by rw [gBn_len]; exact hj)) ∧ 0 < (gBn s)[j]'(by rw [gBn_len]; exact hj) ∧ (gBn s)[j]'(by rw [gBn_len]; exact hj) < 256 := by
  have h := List.all_eq_true.mp gB_all s (List.mem_range.mpr hs)
  rw [Bool.and_eq_true] at h
  have h2 := List.all_eq_true.mp h.2 j (List.mem_range.mpr hj)
  simp only [Bool.and_eq_true, beq_iff_eq, decide_eq_true_eq, List.getD_eq_getElem?_getD, List.getElem?_eq_getElem (show j < (gBn s).length by rw [gBn_len]; exact hj), Option.getD_some] at h2
  exact ⟨h2.1.1, h2.1.2, h2.2⟩
/-- the word stands at i -/
def smt (n : Nat) (x : Nat → Nat) : List Nat → Nat → Bool
  | [], _ => true
  | c :: w, i => ltr n x i == c && smt n x w (i + 1)
theorem sin_ok {α : Type} {s : Nat} {m : Option α} (h : s < 85) : sin s m = m := if_pos h
section Text
variable {n : Nat} {x : Nat → Nat}
variable {N : Nat} {b : Nat → Int32}
variable {M : Nat} {a : Nat → Int32}
variable {q1 q2 q3 q4 q5 q6 q7 q8 q9 w1 w2 w3 w4 : Int32}
theorem smt_step {s j i : Nat} (hj : j < (gB s).length) : smt n x ((gBn s).drop j) i = (ltr n x i == (gBn s)[j]'(by rw [gBn_len]; exact hj) && smt n x ((gBn s).drop (j + 1)) (i + 1)) := by
  rw [List.drop_eq_getElem_cons (show j < (gBn s).length by rw [gBn_len]; exact hj), smt]
theorem smt_end {s j i : Nat} (hj : ¬ j < (gB s).length) : smt n x ((gBn s).drop j) i = true := by
  rw [List.drop_eq_nil_of_le (by rw [gBn_len]; omega), smt]
theorem Sc_is_15 (ht : TextIs n x) (hr : RowIs N b n x) {s st : Nat} (hs : s < 85) (hst : st ≤ 65536) : ∀ (k j : Nat), (gB s).length - j < k → j ≤ (gB s).length → F_Sc_is_15 s (nI st) (nI n) N b k (nI j) = some (bI (smt n x ((gBn s).drop j) (st + j)))
  | 0, j, h, _ => by omega
  | k + 1, j, h, hj => by
    have h1 := ht.le
    have h4 := gB_lt hs
    unfold F_Sc_is_15
    rw [sin_ok hs, sin_ok hs]
    by_cases h2 : j < (gB s).length
    · rw [smt_step h2]
      obtain ⟨e1, e2, e3⟩ := gB_at hs h2
      rw [e1, inb_ok h2 (by omega), nI_add', Rw_at hr (by omega)]
      simp (disch := omega) only [lit_nI, nI_eq', nI_add', nI_le', nI_lt', nI_nn, nI_ge0, nI_clamp', nI_ne1, nI_ne2, nI_ne3, m1_lt, m1_le, m1_ge, m1_gt, if_false, if_true, Option.bind_some, nm_app]
      rw [if_neg (by omega)]
      have ih := Sc_is_15 ht hr hs hst k (j + 1) (by omega) (by omega)
      by_cases h3 : st + j < n
      · have hx := ht.byte _ h3
        rw [chr, if_pos h3, ltr_in h3]
        simp (disch := omega) only [lit_nI, nI_eq', nI_add', nI_le', nI_lt', nI_nn, nI_ge0, nI_clamp', nI_ne1, nI_ne2, nI_ne3, m1_lt, m1_le, m1_ge, m1_gt, if_false, if_true, Option.bind_some, nm_app]
        by_cases h5 : (gBn s)[j]'(by rw [gBn_len]; exact h2) = x (st + j)
        · rw [if_pos h5, ih, h5]; simp [Nat.add_assoc]
        · rw [if_neg h5]
          have : (x (st + j) == (gBn s)[j]'(by rw [gBn_len]; exact h2)) = false := by simpa using fun h => h5 h.symm
          rw [this]; rfl
      · rw [chr, if_neg h3, ltr_out h3]
        simp (disch := omega) only [lit_nI, nI_eq', nI_add', nI_le', nI_lt', nI_nn, nI_ge0, nI_clamp', nI_ne1, nI_ne2, nI_ne3, m1_lt, m1_le, m1_ge, m1_gt, if_false, if_true, Option.bind_some, nm_app]
        have : (0 == (gBn s)[j]'(by rw [gBn_len]; exact h2)) = false := by simp; omega
        rw [this]; rfl
    · rw [smt_end h2]
      simp (disch := omega) only [lit_nI, nI_eq', nI_add', nI_le', nI_lt', nI_nn, nI_ge0, nI_clamp', nI_ne1, nI_ne2, nI_ne3, m1_lt, m1_le, m1_ge, m1_gt, if_false, if_true, Option.bind_some, nm_app]
      rw [if_pos (by omega)]; rfl
theorem Mo_stands_5 (ht : TextIs n x) (hm : NumIs M a n x) {s st : Nat} (hs : s < 85) (hst : st ≤ 65536) : ∀ (k j : Nat) (r : Bool), (gB s).length - j < k → j ≤ (gB s).length → F_Mo_stands_5 s (nI st) q1 q2 q3 q4 q5 q6 q7 q8 q9 (nI n) M a k (nI j) (bI r) = some (bI (r && smt n x ((gBn s).drop j) (st + j)))
  | 0, j, r, h, _ => by omega
  | k + 1, j, r, h, hj => by
    have h1 := ht.le
    have h4 := gB_lt hs
    unfold F_Mo_stands_5
    simp only [sin_ok hs]
    by_cases h2 : j < (gB s).length
    · rw [smt_step h2]
      obtain ⟨e1, e2, e3⟩ := gB_at hs h2
      rw [e1, nI_add', Mo_letter ht hm (by omega), Option.bind_some, inb_ok h2 (by omega)]
      have hl := ltr_lt ht (st + j)
      simp (disch := omega) only [lit_nI, nI_eq', nI_add', nI_le', nI_lt', nI_nn, nI_ge0, nI_clamp', nI_ne1, nI_ne2, nI_ne3, m1_lt, m1_le, m1_ge, m1_gt, if_false, if_true, Option.bind_some, nm_app]
      rw [if_neg (by omega)]
      cases r
      · have ih := Mo_stands_5 ht hm hs hst k (j + 1) false (by omega) (by omega)
        rw [if_pos (by rfl)]
        rw [show nI (OfNat.ofNat 0) = bI false from rfl, ih]; rfl
      · rw [if_neg (by decide)]
        by_cases h5 : ltr n x (st + j) = (gBn s)[j]'(by rw [gBn_len]; exact h2)
        · have ih := Mo_stands_5 ht hm hs hst k (j + 1) true (by omega) (by omega)
          rw [if_pos h5, show nI (OfNat.ofNat 1) = bI true from rfl, ih, h5]; simp [Nat.add_assoc]
        · have ih := Mo_stands_5 ht hm hs hst k (j + 1) false (by omega) (by omega)
          rw [if_neg h5, show nI (OfNat.ofNat 0) = bI false from rfl, ih]
          have : (ltr n x (st + j) == (gBn s)[j]'(by rw [gBn_len]; exact h2)) = false := by simpa using h5
          rw [this]; rfl
    · rw [smt_end h2]
      simp (disch := omega) only [lit_nI, nI_eq', nI_add', nI_le', nI_lt', nI_nn, nI_ge0, nI_clamp', nI_ne1, nI_ne2, nI_ne3, m1_lt, m1_le, m1_ge, m1_gt, if_false, if_true, Option.bind_some, nm_app]
      rw [if_pos (by omega), Bool.and_true]
theorem Sc_is (ht : TextIs n x) (hr : RowIs N b n x) {s st wd : Nat} (hs : s < 85) (hst : st ≤ 65536) (hw : wd < 2 ^ 31) : F_Sc_is s w1 w2 (nI st) (nI wd) (nI n) N b = some (bI ((gBn s).length == wd && smt n x (gBn s) st)) := by
  have h4 := gB_lt hs
  unfold F_Sc_is
  rw [sin_ok hs]
  simp (disch := omega) only [lit_nI, nI_eq', nI_add', nI_le', nI_lt', nI_nn, nI_ge0, nI_clamp', nI_ne1, nI_ne2, nI_ne3, m1_lt, m1_le, m1_ge, m1_gt, if_false, if_true, Option.bind_some, nm_app]
  rw [gBn_len]
  by_cases h : (gB s).length = wd
  · rw [if_pos h, show nI (OfNat.ofNat 0) = nI 0 from rfl, Sc_is_15 ht hr hs hst FU 0 (by unfold FU; omega) (by omega)]
    simp [h]
  · rw [if_neg h]; simp [h, bI]; rfl
theorem Mo_stands (ht : TextIs n x) (hm : NumIs M a n x) {s st : Nat} (hs : s < 85) (hst : st ≤ 65536) : F_Mo_stands s (nI st) q1 q2 q3 q4 q5 q6 q7 q8 q9 (nI n) M a = some (bI (smt n x (gBn s) st)) := by
  have h4 := gB_lt hs
  have := Mo_stands_5 ht hm (q1 := q1) (q2 := q2) (q3 := q3) (q4 := q4) (q5 := q5) (q6 := q6) (q7 := q7) (q8 := q8) (q9 := q9) hs hst FU 0 true (by unfold FU; omega) (by omega)
  rw [List.drop_zero, Nat.add_zero, Bool.true_and] at this
  exact this
/-- is the w-th word the name of this width at st -/
def wf (n : Nat) (x : Nat → Nat) (st wd w : Nat) : Bool := (gBn (40 + w)).length == wd && smt n x (gBn (40 + w)) st
def wordIx (n : Nat) (x : Nat → Nat) (st wd : Nat) : Option Nat := (List.range 14).find? (wf n x st wd)
set_option maxRecDepth 100000 in
theorem words_same : (List.range 14).all (fun s => gBn s == gBn (40 + s)) = true := by decide +kernel
theorem Sc_isW (ht : TextIs n x) (hr : RowIs N b n x) {s st wd : Nat} (hs : s < 14) (hst : st ≤ 65536) (hw : wd < 2 ^ 31) : F_Sc_is s w1 w2 (nI st) (nI wd) (nI n) N b = some (bI (wf n x st wd s)) := by
  rw [Sc_is ht hr (by omega) hst hw]
  have := List.all_eq_true.mp words_same s (List.mem_range.mpr hs)
  rw [beq_iff_eq] at this
  rw [this]; rfl
theorem bI_f : (bI false = 0) := rfl
theorem bI_t : ¬ (bI true = 0) := by decide
theorem w_step {P : Nat → Bool} {v : Nat} {l : List Nat} {A : Option Int32} (h : A = some (match l.find? P with | some w => nI (5 + w) | none => 2)) : (if bI (P v) = 0 then A else some (nI (5 + v))) = some (match (v :: l).find? P with | some w => nI (5 + w) | none => 2) := by
  rw [List.find?_cons]
  cases P v
  · rw [if_pos bI_f]; exact h
  · rw [if_neg bI_t]
theorem Sc_word (ht : TextIs n x) (hr : RowIs N b n x) {st wd : Nat} (hst : st ≤ 65536) (hw : wd < 2 ^ 31) : F_Sc_wordOrName w1 w2 (nI st) (nI wd) (nI n) N b = some (match wordIx n x st wd with | some w => nI (5 + w) | none => 2) := by
  unfold F_Sc_wordOrName wordIx
  rw [show List.range 14 = [0, 1, 2, 3, 4, 5, 6, 7, 8, 9, 10, 11, 12, 13] from rfl]
  have h := fun s (hs : s < 14) => Sc_isW (w1 := w1) (w2 := w2) ht hr hs hst hw
  rw [h 0 (by omega), h 1 (by omega), h 2 (by omega), h 3 (by omega), h 4 (by omega), h 5 (by omega), h 6 (by omega), h 7 (by omega), h 8 (by omega), h 9 (by omega), h 10 (by omega), h 11 (by omega), h 12 (by omega), h 13 (by omega)]
  simp only [Option.bind_some]
  iterate 14
    refine w_step ?_
  rfl
end Text
end

section
section Text
variable {n : Nat} {x : Nat → Nat}
variable {N : Nat} {b : Nat → Int32}
variable {M : Nat} {a : Nat → Int32}
variable {q1 q2 q3 q4 q5 q6 q7 q8 q9 w1 w2 w3 w4 : Int32}
/-- a token: its kind (the reference's numbers) and where it ends -/
def nameTok (n : Nat) (x : Nat → Nat) (st e : Nat) : Nat :=
  match wordIx n x st (e - st) with
  | some w => 10 + w
  | none => if e - st ≤ 255 then 2 else 1
/-- the class's number of a kind -/
def sgn : List Nat := [256, 257, 258, 259, 260, 261, 60, 62, 58, 43, 45, 42, 47, 92, 262, 263, 94, 264, 39, 126, 40, 41, 91, 93, 44, 59, 61]
def ck (k : Nat) : Nat := if k < 10 then k else if k < 24 then k - 5 else sgn.getD (k - 30) 0
theorem Mo_token_86 (ht : TextIs n x) (hm : NumIs M a n x) {st e : Nat} {v2 : Int32} (hst : st ≤ 65536) (he : e ≤ 65536) (hse : st ≤ e) : ∀ (k w : Nat), 14 - w < k → w ≤ 14 →
    F_Mo_token_86 (nI st) q1 q2 q3 q4 q5 q6 q7 q8 (nI n) M a k (nI w) (nI e) v2 (nI e) = some (nI (match (List.range' w (14 - w)).find? (wf n x st (e - st)) with | some w => 10 + w | none => if e - st ≤ 255 then 2 else 1), nI e)
  | 0, w, h, _ => by omega
  | k + 1, w, h, hw => by
    unfold F_Mo_token_86
    rw [nI_sub' hse]
    by_cases h1 : w < 14
    · rw [inb_ok h1 (by omega), nI_clamp' (by omega), sin_ok (by omega), Mo_stands ht hm (by omega) hst, Option.bind_some, inb_ok h1 (by omega)]
      have ih := Mo_token_86 ht hm (v2 := v2) hst he hse k (w + 1) (by omega) (by omega)
      have hl := gB_lt (show 40 + w < 85 by omega)
      rw [show 14 - w = (14 - (w + 1)) + 1 by omega, List.range'_succ, List.find?_cons]
      simp (disch := omega) only [lit_nI, nI_eq', nI_add', nI_le', nI_lt', nI_nn, nI_ge0, nI_clamp', nI_ne1, nI_ne2, nI_ne3, m1_lt, m1_le, m1_ge, m1_gt, if_false, if_true, Option.bind_some, nm_app]
      rw [if_neg (by omega), ih]
      by_cases h2 : (gB (40 + w)).length = e - st
      · rw [if_pos h2]
        have h3 : wf n x st (e - st) w = smt n x (gBn (40 + w)) st := by unfold wf; rw [gBn_len, h2]; simp
        rw [h3]
        cases smt n x (gBn (40 + w)) st
        · rw [if_pos (by rfl)]
        · rw [if_neg (by decide)]
      · rw [if_neg h2]
        have h3 : wf n x st (e - st) w = false := by unfold wf; rw [gBn_len]; simp [h2]
        rw [h3]
    · have : w = 14 := by omega
      subst this
      simp (disch := omega) only [lit_nI, nI_eq', nI_add', nI_le', nI_lt', nI_nn, nI_ge0, nI_clamp', nI_ne1, nI_ne2, nI_ne3, m1_lt, m1_le, m1_ge, m1_gt, if_false, if_true, Option.bind_some, nm_app]
      rw [if_pos (by omega)]
      simp only [Nat.sub_self, List.range'_zero, List.find?_nil]
      by_cases h2 : e - st ≤ 255
      · rw [if_pos h2, if_pos h2]
      · rw [if_neg h2, if_neg h2]
theorem range'_0 (m : Nat) : List.range' 0 m = List.range m := List.range_eq_range'.symm
def nmEnd (n : Nat) (x : Nat → Nat) (i : Nat) : Nat := sw isNmc x (n - i) i
theorem Nmc_t {c : Nat} (h : isLet c = true) : isNmc c = true := by unfold isNmc; rw [h]; rfl
theorem Mo_token_40 (ht : TextIs n x) (hm : NumIs M a n x) {st : Nat} {v2 : Int32} (hst : st ≤ 65536) : ∀ (k i : Nat) (le : Int32), n - i < k → st ≤ i → i ≤ 65536 →
    F_Mo_token_40 (nI st) q1 q2 q3 q4 q5 q6 q7 q8 (nI n) M a k (nI i) v2 le = some (nI (nameTok n x st (nmEnd n x i)), nI (nmEnd n x i))
  | 0, i, le, h, _, _ => by omega
  | k + 1, i, le, h, hi, hi2 => by
    have h1 := ht.le
    unfold F_Mo_token_40
    rw [Mo_letter ht hm (by omega)]
    simp only [Option.bind_some]
    have hl := ltr_lt ht i
    simp only [Option.bind_some, nm_app]
    rw [Mo_let hl, Mo_dig, Sc_dig hl]
    have hend : ∀ (hc : nmEnd n x i = i), F_Mo_token_86 (nI st) q1 q2 q3 q4 q5 q6 q7 q8 (nI n) M a FU 0 (nI i) v2 (nI i) = some (nI (nameTok n x st (nmEnd n x i)), nI (nmEnd n x i)) := by
      intro hc
      rw [hc]
      have := Mo_token_86 (q1 := q1) (q2 := q2) (q3 := q3) (q4 := q4) (q5 := q5) (q6 := q6) (q7 := q7) (q8 := q8) (v2 := v2) ht hm hst hi2 hi FU 0 (by unfold FU; omega) (by omega)
      rw [range'_0] at this
      exact this
    by_cases h2 : i < n
    · rw [ltr_in h2]
      have hx := ht.byte i h2
      have ih := Mo_token_40 ht hm (v2 := v2) hst k (i + 1) le (by omega) (by omega) (by omega)
      have hstep : isNmc (x i) = true → nmEnd n x i = nmEnd n x (i + 1) := by
        intro hc
        unfold nmEnd
        rw [show n - i = (n - (i + 1)) + 1 by omega, sw, if_pos hc]
      have hstop : isNmc (x i) = false → nmEnd n x i = i := by
        intro hc
        unfold nmEnd
        rw [show n - i = (n - (i + 1)) + 1 by omega, sw, hc]; rfl
      simp (disch := omega) only [lit_nI, nI_eq', nI_add', nI_le', nI_lt', nI_nn, nI_ge0, nI_clamp', nI_ne1, nI_ne2, nI_ne3, m1_lt, m1_le, m1_ge, m1_gt, if_false, if_true, Option.bind_some, nm_app]
      cases c1 : isLet (x i)
      · rw [if_pos (by rfl)]
        cases c2 : isDig (x i)
        · rw [if_pos (by rfl)]
          by_cases c3 : x i = 95
          · rw [if_pos c3, ih, hstep (by unfold isNmc; rw [c1, c2, c3]; rfl)]
          · rw [if_neg c3]
            exact hend (hstop (by unfold isNmc; rw [c1, c2]; simpa using c3))
        · rw [if_neg (by decide), ih, hstep (by unfold isNmc; rw [c1, c2]; rfl)]
      · rw [if_neg (by decide), ih, hstep (by unfold isNmc; rw [c1]; rfl)]
    · rw [ltr_out h2, if_pos (by decide), if_pos (by decide), if_neg (by decide)]
      refine hend ?_
      unfold nmEnd
      rw [show n - i = 0 by omega, sw]
theorem Sc_name_65 (ht : TextIs n x) (hr : RowIs N b n x) {st e : Nat} (hst : st ≤ e) (he : e ≤ 65536) : F_Sc_scanName_65 w1 w2 (nI st) (nI n) N b (nI e) = some (nI (ck (nameTok n x st e)), nI (e - st)) := by
  unfold F_Sc_scanName_65 nameTok
  rw [nI_sub' hst, Sc_word ht hr (by omega) (by omega)]
  have hw : ∀ w, wordIx n x st (e - st) = some w → w < 14 ∧ e - st ≤ 255 := by
    intro w h
    have h1 := List.mem_of_find?_eq_some h
    have h2 := List.find?_some h
    rw [List.mem_range] at h1
    unfold wf at h2
    rw [Bool.and_eq_true, beq_iff_eq, gBn_len] at h2
    have h3 : ((List.range 14).all fun w => (gB (40 + w)).length ≤ 255) = true := by decide +kernel
    have h4 := List.all_eq_true.mp h3 w (List.mem_range.mpr h1)
    simp only [decide_eq_true_eq] at h4
    exact ⟨h1, by omega⟩
  simp (disch := omega) only [lit_nI, nI_eq', nI_add', nI_le', nI_lt', nI_nn, nI_ge0, nI_clamp', nI_ne1, nI_ne2, nI_ne3, m1_lt, m1_le, m1_ge, m1_gt, if_false, if_true, Option.bind_some, nm_app]
  cases h : wordIx n x st (e - st) with
  | some w =>
    obtain ⟨h1, h2⟩ := hw w h
    rw [if_pos h2]
    simp only [ck]
    rw [if_neg (by omega), if_pos (by omega), show 10 + w - 5 = 5 + w by omega]
  | none =>
    simp only
    by_cases h2 : e - st ≤ 255
    · rw [if_pos h2, if_pos h2]; rfl
    · rw [if_neg h2, if_neg h2]; rfl
theorem Sc_name_7 (ht : TextIs n x) (hr : RowIs N b n x) {st : Nat} : ∀ (k i : Nat), n - i < k → st ≤ i → i ≤ 65536 →
    F_Sc_scanName_7 w1 w2 (nI st) (nI n) N b k (nI i) = some (nI (ck (nameTok n x st (nmEnd n x i))), nI (nmEnd n x i - st))
  | 0, i, h, _, _ => by omega
  | k + 1, i, h, hi, hi2 => by
    have h1 := ht.le
    unfold F_Sc_scanName_7
    rw [Rw_at hr (by omega)]
    simp only [Option.bind_some]
    have hend : ∀ (hc : nmEnd n x i = i), F_Sc_scanName_65 w1 w2 (nI st) (nI n) N b (nI i) = some (nI (ck (nameTok n x st (nmEnd n x i))), nI (nmEnd n x i - st)) := by
      intro hc
      rw [hc]
      exact Sc_name_65 ht hr hi hi2
    by_cases h2 : i < n
    · have hx := ht.byte i h2
      rw [chr, if_pos h2]
      simp only [nm_app]
      rw [Sc_let hx, Sc_dig hx]
      have ih := Sc_name_7 ht hr (st := st) k (i + 1) (by omega) (by omega) (by omega)
      have hstep : isNmc (x i) = true → nmEnd n x i = nmEnd n x (i + 1) := by
        intro hc
        unfold nmEnd
        rw [show n - i = (n - (i + 1)) + 1 by omega, sw, if_pos hc]
      have hstop : isNmc (x i) = false → nmEnd n x i = i := by
        intro hc
        unfold nmEnd
        rw [show n - i = (n - (i + 1)) + 1 by omega, sw, hc]; rfl
      simp (disch := omega) only [lit_nI, nI_eq', nI_add', nI_le', nI_lt', nI_nn, nI_ge0, nI_clamp', nI_ne1, nI_ne2, nI_ne3, m1_lt, m1_le, m1_ge, m1_gt, if_false, if_true, Option.bind_some, nm_app]
      rw [if_neg (by omega)]
      cases c1 : isLet (x i)
      · rw [if_pos (by rfl)]
        cases c2 : isDig (x i)
        · rw [if_pos (by rfl)]
          by_cases c3 : x i = 95
          · rw [if_pos c3, ih, hstep (by unfold isNmc; rw [c1, c2, c3]; rfl)]
          · rw [if_neg c3]
            exact hend (hstop (by unfold isNmc; rw [c1, c2]; simpa using c3))
        · rw [if_neg (by decide), ih, hstep (by unfold isNmc; rw [c1, c2]; rfl)]
      · rw [if_neg (by decide), ih, hstep (by unfold isNmc; rw [c1]; rfl)]
    · simp (disch := omega) only [lit_nI, nI_eq', nI_add', nI_le', nI_lt', nI_nn, nI_ge0, nI_clamp', nI_ne1, nI_ne2, nI_ne3, m1_lt, m1_le, m1_ge, m1_gt, if_false, if_true, Option.bind_some, nm_app]
      rw [if_pos (by omega)]
      refine hend ?_
      unfold nmEnd
      rw [show n - i = 0 by omega, sw]
end Text
end

section
/-- the longest sign that stands where c and then d stand -/
def sgIx (c d : Nat) : Option Nat :=
  if c = 124 then (if d = 124 then some 0 else none)
  else if c = 38 then (if d = 38 then some 1 else none)
  else if c = 61 then some (if d = 61 then 2 else 26)
  else if c = 126 then some (if d = 61 then 3 else 19)
  else if c = 60 then some (if d = 61 then 4 else 6)
  else if c = 62 then some (if d = 61 then 5 else 7)
  else if c = 46 then (if d = 42 then some 14 else if d = 47 then some 15 else if d = 94 then some 17 else none)
  else if c = 58 then some 8 else if c = 43 then some 9 else if c = 45 then some 10 else if c = 42 then some 11 else if c = 47 then some 12 else if c = 92 then some 13 else if c = 94 then some 16 else if c = 39 then some 18 else if c = 40 then some 20 else if c = 41 then some 21 else if c = 91 then some 22 else if c = 93 then some 23 else if c = 44 then some 24 else if c = 59 then some 25 else none
theorem sgIx_other {c d : Nat} (h1 : d ≠ 124) (h2 : d ≠ 38) (h3 : d ≠ 61) (h4 : d ≠ 42) (h5 : d ≠ 47) (h6 : d ≠ 94) : sgIx c d = sgIx c 0 := by
  unfold sgIx
  simp only [h1, h2, h3, h4, h5, h6, if_false, show ¬ (0 = 124) by decide, show ¬ (0 = 38) by decide, show ¬ (0 = 61) by decide, show ¬ (0 = 42) by decide, show ¬ (0 = 47) by decide, show ¬ (0 = 94) by decide]
def sgK (o : Option Nat) : Nat := match o with | some s => 30 + s | none => 1
theorem Sc_signs_other {c p : Int32} (h1 : p ≠ 124) (h2 : p ≠ 38) (h3 : p ≠ 61) (h4 : p ≠ 42) (h5 : p ≠ 47) (h6 : p ≠ 94) : F_Sc_signs c p = F_Sc_signs c 0 := by
  unfold F_Sc_signs
  simp only [h1, h2, h3, h4, h5, h6, if_false, show ¬ ((0 : Int32) = 124) by decide, show ¬ ((0 : Int32) = 38) by decide, show ¬ ((0 : Int32) = 61) by decide, show ¬ ((0 : Int32) = 42) by decide, show ¬ ((0 : Int32) = 47) by decide, show ¬ ((0 : Int32) = 94) by decide]
set_option maxRecDepth 100000 in
theorem Sc_signs_dec : (List.range 256).all (fun c => [0, 124, 38, 61, 42, 47, 94].all (fun d => F_Sc_signs (nI c) (nI d) == nI (ck (sgK (sgIx c d))))) = true := by decide +kernel
theorem Sc_signs_n {c d : Nat} (hc : c < 256) (hd : d < 256) : F_Sc_signs (nI c) (nI d) = nI (ck (sgK (sgIx c d))) := by
  have h := List.all_eq_true.mp Sc_signs_dec c (List.mem_range.mpr hc)
  have h' := fun d hd => eq_of_beq (List.all_eq_true.mp h d hd)
  by_cases h1 : d = 124
  · subst h1; exact h' 124 (by decide)
  by_cases h2 : d = 38
  · subst h2; exact h' 38 (by decide)
  by_cases h3 : d = 61
  · subst h3; exact h' 61 (by decide)
  by_cases h4 : d = 42
  · subst h4; exact h' 42 (by decide)
  by_cases h5 : d = 47
  · subst h5; exact h' 47 (by decide)
  by_cases h6 : d = 94
  · subst h6; exact h' 94 (by decide)
  rw [sgIx_other h1 h2 h3 h4 h5 h6, Sc_signs_other]
  · exact h' 0 (by decide)
  all_goals (intro h; simp (disch := omega) only [lit_nI, nI_eq', nI_add', nI_le', nI_lt', nI_nn, nI_ge0, nI_clamp', nI_ne1, nI_ne2, nI_ne3, m1_lt, m1_le, m1_ge, m1_gt, if_false, if_true, Option.bind_some, nm_app] at h; omega)
theorem Sc_signs_m {c : Nat} (hc : c < 256) : F_Sc_signs (nI c) (-1) = nI (ck (sgK (sgIx c 0))) := by
  have h := List.all_eq_true.mp Sc_signs_dec c (List.mem_range.mpr hc)
  rw [Sc_signs_other]
  · exact eq_of_beq (List.all_eq_true.mp h 0 (by decide))
  all_goals decide
def sm2 (w : List Nat) (c d : Nat) : Bool := match w with
  | [] => true
  | [a] => c == a
  | a :: b :: _ => c == a && d == b
/-- the longest of some signs, the first of the longest -/
def bst (P : Nat → Bool) (L : Nat → Nat) : List Nat → Option Nat → Option Nat
  | [], o => o
  | s :: l, o => bst P L l (if P s then (match o with | none => some s | some t => if L s ≤ L t then some t else some s) else o)
theorem bst_cons {P : Nat → Bool} {L : Nat → Nat} {s : Nat} {l : List Nat} {o : Option Nat} : bst P L (s :: l) o = bst P L l (if P s then (match o with | none => some s | some t => if L s ≤ L t then some t else some s) else o) := rfl
def sgL (s : Nat) : Nat := (gBn (54 + s)).length
set_option maxRecDepth 100000 in
theorem sg_dec : (List.range 256).all (fun c => [0, 124, 38, 61, 42, 47, 94].all (fun d => bst (fun s => sm2 (gBn (54 + s)) c d) sgL (List.range 27) none == sgIx c d)) = true := by decide +kernel
set_option maxRecDepth 100000 in
theorem sg_two : (List.range 27).all (fun s => match gBn (54 + s) with | [_] => true | [_, b] => b == 124 || b == 38 || b == 61 || b == 42 || b == 47 || b == 94 | _ => false) = true := by decide +kernel
theorem sm2_other {s c d : Nat} (hs : s < 27) (h1 : d ≠ 124) (h2 : d ≠ 38) (h3 : d ≠ 61) (h4 : d ≠ 42) (h5 : d ≠ 47) (h6 : d ≠ 94) : sm2 (gBn (54 + s)) c d = sm2 (gBn (54 + s)) c 0 := by
  have h := List.all_eq_true.mp sg_two s (List.mem_range.mpr hs)
  unfold sm2
  match hg : gBn (54 + s), h with
  | [a], _ => rfl
  | [a, b], h =>
    simp only [Bool.or_eq_true, beq_iff_eq] at h
    have e1 : (d == b) = false := by simp only [beq_eq_false_iff_ne]; omega
    have e2 : (0 == b) = false := by simp only [beq_eq_false_iff_ne]; omega
    simp only [e1, e2]
theorem bst_congr {P Q : Nat → Bool} {L : Nat → Nat} : ∀ {l : List Nat} {o : Option Nat}, (∀ s ∈ l, P s = Q s) → bst P L l o = bst Q L l o
  | [], o, _ => rfl
  | s :: l, o, h => by
    unfold bst
    rw [h s (List.mem_cons_self ..), bst_congr (fun s hs => h s (List.mem_cons_of_mem _ hs))]
theorem sg_bst {c d : Nat} (hc : c < 256) : bst (fun s => sm2 (gBn (54 + s)) c d) sgL (List.range 27) none = sgIx c d := by
  have h := List.all_eq_true.mp sg_dec c (List.mem_range.mpr hc)
  have h' := fun d hd => eq_of_beq (List.all_eq_true.mp h d hd)
  by_cases h1 : d = 124
  · subst h1; exact h' 124 (by decide)
  by_cases h2 : d = 38
  · subst h2; exact h' 38 (by decide)
  by_cases h3 : d = 61
  · subst h3; exact h' 61 (by decide)
  by_cases h4 : d = 42
  · subst h4; exact h' 42 (by decide)
  by_cases h5 : d = 47
  · subst h5; exact h' 47 (by decide)
  by_cases h6 : d = 94
  · subst h6; exact h' 94 (by decide)
  rw [sgIx_other h1 h2 h3 h4 h5 h6, bst_congr (fun s hs => sm2_other (List.mem_range.mp hs) h1 h2 h3 h4 h5 h6)]
  exact h' 0 (by decide)
section Text
variable {n : Nat} {x : Nat → Nat}
variable {N : Nat} {b : Nat → Int32}
variable {M : Nat} {a : Nat → Int32}
variable {q1 q2 q3 q4 q5 q6 q7 q8 q9 w1 w2 w3 w4 : Int32}
theorem smt_sm2 {s st : Nat} (hs : s < 27) : smt n x (gBn (54 + s)) st = sm2 (gBn (54 + s)) (ltr n x st) (ltr n x (st + 1)) := by
  have h := List.all_eq_true.mp sg_two s (List.mem_range.mpr hs)
  unfold sm2
  match hg : gBn (54 + s), h with
  | [a], _ => simp [smt]
  | [a, b], h => simp [smt]
def oI (o : Option Nat) : Int32 := match o with | some s => nI s | none => -1
/-- a sign's end -/
def sgE (st : Nat) (o : Option Nat) : Nat := match o with | some s => st + sgL s | none => st + 1
theorem Mo_token_273 (ht : TextIs n x) (hm : NumIs M a n x) {st : Nat} {v2 le : Int32} (hst : st ≤ 65536) : ∀ (k w : Nat) (o : Option Nat), 27 - w < k → w ≤ 27 → (∀ t, o = some t → t < 27) →
    F_Mo_token_273 (nI st) q1 q2 q3 q4 q5 q6 q7 q8 (nI n) M a k (nI w) (oI o) v2 le = some (nI (sgK (bst (fun s => smt n x (gBn (54 + s)) st) sgL (List.range' w (27 - w)) o)), nI (sgE st (bst (fun s => smt n x (gBn (54 + s)) st) sgL (List.range' w (27 - w)) o)))
  | 0, w, o, h, _, _ => by omega
  | k + 1, w, o, h, hw, ho => by
    unfold F_Mo_token_273
    by_cases h1 : w < 27
    · have hl := gB_lt (show 54 + w < 85 by omega)
      have hls : sgL w = (gB (54 + w)).length := gBn_len _
      rw [show 27 - w = (27 - (w + 1)) + 1 by omega, List.range'_succ, bst_cons]
      simp only [inb_ok h1 (show w < 2 ^ 31 by omega), nI_clamp' (show w < 2 ^ 31 by omega), sin_ok (show 54 + w < 85 by omega)]
      rw [Mo_stands ht hm (by omega) hst]
      simp only [Option.bind_some]
      have hw1 : nI w + 1 = nI (w + 1) := nI_add' w 1
      rw [hw1]
      have hn27 : ¬ nI 27 ≤ nI w := by simp (disch := omega) only [lit_nI, nI_eq', nI_add', nI_le', nI_lt', nI_nn, nI_ge0, nI_clamp', nI_ne1, nI_ne2, nI_ne3, m1_lt, m1_le, m1_ge, m1_gt, if_false, if_true, Option.bind_some, nm_app]; omega
      rw [if_neg hn27]
      cases hp : smt n x (gBn (54 + w)) st with
      | false =>
        rw [if_pos (by rfl), if_neg (by decide)]
        exact Mo_token_273 ht hm hst k (w + 1) o (by omega) (by omega) ho
      | true =>
        rw [if_neg (by decide), if_pos rfl]
        cases o with
        | none =>
          rw [if_pos (by decide)]
          exact Mo_token_273 ht hm hst k (w + 1) (some w) (by omega) (by omega) (fun t ht => by cases ht; exact h1)
        | some t =>
          have ht2 := ho t rfl
          have hlt := gB_lt (show 54 + t < 85 by omega)
          have hlst : sgL t = (gB (54 + t)).length := gBn_len _
          rw [show oI (some t) = nI t from rfl, if_neg (by rw [nI_nn (by omega)]; exact id), inb_ok ht2 (by omega), nI_clamp' (by omega), sin_ok (by omega)]
          simp (disch := omega) only [lit_nI, nI_eq', nI_add', nI_le', nI_lt', nI_nn, nI_ge0, nI_clamp', nI_ne1, nI_ne2, nI_ne3, m1_lt, m1_le, m1_ge, m1_gt, if_false, if_true, Option.bind_some, nm_app]
          rw [hls, hlst]
          by_cases hc : (gB (54 + w)).length ≤ (gB (54 + t)).length
          · rw [if_pos hc, if_pos hc]
            exact Mo_token_273 ht hm hst k (w + 1) (some t) (by omega) (by omega) ho
          · rw [if_neg hc, if_neg hc]
            exact Mo_token_273 ht hm hst k (w + 1) (some w) (by omega) (by omega) (fun t ht => by cases ht; exact h1)
    · have : w = 27 := by omega
      subst this
      simp only [Nat.sub_self, List.range'_zero, bst]
      rw [if_pos (by decide)]
      unfold F_Mo_token_359
      cases o with
      | none =>
        rw [show oI none = -1 from rfl, if_neg (by decide), if_neg (by decide)]
        simp only [sgK, sgE, ← nI_add']; rfl
      | some t =>
        have ht2 := ho t rfl
        have hlst : sgL t = (gB (54 + t)).length := gBn_len _
        rw [show oI (some t) = nI t from rfl, if_pos (by rw [nI_ge0 (by omega)]; trivial), inb_ok ht2 (by omega), nI_clamp' (by omega), sin_ok (by omega), if_pos (by rw [nI_ge0 (by omega)]; trivial)]
        simp only [sgK, sgE, hlst, ← nI_add']; rfl
theorem Mo_sign (ht : TextIs n x) (hm : NumIs M a n x) {st : Nat} {v2 le : Int32} (hst : st ≤ 65536) : F_Mo_token_273 (nI st) q1 q2 q3 q4 q5 q6 q7 q8 (nI n) M a FU 0 (-1) v2 le = some (nI (sgK (sgIx (ltr n x st) (ltr n x (st + 1)))), nI (sgE st (sgIx (ltr n x st) (ltr n x (st + 1))))) := by
  have h := Mo_token_273 (q1 := q1) (q2 := q2) (q3 := q3) (q4 := q4) (q5 := q5) (q6 := q6) (q7 := q7) (q8 := q8) (v2 := v2) (le := le) ht hm hst FU 0 none (by unfold FU; omega) (by omega) (fun t h => by cases h)
  rw [range'_0, bst_congr (Q := fun s => sm2 (gBn (54 + s)) (ltr n x st) (ltr n x (st + 1))) (fun s hs => smt_sm2 (List.mem_range.mp hs)), sg_bst (ltr_lt ht st)] at h
  exact h
def txEnd (n : Nat) (x : Nat → Nat) (i : Nat) : Nat := sw isTxc x (n - i) i
def txTok (n : Nat) (x : Nat → Nat) (st e : Nat) : Nat := if ltr n x e = 34 ∧ e - st - 1 ≤ 4096 then 4 else 1
theorem Mo_token_234 (ht : TextIs n x) (hm : NumIs M a n x) {st e : Nat} {v2 le : Int32} (h : st < e) (he : e ≤ 65536) : F_Mo_token_234 (nI st) q1 q2 q3 q4 q5 q6 q7 q8 (nI n) M a (nI e) v2 le = some (nI (txTok n x st e), nI (e + 1)) := by
  unfold F_Mo_token_234 txTok
  rw [Mo_letter ht hm (by omega), nI_sub' (by omega), show (1 : Int32) = nI 1 from rfl, nI_sub' (by omega)]
  have := ltr_lt ht e
  simp (disch := omega) only [lit_nI, nI_eq', nI_add', nI_le', nI_lt', nI_nn, nI_ge0, nI_clamp', nI_ne1, nI_ne2, nI_ne3, m1_lt, m1_le, m1_ge, m1_gt, if_false, if_true, Option.bind_some, nm_app]
  by_cases h1 : ltr n x e = 34
  · rw [if_pos h1]
    by_cases h2 : 4096 < e - st - 1
    · rw [if_pos h2, if_neg (by omega)]
    · rw [if_neg h2, if_pos (by omega)]
  · rw [if_neg h1, if_neg (by omega)]
theorem Mo_token_198 (ht : TextIs n x) (hm : NumIs M a n x) {st : Nat} {v2 le : Int32} : ∀ (k i : Nat), n - i < k → st < i → i ≤ 65536 →
    F_Mo_token_198 (nI st) q1 q2 q3 q4 q5 q6 q7 q8 (nI n) M a k (nI i) v2 le = some (nI (txTok n x st (txEnd n x i)), nI (txEnd n x i + 1))
  | 0, i, h, _, _ => by omega
  | k + 1, i, h, hi, hi2 => by
    have h1 := ht.le
    unfold F_Mo_token_198
    rw [Mo_letter ht hm (by omega)]
    simp only [Option.bind_some]
    have hl := ltr_lt ht i
    have hend : txEnd n x i = i → F_Mo_token_234 (nI st) q1 q2 q3 q4 q5 q6 q7 q8 (nI n) M a (nI i) v2 le = some (nI (txTok n x st (txEnd n x i)), nI (txEnd n x i + 1)) := by
      intro hc; rw [hc]; exact Mo_token_234 ht hm hi hi2
    by_cases h2 : i < n
    · rw [ltr_in h2]
      have hx := ht.byte i h2
      have hstep : isTxc (x i) = true → txEnd n x i = txEnd n x (i + 1) := by
        intro hc
        unfold txEnd
        rw [show n - i = (n - (i + 1)) + 1 by omega, sw, if_pos hc]
      have hstop : isTxc (x i) = false → txEnd n x i = i := by
        intro hc
        unfold txEnd
        rw [show n - i = (n - (i + 1)) + 1 by omega, sw, hc]; rfl
      simp (disch := omega) only [lit_nI, nI_eq', nI_add', nI_le', nI_lt', nI_nn, nI_ge0, nI_clamp', nI_ne1, nI_ne2, nI_ne3, m1_lt, m1_le, m1_ge, m1_gt, if_false, if_true, Option.bind_some, nm_app]
      by_cases c1 : x i < 32
      · rw [if_pos c1]; exact hend (hstop (by unfold isTxc; simp; omega))
      rw [if_neg c1]
      by_cases c2 : 126 < x i
      · rw [if_pos c2]; exact hend (hstop (by unfold isTxc; simp; omega))
      rw [if_neg c2]
      by_cases c3 : x i = 34
      · rw [if_pos c3]; exact hend (hstop (by unfold isTxc; simp; omega))
      rw [if_neg c3, hstep (by unfold isTxc; simp; omega)]
      exact Mo_token_198 ht hm k (i + 1) (by omega) (by omega) (by omega)
    · rw [ltr_out h2, if_pos (by decide)]
      refine hend ?_
      unfold txEnd
      rw [show n - i = 0 by omega, sw]
theorem Sc_text_63 (ht : TextIs n x) (hr : RowIs N b n x) {st e : Nat} (h : st < e) (he : e ≤ 65536) : F_Sc_scanText_63 (nI st) (nI n) N b (nI e) = some (nI (txTok n x st e), nI (e + 1 - st)) := by
  have h0 := ht.le
  unfold F_Sc_scanText_63 F_Sc_scanText_96 txTok
  rw [Rw_at hr (by omega), nI_sub' (by omega), show (1 : Int32) = nI 1 from rfl, nI_sub' (by omega)]
  by_cases h2 : e < n
  · have hx := ht.byte e h2
    rw [chr, if_pos h2, ltr_in h2]
    simp (disch := omega) only [lit_nI, nI_eq', nI_add', nI_le', nI_lt', nI_nn, nI_ge0, nI_clamp', nI_ne1, nI_ne2, nI_ne3, m1_lt, m1_le, m1_ge, m1_gt, if_false, if_true, Option.bind_some, nm_app]
    rw [show e - st + 1 = e + 1 - st by omega]
    by_cases h1 : x e = 34
    · rw [if_pos h1]
      by_cases h2 : 4096 < e - st - 1
      · rw [if_pos h2, if_neg (by omega)]
      · rw [if_neg h2, if_pos (by omega)]
    · rw [if_neg h1, if_neg (by omega)]
  · rw [chr, if_neg h2, ltr_out h2]
    simp (disch := omega) only [lit_nI, nI_eq', nI_add', nI_le', nI_lt', nI_nn, nI_ge0, nI_clamp', nI_ne1, nI_ne2, nI_ne3, m1_lt, m1_le, m1_ge, m1_gt, if_false, if_true, Option.bind_some, nm_app]
    rw [show e - st + 1 = e + 1 - st by omega, if_neg (by omega)]
theorem Sc_text_7 (ht : TextIs n x) (hr : RowIs N b n x) {st : Nat} : ∀ (k i : Nat), n - i < k → st < i → i ≤ 65536 →
    F_Sc_scanText_7 (nI st) (nI n) N b k (nI i) = some (nI (txTok n x st (txEnd n x i)), nI (txEnd n x i + 1 - st))
  | 0, i, h, _, _ => by omega
  | k + 1, i, h, hi, hi2 => by
    have h1 := ht.le
    unfold F_Sc_scanText_7
    rw [Rw_at hr (by omega)]
    simp only [Option.bind_some]
    have hend : txEnd n x i = i → F_Sc_scanText_63 (nI st) (nI n) N b (nI i) = some (nI (txTok n x st (txEnd n x i)), nI (txEnd n x i + 1 - st)) := by
      intro hc; rw [hc]; exact Sc_text_63 ht hr hi hi2
    by_cases h2 : i < n
    · rw [chr, if_pos h2]
      have hx := ht.byte i h2
      have hstep : isTxc (x i) = true → txEnd n x i = txEnd n x (i + 1) := by
        intro hc
        unfold txEnd
        rw [show n - i = (n - (i + 1)) + 1 by omega, sw, if_pos hc]
      have hstop : isTxc (x i) = false → txEnd n x i = i := by
        intro hc
        unfold txEnd
        rw [show n - i = (n - (i + 1)) + 1 by omega, sw, hc]; rfl
      simp (disch := omega) only [lit_nI, nI_eq', nI_add', nI_le', nI_lt', nI_nn, nI_ge0, nI_clamp', nI_ne1, nI_ne2, nI_ne3, m1_lt, m1_le, m1_ge, m1_gt, if_false, if_true, Option.bind_some, nm_app]
      rw [if_neg (by omega)]
      by_cases c1 : x i < 32
      · rw [if_pos c1]; exact hend (hstop (by unfold isTxc; simp; omega))
      rw [if_neg c1]
      by_cases c2 : 126 < x i
      · rw [if_pos c2]; exact hend (hstop (by unfold isTxc; simp; omega))
      rw [if_neg c2]
      by_cases c3 : x i = 34
      · rw [if_pos c3]; exact hend (hstop (by unfold isTxc; simp; omega))
      rw [if_neg c3, hstep (by unfold isTxc; simp; omega)]
      exact Sc_text_7 ht hr k (i + 1) (by omega) (by omega) (by omega)
    · simp (disch := omega) only [lit_nI, nI_eq', nI_add', nI_le', nI_lt', nI_nn, nI_ge0, nI_clamp', nI_ne1, nI_ne2, nI_ne3, m1_lt, m1_le, m1_ge, m1_gt, if_false, if_true, Option.bind_some, nm_app]
      rw [if_pos (by omega)]
      refine hend ?_
      unfold txEnd
      rw [show n - i = 0 by omega, sw]
end Text
end

section
theorem i32_sub {a b : Nat} (ha : a < 2 ^ 30) (hb : b < 2 ^ 30) : (nI a - nI b).toInt = (a : Int) - b := by
  rw [Int32.toInt_sub, nI_toInt' (by omega), nI_toInt' (by omega)]
  exact Int.bmod_eq_of_le (by omega) (by omega)
theorem i32_neg {a : Nat} (ha : a < 2 ^ 30) : (-nI a).toInt = -(a : Int) := by
  rw [Int32.toInt_neg, nI_toInt' (by omega)]
  exact Int.bmod_eq_of_le (by omega) (by omega)
theorem i64_of {a : Int32} : a.toInt64.toInt = a.toInt := Int32.toInt_toInt64 a
theorem i64_add {a b : Int64} (h1 : -(2 ^ 62 : Int) ≤ a.toInt + b.toInt) (h2 : a.toInt + b.toInt < 2 ^ 62) : (a + b).toInt = a.toInt + b.toInt := by
  rw [Int64.toInt_add]
  exact Int.bmod_eq_of_le (by omega) (by omega)
theorem lg0 {a b : Int64} : (lg_cmp a b = 0) = (a.toInt = b.toInt) := by
  unfold lg_cmp
  apply propext
  by_cases h : a > b
  · rw [if_pos h]
    constructor
    · intro h; exact absurd h (by decide)
    · intro h2
      have : b.toInt < a.toInt := Int64.lt_iff_toInt_lt.mp h
      omega
  · rw [if_neg h]
    by_cases h2 : a = b
    · rw [if_pos h2]; simp [h2]
    · rw [if_neg h2]
      constructor
      · intro h; exact absurd h (by decide)
      · intro h3; exact absurd (Int64.toInt_inj.mp h3) h2
theorem lgge {a b : Int64} : (0 ≤ lg_cmp a b) = (b.toInt ≤ a.toInt) := by
  unfold lg_cmp
  apply propext
  by_cases h : a > b
  · rw [if_pos h]
    have : b.toInt < a.toInt := Int64.lt_iff_toInt_lt.mp h
    constructor
    · intro _; omega
    · intro _; decide
  · rw [if_neg h]
    have h4 : ¬ b.toInt < a.toInt := fun h5 => h (Int64.lt_iff_toInt_lt.mpr h5)
    by_cases h2 : a = b
    · rw [if_pos h2]; simp [h2]
    · rw [if_neg h2]
      constructor
      · intro h; exact absurd h (by decide)
      · intro h3
        have : a.toInt = b.toInt := by omega
        exact absurd (Int64.toInt_inj.mp this) h2
end

section
/-- the digits of 2^1024 - 2^970 -/
def bnd (i : Nat) : Nat := (gBn 14).getD i 48 - 48
theorem bnd_len : (gB 14).length = 309 := by decide +kernel
theorem bnd_all : (List.range 309).all (fun i => sch 14 (nI i) == nI (48 + bnd i) && bnd i < 10) = true := by decide +kernel
theorem bnd_at {i : Nat} (h : i < 309) : sch 14 (nI i) = nI (48 + bnd i) ∧ bnd i < 10 := by
  have := List.all_eq_true.mp bnd_all i (List.mem_range.mpr h)
  simpa using this
/-- where the mantissa's digits stand: whole digits st to p, then perhaps a point and digits to me -/
abbrev Num (n : Nat) (x : Nat → Nat) (st p me : Nat) : Prop := (st < p) ∧ (p ≤ me) ∧ (me ≤ n) ∧ (∀ i, st ≤ i → i < p → isDig (x i) = true) ∧ (p < me → x p = 46) ∧ (∀ i, p < i → i < me → isDig (x i) = true)
theorem Num.lt {n : Nat} {x : Nat → Nat} {st p me : Nat} (h : Num n x st p me) : st < p := h.1
theorem Num.pm {n : Nat} {x : Nat → Nat} {st p me : Nat} (h : Num n x st p me) : p ≤ me := h.2.1
theorem Num.mn {n : Nat} {x : Nat → Nat} {st p me : Nat} (h : Num n x st p me) : me ≤ n := h.2.2.1
theorem Num.dw {n : Nat} {x : Nat → Nat} {st p me : Nat} (h : Num n x st p me) : ∀ i, st ≤ i → i < p → isDig (x i) = true := h.2.2.2.1
theorem Num.pt {n : Nat} {x : Nat → Nat} {st p me : Nat} (h : Num n x st p me) : p < me → x p = 46 := h.2.2.2.2.1
theorem Num.df {n : Nat} {x : Nat → Nat} {st p me : Nat} (h : Num n x st p me) : ∀ i, p < i → i < me → isDig (x i) = true := h.2.2.2.2.2
theorem Num.ch {n : Nat} {x : Nat → Nat} {st p me : Nat} (h : Num n x st p me) {i : Nat} (h1 : st ≤ i) (h2 : i < me) : isDig (x i) = true ∨ (i = p ∧ x i = 46) := by
  by_cases c1 : i < p
  · exact Or.inl (h.dw i h1 c1)
  · by_cases c2 : i = p
    · subst c2; exact Or.inr ⟨rfl, h.pt h2⟩
    · exact Or.inl (h.df i (by omega) h2)
theorem isDig_iff {c : Nat} : isDig c = true ↔ 48 ≤ c ∧ c ≤ 57 := by unfold isDig; simp
/-- digits still to be compared from the i-th of the bound on -/
def restB (i : Nat) : Bool := (List.range' i (309 - i)).any (fun j => 0 < bnd j)
def cmpS (x : Nat → Nat) : Nat → Nat → Nat → Bool
  | 0, _, i => restB i
  | m + 1, q, i => if x q = 46 then cmpS x m (q + 1) i else if 309 ≤ i then false else if x q - 48 = bnd i then cmpS x m (q + 1) (i + 1) else decide (x q - 48 < bnd i)
theorem restB_step {i : Nat} (h : i < 309) : restB i = (decide (0 < bnd i) || restB (i + 1)) := by
  unfold restB
  rw [show 309 - i = (309 - (i + 1)) + 1 by omega, List.range'_succ, List.any_cons]
theorem restB_end {i : Nat} (h : 309 ≤ i) : restB i = false := by
  unfold restB
  rw [show 309 - i = 0 by omega]; rfl
theorem cmpS_end {x : Nat → Nat} : ∀ {m q i : Nat}, 309 ≤ i → cmpS x m q i = false
  | 0, q, i, h => restB_end h
  | m + 1, q, i, h => by
    unfold cmpS
    rw [cmpS_end h, if_pos h]; simp
section Text
variable {n : Nat} {x : Nat → Nat}
variable {N : Nat} {b : Nat → Int32}
variable {st p me : Nat}
variable {q1 q2 q3 q4 q5 q6 q7 q8 q9 w1 w2 w3 w4 : Int32}
theorem below_rest {K : Int32 → Int32 → Option Int32} {i q : Nat} (hi : i < 309) : F_Sc_isBelowTooLarge_49 (nI i) K (nI q) 48 = if 0 < bnd i then some 1 else K (nI (i + 1)) (nI (q + 1)) := by
  obtain ⟨e1, e2⟩ := bnd_at hi
  unfold F_Sc_isBelowTooLarge_49
  rw [bnd_len, inb_ok hi (by omega), inb_ok hi (by omega), e1]
  simp (disch := omega) only [lit_nI, nI_eq', nI_add', nI_le', nI_lt', nI_nn, nI_ge0, nI_clamp', nI_ne1, nI_ne2, nI_ne3, m1_lt, m1_le, m1_ge, m1_gt, if_false, if_true, Option.bind_some, nm_app]
  by_cases h : 0 < bnd i
  · rw [if_neg (by omega), if_neg (by omega), if_pos h]
  · rw [if_pos (by omega), if_neg h]
theorem below_dig {K : Int32 → Int32 → Option Int32} {i q c : Nat} (hi : i < 309) (hc : isDig c = true) : F_Sc_isBelowTooLarge_49 (nI i) K (nI q) (nI c) = if c - 48 = bnd i then K (nI (i + 1)) (nI (q + 1)) else some (bI (decide (c - 48 < bnd i))) := by
  obtain ⟨e1, e2⟩ := bnd_at hi
  rw [isDig_iff] at hc
  unfold F_Sc_isBelowTooLarge_49
  rw [bnd_len, inb_ok hi (by omega), inb_ok hi (by omega), e1]
  simp (disch := omega) only [lit_nI, nI_eq', nI_add', nI_le', nI_lt', nI_nn, nI_ge0, nI_clamp', nI_ne1, nI_ne2, nI_ne3, m1_lt, m1_le, m1_ge, m1_gt, if_false, if_true, Option.bind_some, nm_app]
  by_cases h : c - 48 = bnd i
  · rw [if_pos (by omega), if_pos h]
  · rw [if_neg (by omega), if_neg h]
    by_cases h2 : c - 48 < bnd i
    · rw [if_neg (by omega)]; simp [h2, bI]; rfl
    · rw [if_pos (by omega)]; simp [h2, bI]; rfl
theorem Sc_below (ht : TextIs n x) (hr : RowIs N b n x) (hn : Num n x st p me) : ∀ (k i q : Nat), 309 - i < k → i ≤ 309 → st ≤ q → q ≤ 65536 + 2 * i → F_Sc_isBelowTooLarge_5 (nI me) (nI n) N b k (nI i) (nI q) = some (bI (cmpS x (me - q) q i))
  | 0, i, q, h, _, _, _ => by omega
  | k + 1, i, q, h, hi, hq, hq2 => by
    have h1 := ht.le
    have h2 := hn.mn
    unfold F_Sc_isBelowTooLarge_5
    rw [bnd_len, Rw_at hr (by omega)]
    by_cases c1 : i < 309
    · rw [if_neg (show ¬ nI 309 ≤ nI i by simp (disch := omega) only [lit_nI, nI_eq', nI_add', nI_le', nI_lt', nI_nn, nI_ge0, nI_clamp', nI_ne1, nI_ne2, nI_ne3, m1_lt, m1_le, m1_ge, m1_gt, if_false, if_true, Option.bind_some, nm_app]; omega), Option.bind_some]
      unfold F_Sc_isBelowTooLarge_31
      have rest : ∀ q', me ≤ q' → q ≤ q' → q' ≤ q + 1 → F_Sc_isBelowTooLarge_49 (nI i) (F_Sc_isBelowTooLarge_5 (nI me) (nI n) N b k) (nI q') 48 = some (bI (restB i)) := by
        intro q' h3 h3' h4
        rw [below_rest c1, restB_step c1]
        by_cases c2 : 0 < bnd i
        · rw [if_pos c2]; simp [c2, bI]
        · rw [if_neg c2, Sc_below ht hr hn k (i + 1) (q' + 1) (by omega) (by omega) (by omega) (by omega), show me - (q' + 1) = 0 by omega]
          simp only [cmpS, c2, decide_false, Bool.false_or]
      by_cases c2 : q < me
      · have hx := ht.byte q (by omega)
        rw [chr, if_pos (show q < n by omega)]
        rcases hn.ch hq c2 with c3 | ⟨c3, c4⟩
        · have c5 := isDig_iff.mp c3
          rw [if_neg (show ¬ nI (x q) = 46 by simp (disch := omega) only [lit_nI, nI_eq', nI_add', nI_le', nI_lt', nI_nn, nI_ge0, nI_clamp', nI_ne1, nI_ne2, nI_ne3, m1_lt, m1_le, m1_ge, m1_gt, if_false, if_true, Option.bind_some, nm_app]; omega), if_neg (show ¬ nI me ≤ nI q by simp (disch := omega) only [lit_nI, nI_eq', nI_add', nI_le', nI_lt', nI_nn, nI_ge0, nI_clamp', nI_ne1, nI_ne2, nI_ne3, m1_lt, m1_le, m1_ge, m1_gt, if_false, if_true, Option.bind_some, nm_app]; omega), Rw_at hr (by omega), Option.bind_some, chr, if_pos (show q < n by omega), below_dig c1 c3, show me - q = (me - (q + 1)) + 1 by omega, cmpS, if_neg (show ¬ x q = 46 by omega), if_neg (show ¬ 309 ≤ i by omega)]
          by_cases c6 : x q - 48 = bnd i
          · rw [if_pos c6, if_pos c6]
            exact Sc_below ht hr hn k (i + 1) (q + 1) (by omega) (by omega) (by omega) (by omega)
          · rw [if_neg c6, if_neg c6]
        · rw [c4, if_pos (by decide), show nI q + 1 = nI (q + 1) from nI_add' q 1, show me - q = (me - (q + 1)) + 1 by omega, cmpS, if_pos c4]
          by_cases c7 : q + 1 < me
          · have c8 := hn.df (q + 1) (by omega) c7
            have c5 := isDig_iff.mp c8
            rw [if_neg (show ¬ nI me ≤ nI (q + 1) by simp (disch := omega) only [lit_nI, nI_eq', nI_add', nI_le', nI_lt', nI_nn, nI_ge0, nI_clamp', nI_ne1, nI_ne2, nI_ne3, m1_lt, m1_le, m1_ge, m1_gt, if_false, if_true, Option.bind_some, nm_app]; omega), Rw_at hr (by omega), Option.bind_some, chr, if_pos (show q + 1 < n by omega), below_dig c1 c8, show me - (q + 1) = (me - (q + 2)) + 1 by omega, cmpS, if_neg (show ¬ x (q + 1) = 46 by omega), if_neg (show ¬ 309 ≤ i by omega)]
            by_cases c6 : x (q + 1) - 48 = bnd i
            · rw [if_pos c6, if_pos c6]
              exact Sc_below ht hr hn k (i + 1) (q + 2) (by omega) (by omega) (by omega) (by omega)
            · rw [if_neg c6, if_neg c6]
          · rw [if_pos (show nI me ≤ nI (q + 1) by simp (disch := omega) only [lit_nI, nI_eq', nI_add', nI_le', nI_lt', nI_nn, nI_ge0, nI_clamp', nI_ne1, nI_ne2, nI_ne3, m1_lt, m1_le, m1_ge, m1_gt, if_false, if_true, Option.bind_some, nm_app]; omega), rest (q + 1) (by omega) (by omega) (by omega), show me - (q + 1) = 0 by omega, cmpS]
      · rw [show me - q = 0 by omega, cmpS]
        have e1 : nI q + 1 = nI (q + 1) := nI_add' q 1
        rw [e1, if_pos (show nI me ≤ nI (q + 1) by simp (disch := omega) only [lit_nI, nI_eq', nI_add', nI_le', nI_lt', nI_nn, nI_ge0, nI_clamp', nI_ne1, nI_ne2, nI_ne3, m1_lt, m1_le, m1_ge, m1_gt, if_false, if_true, Option.bind_some, nm_app]; omega), if_pos (show nI me ≤ nI q by simp (disch := omega) only [lit_nI, nI_eq', nI_add', nI_le', nI_lt', nI_nn, nI_ge0, nI_clamp', nI_ne1, nI_ne2, nI_ne3, m1_lt, m1_le, m1_ge, m1_gt, if_false, if_true, Option.bind_some, nm_app]; omega), rest (q + 1) (by omega) (by omega) (by omega), rest q (by omega) (by omega) (by omega), ite_self]
    · rw [if_pos (by simp (disch := omega) only [lit_nI, nI_eq', nI_add', nI_le', nI_lt', nI_nn, nI_ge0, nI_clamp', nI_ne1, nI_ne2, nI_ne3, m1_lt, m1_le, m1_ge, m1_gt, if_false, if_true, Option.bind_some, nm_app]; omega), cmpS_end (by omega)]; rfl
end Text
end

section
abbrev Exp (n : Nat) (x : Nat → Nat) (me stop : Nat) : Prop := (stop ≤ n) ∧ (me ≤ stop) ∧ (me < stop → me + 1 < stop ∧ x me = 101 ∧ (isDig (x (me + 1)) = true ∨ x (me + 1) = 43 ∨ x (me + 1) = 45) ∧ ∀ k, me + 1 < k → k < stop → isDig (x k) = true)
theorem Exp.le {n : Nat} {x : Nat → Nat} {me stop : Nat} (h : Exp n x me stop) : stop ≤ n := h.1
theorem Exp.ge {n : Nat} {x : Nat → Nat} {me stop : Nat} (h : Exp n x me stop) : me ≤ stop := h.2.1
theorem Exp.sh {n : Nat} {x : Nat → Nat} {me stop : Nat} (h : Exp n x me stop) : me < stop → me + 1 < stop ∧ x me = 101 ∧ (isDig (x (me + 1)) = true ∨ x (me + 1) = 43 ∨ x (me + 1) = 45) ∧ ∀ k, me + 1 < k → k < stop → isDig (x k) = true := h.2.2
def cexp (x : Nat → Nat) : Nat → Nat → Nat → Nat
  | 0, _, v => v
  | m + 1, q, v => cexp x m (q + 1) (if isDig (x q) then min 1000000 (v * 10 + x q - 48) else v)
theorem cexp_le {x : Nat → Nat} : ∀ {m q v : Nat}, v ≤ 1000000 → cexp x m q v ≤ 1000000
  | 0, q, v, h => h
  | m + 1, q, v, h => by
    unfold cexp
    exact cexp_le (by split <;> omega)
def pfz (x : Nat → Nat) (me st : Nat) : Nat := sw (fun c => c == 48 || c == 46) x (me - st) st
def expE (n : Nat) (x : Nat → Nat) (me stop : Nat) : Int := if ltr n x (me + 1) = 45 then -(cexp x (stop - (me + 1)) (me + 1) 0 : Int) else (cexp x (stop - (me + 1)) (me + 1) 0 : Int)
def finW (p pf : Nat) : Int := if pf < p then (p : Int) - pf else (p : Int) + 1 - pf
def finS (n : Nat) (x : Nat → Nat) (st p me stop : Nat) : Bool :=
  if pfz x me st = me then true
  else if finW p (pfz x me st) + expE n x me stop = 309 then cmpS x (me - pfz x me st) (pfz x me st) 0
  else decide (finW p (pfz x me st) + expE n x me stop < 309)
theorem mn_nat {a b : Nat} (ha : a < 2 ^ 31) (hb : b < 2 ^ 31) : mn (nI a) (nI b) = nI (min a b) := by
  unfold mn
  simp (disch := omega) only [lit_nI, nI_eq', nI_add', nI_le', nI_lt', nI_nn, nI_ge0, nI_clamp', nI_ne1, nI_ne2, nI_ne3, m1_lt, m1_le, m1_ge, m1_gt, if_false, if_true, Option.bind_some, nm_app]
  by_cases h : b < a
  · rw [if_pos h, Nat.min_eq_right (by omega)]
  · rw [if_neg h, Nat.min_eq_left (by omega)]
section Text
variable {n : Nat} {x : Nat → Nat}
variable {N : Nat} {b : Nat → Int32}
variable {st p me stop : Nat}
variable {q1 q2 q3 q4 q5 q6 q7 q8 q9 w1 w2 w3 w4 : Int32}
theorem Sc_exp_7 (ht : TextIs n x) (hr : RowIs N b n x) (he : Exp n x me stop) : ∀ (k q v : Nat), stop - q < k → me < q → q ≤ 65537 → v ≤ 1000000 → F_Sc_exponent_7 (nI me) (nI stop) (nI n) N b k (nI q) (nI v) = some (if ltr n x (me + 1) = 45 then -nI (cexp x (stop - q) q v) else nI (cexp x (stop - q) q v))
  | 0, q, v, h, _, _, _ => by omega
  | k + 1, q, v, h, h1, h2, h3 => by
    have h4 := ht.le
    have h5 := he.le
    unfold F_Sc_exponent_7
    rw [show nI me + 1 = nI (me + 1) from nI_add' me 1, Rw_at hr (by omega), Rw_at hr (by omega), Option.bind_some, Option.bind_some]
    by_cases c1 : q < stop
    · have hx := ht.byte q (by omega)
      rw [if_neg (show ¬ nI stop ≤ nI q by simp (disch := omega) only [lit_nI, nI_eq', nI_add', nI_le', nI_lt', nI_nn, nI_ge0, nI_clamp', nI_ne1, nI_ne2, nI_ne3, m1_lt, m1_le, m1_ge, m1_gt, if_false, if_true, Option.bind_some, nm_app]; omega), chr, if_pos (show q < n by omega), nm_app, Sc_dig hx, Option.bind_some, show nI q + 1 = nI (q + 1) from nI_add' q 1, show stop - q = (stop - (q + 1)) + 1 by omega, cexp]
      cases c2 : isDig (x q) with
      | false =>
        rw [if_pos bI_f]
        exact Sc_exp_7 ht hr he k (q + 1) v (by omega) (by omega) (by omega) h3
      | true =>
        have c3 := isDig_iff.mp c2
        rw [if_neg bI_t, show (10 : Int32) = nI 10 from rfl, nI_mul', nI_add', show (48 : Int32) = nI 48 from rfl, nI_sub' (by omega), show (1000000 : Int32) = nI 1000000 from rfl, mn_nat (by omega) (by omega)]
        exact Sc_exp_7 ht hr he k (q + 1) _ (by omega) (by omega) (by omega) (by omega)
    · rw [if_pos (show nI stop ≤ nI q by simp (disch := omega) only [lit_nI, nI_eq', nI_add', nI_le', nI_lt', nI_nn, nI_ge0, nI_clamp', nI_ne1, nI_ne2, nI_ne3, m1_lt, m1_le, m1_ge, m1_gt, if_false, if_true, Option.bind_some, nm_app]; omega), show stop - q = 0 by omega, cexp]
      by_cases c2 : me + 1 < n
      · have hx := ht.byte _ c2
        rw [chr, if_pos c2, ltr_in c2]
        simp (disch := omega) only [lit_nI, nI_eq', nI_add', nI_le', nI_lt', nI_nn, nI_ge0, nI_clamp', nI_ne1, nI_ne2, nI_ne3, m1_lt, m1_le, m1_ge, m1_gt, if_false, if_true, Option.bind_some, nm_app]
        by_cases c3 : x (me + 1) = 45
        · rw [if_pos c3, if_pos c3]
        · rw [if_neg c3, if_neg c3]
      · rw [chr, if_neg c2, ltr_out c2, if_neg (by decide), if_neg (by decide)]
theorem Sc_exp (ht : TextIs n x) (hr : RowIs N b n x) (he : Exp n x me stop) (hm : me ≤ 65536) : ∃ e : Int32, F_Sc_exponent (nI me) (nI stop) w1 w2 w3 w4 (nI n) N b = some e ∧ e.toInt = expE n x me stop := by
  have h := Sc_exp_7 ht hr he FU (me + 1) 0 (by have := he.le; have := ht.le; unfold FU; omega) (by omega) (by omega) (by omega)
  unfold F_Sc_exponent
  rw [show nI me + 1 = nI (me + 1) from nI_add' me 1, show (0 : Int32) = nI 0 from rfl, h]
  refine ⟨_, rfl, ?_⟩
  have hl : cexp x (stop - (me + 1)) (me + 1) 0 ≤ 1000000 := cexp_le (by omega)
  unfold expE
  by_cases c : ltr n x (me + 1) = 45
  · rw [if_pos c, if_pos c, i32_neg (by omega)]
  · rw [if_neg c, if_neg c, nI_toInt' (by omega)]
theorem expE_le : -1000000 ≤ expE n x me stop ∧ expE n x me stop ≤ 1000000 := by
  have hl : cexp x (stop - (me + 1)) (me + 1) 0 ≤ 1000000 := cexp_le (by omega)
  unfold expE
  split <;> omega
theorem pfz_le (h : st ≤ me) : st ≤ pfz x me st ∧ pfz x me st ≤ me := by
  have := sw_le (fun c => c == 48 || c == 46) x (me - st) st
  unfold pfz
  omega
theorem Sc_fin_82 (ht : TextIs n x) (hr : RowIs N b n x) (hn : Num n x st p me) (he : Exp n x me stop) {pf v3 : Nat} {t0 : Int32} (h0 : t0.toInt = finW p pf) (hpf : pfz x me st = pf) (hne : pf ≠ me) : F_Sc_isFinite_82 (nI me) (nI stop) w1 w2 w3 w4 (nI n) N b (nI pf) (nI v3) t0 = some (bI (finS n x st p me stop)) := by
  have h4 := ht.le
  have h5 := hn.mn
  have h6 := hn.pm
  have h7 := hn.lt
  have hl := pfz_le (x := x) (st := st) (me := me) (by omega)
  rw [hpf] at hl
  obtain ⟨e, h1, h2⟩ := Sc_exp (w1 := w1) (w2 := w2) (w3 := w3) (w4 := w4) ht hr he (by omega)
  unfold F_Sc_isFinite_82
  rw [h1, Option.bind_some]
  have h3 := expE_le (n := n) (x := x) (me := me) (stop := stop)
  have hW : -70000 ≤ finW p pf ∧ finW p pf ≤ 70000 := by unfold finW; split <;> omega
  have hs : (t0.toInt64 + e.toInt64).toInt = finW p pf + expE n x me stop := by
    rw [i64_add (by rw [i64_of, i64_of]; omega) (by rw [i64_of, i64_of]; omega), i64_of, i64_of, h0, h2]
  have hb : ((nI (gB 14).length).toInt64).toInt = 309 := by rw [i64_of, bnd_len]; decide
  simp only [lg0, lgge, hs, hb]
  unfold finS
  rw [hpf, if_neg hne]
  by_cases c1 : finW p pf + expE n x me stop = 309
  · rw [if_pos c1, if_pos c1]
    unfold F_Sc_isBelowTooLarge
    rw [show (0 : Int32) = nI 0 from rfl, Sc_below ht hr hn FU 0 pf (by unfold FU; omega) (by omega) (by omega) (by omega)]
    rfl
  · rw [if_neg c1, if_neg c1]
    by_cases c2 : finW p pf + expE n x me stop < 309
    · rw [if_neg (by omega)]; simp [c2, bI]
    · rw [if_pos (by omega)]; simp [c2, bI]
theorem Sc_fin_55 (ht : TextIs n x) (hr : RowIs N b n x) (hn : Num n x st p me) (he : Exp n x me stop) {pf : Nat} (hpf : pfz x me st = pf) : F_Sc_isFinite_55 (nI me) (nI stop) w1 w2 w3 w4 (nI n) N b (nI pf) (nI p) = some (bI (finS n x st p me stop)) := by
  have h4 := ht.le
  have h5 := hn.mn
  have h6 := hn.pm
  have h7 := hn.lt
  have hl := pfz_le (x := x) (st := st) (me := me) (by omega)
  rw [hpf] at hl
  unfold F_Sc_isFinite_55
  by_cases c1 : pf = me
  · rw [if_pos (by rw [c1])]
    unfold finS
    rw [hpf, if_pos c1]; rfl
  · rw [if_neg (by simp (disch := omega) only [lit_nI, nI_eq', nI_add', nI_le', nI_lt', nI_nn, nI_ge0, nI_clamp', nI_ne1, nI_ne2, nI_ne3, m1_lt, m1_le, m1_ge, m1_gt, if_false, if_true, Option.bind_some, nm_app]; exact c1)]
    by_cases c2 : p ≤ pf
    · rw [if_pos (by simp (disch := omega) only [lit_nI, nI_eq', nI_add', nI_le', nI_lt', nI_nn, nI_ge0, nI_clamp', nI_ne1, nI_ne2, nI_ne3, m1_lt, m1_le, m1_ge, m1_gt, if_false, if_true, Option.bind_some, nm_app]; exact c2)]
      refine Sc_fin_82 ht hr hn he ?_ hpf c1
      rw [show nI p + 1 = nI (p + 1) from nI_add' p 1, i32_sub (by omega) (by omega)]
      unfold finW
      rw [if_neg (by omega)]
      omega
    · rw [if_neg (by simp (disch := omega) only [lit_nI, nI_eq', nI_add', nI_le', nI_lt', nI_nn, nI_ge0, nI_clamp', nI_ne1, nI_ne2, nI_ne3, m1_lt, m1_le, m1_ge, m1_gt, if_false, if_true, Option.bind_some, nm_app]; exact c2)]
      refine Sc_fin_82 ht hr hn he ?_ hpf c1
      rw [i32_sub (by omega) (by omega)]
      unfold finW
      rw [if_pos (by omega)]
theorem Sc_fin_15 (ht : TextIs n x) (hr : RowIs N b n x) (hn : Num n x st p me) (he : Exp n x me stop) : ∀ (k q : Nat), me - q < k → st ≤ q → q ≤ me → sw (fun c => c == 48 || c == 46) x (me - q) q = pfz x me st → F_Sc_isFinite_15 (nI me) (nI stop) w1 w2 w3 w4 (nI n) N b k (nI q) (nI p) = some (bI (finS n x st p me stop))
  | 0, q, h, _, _, _ => by omega
  | k + 1, q, h, h1, h2, h3 => by
    have h4 := ht.le
    have h5 := hn.mn
    unfold F_Sc_isFinite_15
    by_cases c1 : q < me
    · have hx := ht.byte q (by omega)
      rw [if_neg (show ¬ nI me ≤ nI q by simp (disch := omega) only [lit_nI, nI_eq', nI_add', nI_le', nI_lt', nI_nn, nI_ge0, nI_clamp', nI_ne1, nI_ne2, nI_ne3, m1_lt, m1_le, m1_ge, m1_gt, if_false, if_true, Option.bind_some, nm_app]; omega), Rw_at hr (by omega), Option.bind_some, Option.bind_some, chr, if_pos (show q < n by omega), show nI q + 1 = nI (q + 1) from nI_add' q 1]
      rw [show me - q = (me - (q + 1)) + 1 by omega, sw] at h3
      simp (disch := omega) only [lit_nI, nI_eq', nI_add', nI_le', nI_lt', nI_nn, nI_ge0, nI_clamp', nI_ne1, nI_ne2, nI_ne3, m1_lt, m1_le, m1_ge, m1_gt, if_false, if_true, Option.bind_some, nm_app]
      by_cases c2 : x q = 48
      · rw [if_pos c2]
        rw [if_pos (by simp [c2])] at h3
        exact Sc_fin_15 ht hr hn he k (q + 1) (by omega) (by omega) (by omega) h3
      rw [if_neg c2]
      by_cases c3 : x q = 46
      · rw [if_pos c3]
        rw [if_pos (by simp [c3])] at h3
        exact Sc_fin_15 ht hr hn he k (q + 1) (by omega) (by omega) (by omega) h3
      rw [if_neg c3]
      rw [if_neg (by simp [c2, c3])] at h3
      exact Sc_fin_55 ht hr hn he h3.symm
    · rw [if_pos (show nI me ≤ nI q by simp (disch := omega) only [lit_nI, nI_eq', nI_add', nI_le', nI_lt', nI_nn, nI_ge0, nI_clamp', nI_ne1, nI_ne2, nI_ne3, m1_lt, m1_le, m1_ge, m1_gt, if_false, if_true, Option.bind_some, nm_app]; omega)]
      rw [show me - q = 0 by omega, sw] at h3
      exact Sc_fin_55 ht hr hn he h3.symm
theorem Sc_isFinite (ht : TextIs n x) (hr : RowIs N b n x) (hn : Num n x st p me) (he : Exp n x me stop) (hp : digEnd n x st = p) : F_Sc_isFinite (nI me) (nI stop) w1 w2 (nI st) w4 (nI n) N b = some (bI (finS n x st p me stop)) := by
  have h4 := ht.le
  have h5 := hn.mn
  have h6 := hn.pm
  have h7 := hn.lt
  unfold F_Sc_isFinite
  rw [Sc_digitsEnd ht hr (by omega), Option.bind_some, hp]
  exact Sc_fin_15 ht hr hn he FU st (by unfold FU; omega) (by omega) (by omega) rfl
end Text
end

section
def lI (n : Nat) : Int64 := Int64.ofNat n
theorem lI_toInt {n : Nat} (h : n < 2 ^ 62) : (lI n).toInt = (n : Int) := by
  unfold lI
  rw [Int64.toInt_ofNat']
  have e : Int64.size = 18446744073709551616 := rfl
  rw [e]
  exact Int.bmod_eq_of_le (by omega) (by omega)
theorem i64_sub {a b : Int64} (h1 : -(2 ^ 62 : Int) ≤ a.toInt - b.toInt) (h2 : a.toInt - b.toInt < 2 ^ 62) : (a - b).toInt = a.toInt - b.toInt := by
  rw [Int64.toInt_sub]
  exact Int.bmod_eq_of_le (by omega) (by omega)
theorem i64_neg {a : Int64} (h1 : -(2 ^ 62 : Int) ≤ a.toInt) (h2 : a.toInt < 2 ^ 62) : (-a).toInt = -a.toInt := by
  rw [Int64.toInt_neg]
  exact Int.bmod_eq_of_le (by omega) (by omega)
theorem lI_mul (a b : Nat) : lI a * lI b = lI (a * b) := (Int64.ofNat_mul a b).symm
theorem lI_add (a b : Nat) : lI a + lI b = lI (a + b) := (Int64.ofNat_add a b).symm
theorem lI_sub {a b : Nat} (h : b ≤ a) : lI a - lI b = lI (a - b) := by
  have : lI (a - b) + lI b = lI a := by rw [lI_add]; congr 1; omega
  rw [← this, Int64.add_sub_cancel]
theorem nI_64 {a : Nat} (h : a < 2 ^ 31) : (nI a).toInt64 = lI a := by
  apply Int64.toInt_inj.mp
  rw [i64_of, nI_toInt' h, lI_toInt (by omega)]
def mexp (x : Nat → Nat) : Nat → Nat → Nat → Nat
  | 0, _, v => v
  | m + 1, q, v => mexp x m (q + 1) (if isDig (x q) && decide (v < 10000000) then 10 * v + x q - 48 else v)
theorem mc_exp {x : Nat → Nat} : ∀ {m q v w : Nat}, (v = w ∧ v < 1000000) ∨ (v = 1000000 ∧ 1000000 ≤ w) → w < 100000000 → (cexp x m q v = mexp x m q w ∧ cexp x m q v < 1000000 ∨ cexp x m q v = 1000000 ∧ 1000000 ≤ mexp x m q w) ∧ mexp x m q w < 100000000
  | 0, q, v, w, h, h2 => ⟨h, h2⟩
  | m + 1, q, v, w, h, h2 => by
    unfold cexp mexp
    cases c : isDig (x q) with
    | false => simp only [Bool.false_and, Bool.false_eq_true, if_false]; exact mc_exp h h2
    | true =>
      have c2 := isDig_iff.mp c
      simp only [Bool.true_and, decide_eq_true_eq, if_true]
      refine mc_exp ?_ ?_
      · by_cases c3 : w < 10000000
        · rw [if_pos c3]; omega
        · rw [if_neg c3]; omega
      · by_cases c3 : w < 10000000
        · rw [if_pos c3]; omega
        · rw [if_neg c3]; omega
/-- the digits before place q -/
def idx (st p q : Nat) : Nat := if q ≤ p then q - st else q - st - 1
section Text
variable {n : Nat} {x : Nat → Nat}
variable {M : Nat} {a : Nat → Int32}
variable {st p me stop : Nat}
variable {q1 q2 q3 q4 q5 q6 q7 q8 q9 : Int32}
variable {B : Nat → Int32}
theorem Mo_363 (hB : ∀ i, i < 309 → B (308 - i) = nI (bnd i)) {z12 z9 z8 z7 z6 z3 : Int32} {z10 z4 : Int64} : ∀ (k i : Nat), 309 - i < k → i ≤ 308 → F_Mo_isFinite_363 309 B k (nI (308 - i)) z12 z10 z9 z8 z7 z6 z4 z3 = some (bI (restB i))
  | 0, i, h, _ => by omega
  | k + 1, i, h, hi => by
    obtain ⟨e1, e2⟩ := bnd_at (show i < 309 by omega)
    unfold F_Mo_isFinite_363
    rw [if_neg (show ¬ nI (308 - i) < 0 by rw [nI_nn (by omega)]; exact id), inb_ok (by omega) (by omega), nI_clamp' (by omega), hB i (by omega), restB_step (by omega)]
    by_cases c : 0 < bnd i
    · rw [if_neg (by simp (disch := omega) only [lit_nI, nI_eq', nI_add', nI_le', nI_lt', nI_nn, nI_ge0, nI_clamp', nI_ne1, nI_ne2, nI_ne3, m1_lt, m1_le, m1_ge, m1_gt, if_false, if_true, Option.bind_some, nm_app]; omega)]; simp [c, bI]
    · rw [if_pos (by simp (disch := omega) only [lit_nI, nI_eq', nI_add', nI_le', nI_lt', nI_nn, nI_ge0, nI_clamp', nI_ne1, nI_ne2, nI_ne3, m1_lt, m1_le, m1_ge, m1_gt, if_false, if_true, Option.bind_some, nm_app]; omega)]
      simp only [c, decide_false, Bool.false_or]
      by_cases c2 : i = 308
      · subst c2
        cases k with
        | zero => omega
        | succ k =>
          unfold F_Mo_isFinite_363
          rw [if_pos (by decide), restB_end (by omega)]; rfl
      · rw [show nI (308 - i) + -1 = nI (308 - (i + 1)) by
          rw [show (-1 : Int32) = -nI 1 from rfl, ← Int32.sub_eq_add_neg, nI_sub' (by omega)]; congr 1]
        exact Mo_363 hB k (i + 1) (by omega) (by omega)
theorem Mo_363' (hB : ∀ i, i < 309 → B (308 - i) = nI (bnd i)) {z12 z9 z8 z7 z6 z3 : Int32} {z10 z4 : Int64} {i : Nat} (hi : i < 100000) : F_Mo_isFinite_363 309 B FU (308 - nI i) z12 z10 z9 z8 z7 z6 z4 z3 = some (bI (restB i)) := by
  by_cases c : i ≤ 308
  · rw [show (308 : Int32) = nI 308 from rfl, nI_sub' c]
    exact Mo_363 hB FU i (by unfold FU; omega) c
  · rw [restB_end (by omega)]
    show F_Mo_isFinite_363 309 B (999999 + 1) _ _ _ _ _ _ _ _ _ = _
    unfold F_Mo_isFinite_363
    rw [if_pos]
    · rfl
    · rw [Int32.lt_iff_toInt_lt, show (308 : Int32) = nI 308 from rfl, i32_sub (by omega) (by omega)]
      show _ < (0 : Int)
      omega
theorem idx_dig {q : Nat} (h0 : st < p) (h1 : st ≤ q) (h : q ≠ p) : idx st p (q + 1) = idx st p q + 1 := by
  unfold idx
  by_cases c : q < p
  · rw [if_pos (by omega), if_pos (by omega)]; omega
  · rw [if_neg (by omega), if_neg (by omega)]; omega
theorem idx_pt (h1 : st < p) : idx st p (p + 1) = idx st p p := by
  unfold idx
  rw [if_neg (by omega), if_pos (by omega)]; omega
theorem idx_mono {q r : Nat} (h1 : st < p) (h : q ≤ r) : idx st p q ≤ idx st p r := by
  unfold idx
  split <;> split <;> omega
theorem idx_le {q : Nat} : idx st p q ≤ q := by unfold idx; split <;> omega
/-- the digits before the first that isn't 0 -/
theorem pfz_lt {q : Nat} (h1 : st ≤ q) (h2 : q < pfz x me st) : x q = 48 ∨ x q = 46 := by
  have : ∀ m i, i ≤ q → q < sw (fun c => c == 48 || c == 46) x m i → x q = 48 ∨ x q = 46 := by
    intro m
    induction m with
    | zero => intro i h3 h4; unfold sw at h4; omega
    | succ m ih =>
      intro i h3 h4
      unfold sw at h4
      by_cases c : (x i == 48 || x i == 46) = true
      · rw [if_pos c] at h4
        by_cases c2 : i = q
        · subst c2; simpa using c
        · exact ih (i + 1) (by omega) h4
      · rw [if_neg c] at h4; omega
  exact this _ _ h1 h2
theorem pfz_at (h : st ≤ me) (h2 : pfz x me st < me) : x (pfz x me st) ≠ 48 ∧ x (pfz x me st) ≠ 46 := by
  have : ∀ m i, sw (fun c => c == 48 || c == 46) x m i < i + m → x (sw (fun c => c == 48 || c == 46) x m i) ≠ 48 ∧ x (sw (fun c => c == 48 || c == 46) x m i) ≠ 46 := by
    intro m
    induction m with
    | zero => intro i h3; unfold sw at h3; omega
    | succ m ih =>
      intro i h3
      unfold sw at h3 ⊢
      by_cases c : (x i == 48 || x i == 46) = true
      · rw [if_pos c] at h3 ⊢
        exact ih (i + 1) (by omega)
      · rw [if_neg c]; simpa using c
  exact this _ _ (by unfold pfz at h2; omega)
/-- the comparison of the digits -/
theorem Mo_246 (ht : TextIs n x) (hm : NumIs M a n x) (hn : Num n x st p me) (hB : ∀ i, i < 309 → B (308 - i) = nI (bnd i)) {z9 z7 z6 : Int32} {z10 z4 : Int64} (hpf : pfz x me st < me) : ∀ (k q : Nat), me - q < k → st ≤ q → q ≤ me →
    F_Mo_isFinite_246 q1 q2 q3 q4 q5 q6 q7 q8 q9 (nI n) M a 309 B k (nI q) (nI (idx st p q)) z10 z9 (nI (idx st p (pfz x me st))) z7 z6 z4 (nI me) = some (bI (if q < pfz x me st then cmpS x (me - pfz x me st) (pfz x me st) 0 else cmpS x (me - q) q (idx st p q - idx st p (pfz x me st))))
  | 0, q, h, _, _ => by omega
  | k + 1, q, h, h1, h2 => by
    have h4 := ht.le
    have h5 := hn.mn
    have h6 := hn.lt
    have h7 := hn.pm
    have i1 := idx_le (st := st) (p := p) (q := q)
    have i2 := idx_le (st := st) (p := p) (q := pfz x me st)
    have hpl := pfz_le (x := x) (st := st) (me := me) (by omega)
    unfold F_Mo_isFinite_246
    by_cases c1 : q < me
    · have hx := ht.byte q (by omega)
      rw [if_neg (show ¬ nI me ≤ nI q by simp (disch := omega) only [lit_nI, nI_eq', nI_add', nI_le', nI_lt', nI_nn, nI_ge0, nI_clamp', nI_ne1, nI_ne2, nI_ne3, m1_lt, m1_le, m1_ge, m1_gt, if_false, if_true, Option.bind_some, nm_app]; omega), Mo_letter ht hm (by omega), Option.bind_some, nm_app, ltr_in (show q < n by omega), Mo_dig, Sc_dig hx, show nI q + 1 = nI (q + 1) from nI_add' q 1]
      rcases hn.ch h1 c1 with c2 | ⟨c2, c3⟩
      · have c4 := isDig_iff.mp c2
        have c5 : q ≠ p := by
          intro e
          subst e
          have := hn.pt c1
          omega
        rw [c2, if_neg bI_t]
        have hS : ∀ t0, F_Mo_isFinite_298 q1 q2 q3 q4 q5 q6 q7 q8 q9 (nI n) M a (nI q) (nI (idx st p q)) z10 z9 (nI (idx st p (pfz x me st))) z7 z6 z4 (nI me) (F_Mo_isFinite_246 q1 q2 q3 q4 q5 q6 q7 q8 q9 (nI n) M a 309 B k) t0 =
            (if nI (idx st p q) < nI (idx st p (pfz x me st)) then F_Mo_isFinite_246 q1 q2 q3 q4 q5 q6 q7 q8 q9 (nI n) M a 309 B k (nI (q + 1)) (nI (idx st p (q + 1))) z10 z9 (nI (idx st p (pfz x me st))) z7 z6 z4 (nI me)
            else if 308 - (nI (idx st p q) - nI (idx st p (pfz x me st))) < 0 then F_Mo_isFinite_246 q1 q2 q3 q4 q5 q6 q7 q8 q9 (nI n) M a 309 B k (nI (q + 1)) (nI (idx st p (q + 1))) z10 z9 (nI (idx st p (pfz x me st))) z7 z6 z4 (nI me)
            else if nI (x q - 48) = t0 then F_Mo_isFinite_246 q1 q2 q3 q4 q5 q6 q7 q8 q9 (nI n) M a 309 B k (nI (q + 1)) (nI (idx st p (q + 1))) z10 z9 (nI (idx st p (pfz x me st))) z7 z6 z4 (nI me)
            else if t0 ≤ nI (x q - 48) then some 0 else some 1) := by
          intro t0
          unfold F_Mo_isFinite_298
          rw [Mo_letter ht hm (by omega), Option.bind_some, ltr_in (show q < n by omega), show nI q + 1 = nI (q + 1) from nI_add' q 1, show nI (idx st p q) + 1 = nI (idx st p (q + 1)) by rw [idx_dig h6 h1 c5]; exact nI_add' _ 1, show (48 : Int32) = nI 48 from rfl, nI_sub' (show 48 ≤ x q by omega)]
        have ih := Mo_246 ht hm hn hB (z9 := z9) (z7 := z7) (z6 := z6) (z10 := z10) (z4 := z4) hpf k (q + 1) (by omega) (by omega) (by omega)
        simp only [hS, ih]
        by_cases c6 : q < pfz x me st
        · -- a leading zero
          have c7 : idx st p q < idx st p (pfz x me st) := by
            have := idx_mono (st := st) (p := p) h6 (show q + 1 ≤ pfz x me st by omega)
            rw [idx_dig h6 h1 c5] at this
            omega
          rw [if_pos (show nI (idx st p q) < nI (idx st p (pfz x me st)) by simp (disch := omega) only [lit_nI, nI_eq', nI_add', nI_le', nI_lt', nI_nn, nI_ge0, nI_clamp', nI_ne1, nI_ne2, nI_ne3, m1_lt, m1_le, m1_ge, m1_gt, if_false, if_true, Option.bind_some, nm_app]; exact c7), if_pos (show nI (idx st p q) < nI (idx st p (pfz x me st)) by simp (disch := omega) only [lit_nI, nI_eq', nI_add', nI_le', nI_lt', nI_nn, nI_ge0, nI_clamp', nI_ne1, nI_ne2, nI_ne3, m1_lt, m1_le, m1_ge, m1_gt, if_false, if_true, Option.bind_some, nm_app]; exact c7), if_pos c6]
          by_cases c8 : q + 1 < pfz x me st
          · rw [if_pos c8]
          · rw [if_neg c8, show q + 1 = pfz x me st by omega, Nat.sub_self]
        · have c7 : idx st p (pfz x me st) ≤ idx st p q := idx_mono h6 (by omega)
          rw [if_neg (show ¬ nI (idx st p q) < nI (idx st p (pfz x me st)) by simp (disch := omega) only [lit_nI, nI_eq', nI_add', nI_le', nI_lt', nI_nn, nI_ge0, nI_clamp', nI_ne1, nI_ne2, nI_ne3, m1_lt, m1_le, m1_ge, m1_gt, if_false, if_true, Option.bind_some, nm_app]; omega), if_neg (show ¬ nI (idx st p q) < nI (idx st p (pfz x me st)) by simp (disch := omega) only [lit_nI, nI_eq', nI_add', nI_le', nI_lt', nI_nn, nI_ge0, nI_clamp', nI_ne1, nI_ne2, nI_ne3, m1_lt, m1_le, m1_ge, m1_gt, if_false, if_true, Option.bind_some, nm_app]; omega), if_neg c6, if_neg (show ¬ q + 1 < pfz x me st by omega), nI_sub' c7, idx_dig h6 h1 c5, show idx st p q + 1 - idx st p (pfz x me st) = (idx st p q - idx st p (pfz x me st)) + 1 by omega]
          generalize hi : idx st p q - idx st p (pfz x me st) = i
          have hneg : (308 - nI i < 0) = (308 < i) := by
            rw [Int32.lt_iff_toInt_lt, show (308 : Int32) = nI 308 from rfl, i32_sub (by omega) (by omega)]
            show (((308 : Nat) : Int) - (i : Int) < 0) = _
            apply propext; omega
          simp only [hneg]
          rw [show me - q = (me - (q + 1)) + 1 by omega, cmpS, if_neg (show ¬ x q = 46 by omega)]
          by_cases c8 : 308 < i
          · rw [if_pos c8, if_pos c8, if_pos (by omega), cmpS_end (by omega)]
          · rw [if_neg c8, if_neg c8, if_neg (show ¬ 309 ≤ i by omega), show (308 : Int32) = nI 308 from rfl, nI_sub' (by omega), inb_ok (by omega) (by omega), nI_clamp' (by omega), hB i (by omega)]
            obtain ⟨e1, e2⟩ := bnd_at (show i < 309 by omega)
            simp (disch := omega) only [lit_nI, nI_eq', nI_add', nI_le', nI_lt', nI_nn, nI_ge0, nI_clamp', nI_ne1, nI_ne2, nI_ne3, m1_lt, m1_le, m1_ge, m1_gt, if_false, if_true, Option.bind_some, nm_app]
            rw [if_neg (show ¬ idx st p q < idx st p (pfz x me st) by omega)]
            by_cases c9 : x q - 48 = bnd i
            · rw [if_pos c9, if_pos c9]
            · rw [if_neg c9, if_neg c9]
              by_cases c10 : bnd i ≤ x q - 48
              · rw [if_pos c10]; simp [show ¬ x q - 48 < bnd i by omega, bI]; rfl
              · rw [if_neg c10]; simp [show x q - 48 < bnd i by omega, bI]; rfl
      · -- the point
        have e0 : idx st p (q + 1) = idx st p q := by rw [c2]; exact idx_pt h6
        rw [c3, show isDig 46 = false from rfl, if_pos bI_f]
        have ih := Mo_246 ht hm hn hB (z9 := z9) (z7 := z7) (z6 := z6) (z10 := z10) (z4 := z4) hpf k (q + 1) (by omega) (by omega) (by omega)
        rw [e0] at ih
        rw [ih]
        by_cases c6 : q < pfz x me st
        · rw [if_pos c6]
          by_cases c8 : q + 1 < pfz x me st
          · rw [if_pos c8]
          · rw [if_neg c8, show q + 1 = pfz x me st by omega]
            congr 3
            rw [← show q + 1 = pfz x me st by omega, e0]; omega
        · rw [if_neg c6, if_neg (by omega), show me - q = (me - (q + 1)) + 1 by omega, cmpS, if_pos c3]
    · have : q = me := by omega
      subst this
      rw [if_pos (show nI q ≤ nI q by simp (disch := omega) only [lit_nI, nI_eq', nI_add', nI_le', nI_lt', nI_nn, nI_ge0, nI_clamp', nI_ne1, nI_ne2, nI_ne3, m1_lt, m1_le, m1_ge, m1_gt, if_false, if_true, Option.bind_some, nm_app]; omega), nI_sub' (idx_mono h6 (by omega)), Mo_363' hB (by omega), if_neg (by omega), Nat.sub_self, cmpS]
end Text
end

section
section Text
variable {n : Nat} {x : Nat → Nat}
variable {M : Nat} {a : Nat → Int32}
variable {st p me stop : Nat}
variable {q1 q2 q3 q4 q5 q6 q7 q8 q9 : Int32}
variable {B : Nat → Int32}
def mexE (x : Nat → Nat) (me stop : Nat) : Nat := mexp x (stop - (me + 1)) (me + 1) 0
def minE (x : Nat → Nat) (me stop : Nat) : Bool := decide (me < stop ∧ x (me + 1) = 45)
/-- the reference's exponent and the class's decide alike -/
theorem exp_same (he : Exp n x me stop) {W : Int} (hW : -70000 ≤ W ∧ W ≤ 70000) (hme : me + 1 < stop ∨ me = stop) : mexE x me stop < 100000000 ∧
    ((W + expE n x me stop = 309) ↔ (W - 1 + (if minE x me stop then -(mexE x me stop : Int) else mexE x me stop) = 308)) ∧
    ((W + expE n x me stop < 309) ↔ (W - 1 + (if minE x me stop then -(mexE x me stop : Int) else mexE x me stop) < 308)) := by
  have h1 := (mc_exp (x := x) (m := stop - (me + 1)) (q := me + 1) (v := 0) (w := 0) (Or.inl ⟨rfl, by omega⟩) (by omega))
  have h2 := h1.2
  have h3 := h1.1
  unfold mexE expE minE
  refine ⟨h2, ?_⟩
  generalize hc : cexp x (stop - (me + 1)) (me + 1) 0 = cv at *
  generalize hw : mexp x (stop - (me + 1)) (me + 1) 0 = mv at *
  rcases hme with c | c
  · have hl := he.le
    rw [ltr_in (show me + 1 < n by omega)]
    by_cases c2 : x (me + 1) = 45
    · simp only [c2, if_true, show me < stop by omega, true_and, decide_true]; omega
    · simp only [c2, if_false, and_false, decide_false, Bool.false_eq_true]; omega
  · have e1 : cv = 0 := by rw [← hc, c, show stop - (stop + 1) = 0 by omega]; rfl
    have e2 : mv = 0 := by rw [← hw, c, show stop - (stop + 1) = 0 by omega]; rfl
    subst e1 e2
    simp only [Int.ofNat_zero, Int.natCast_zero, Int.neg_zero, ite_self]
    omega
theorem Mo_213 (ht : TextIs n x) (hm : NumIs M a n x) (hn : Num n x st p me) (he : Exp n x me stop) (hB : ∀ i, i < 309 → B (308 - i) = nI (bnd i)) {z10 z9 z6 : Int32} {pf : Nat} (hpf : pfz x me st = pf) (hlt : pf < me) {E : Int64} {z4 : Int64} (hE : E.toInt = (if minE x me stop then -(mexE x me stop : Int) else mexE x me stop)) {t1 : Int64} (h1 : t1.toInt = finW p pf - 1) : F_Mo_isFinite_213 (nI st) q1 q2 q3 q4 q5 q6 q7 q8 q9 (nI n) M a 309 B z10 z9 (nI (idx st p pf)) (nI (p - st)) z6 z4 (nI me) E t1 = some (bI (finS n x st p me stop)) := by
  have h4 := ht.le
  have h5 := hn.mn
  have h6 := hn.lt
  have h7 := hn.pm
  have hpl := pfz_le (x := x) (st := st) (me := me) (by omega)
  have hW : -70000 ≤ finW p pf ∧ finW p pf ≤ 70000 := by unfold finW; split <;> omega
  have hme : me + 1 < stop ∨ me = stop := by
    by_cases c : me < stop
    · exact Or.inl (he.sh c).1
    · exact Or.inr (by have := he.ge; omega)
  obtain ⟨s1, s2, s3⟩ := exp_same he hW hme
  have hEb : -100000000 ≤ E.toInt ∧ E.toInt ≤ 100000000 := by rw [hE]; split <;> omega
  have hs : (t1 + E).toInt = finW p pf - 1 + E.toInt := by rw [i64_add (by omega) (by omega), h1]
  have hb : (308 : Int64).toInt = 308 := by decide
  unfold F_Mo_isFinite_213
  simp only [lg0, lgge, hs, hb]
  unfold finS
  rw [hpf, if_neg (show ¬ pf = me by omega)]
  by_cases c1 : finW p pf + expE n x me stop = 309
  · rw [if_pos (by rw [hE]; exact s2.mp c1), if_pos c1]
    have h := Mo_246 (q1 := q1) (q2 := q2) (q3 := q3) (q4 := q4) (q5 := q5) (q6 := q6) (q7 := q7) (q8 := q8) (q9 := q9) (z9 := z9) (z7 := nI (p - st)) (z6 := z6) (z10 := t1 + E) (z4 := z4) ht hm hn hB (by rw [hpf]; exact hlt) FU st (by unfold FU; omega) (by omega) (by omega)
    rw [hpf, show idx st p st = 0 by unfold idx; rw [if_pos (by omega)]; omega] at h
    rw [show (0 : Int32) = nI 0 from rfl, h]
    by_cases c2 : st < pf
    · rw [if_pos c2]
    · rw [if_neg c2, show st = pf by omega, Nat.zero_sub]
  · rw [if_neg (by rw [hE]; exact fun h => c1 (s2.mpr h)), if_neg c1]
    by_cases c2 : finW p pf + expE n x me stop < 309
    · have := s3.mp c2
      rw [if_neg (by rw [hE]; omega)]; simp [c2, bI]
    · have : ¬ _ := fun h => c2 (s3.mpr h)
      rw [if_pos (by rw [hE]; omega)]; simp [c2, bI]
/-- the first digit that isn't 0, while place q is looked at -/
def fstI (st p pf q : Nat) : Int32 := if pf < q then nI (idx st p pf) else -1
theorem Mo_133 (ht : TextIs n x) (hm : NumIs M a n x) (hn : Num n x st p me) (he : Exp n x me stop) (hB : ∀ i, i < 309 → B (308 - i) = nI (bnd i)) {z4 : Int64} (hz : z4.toInt = mexE x me stop) : ∀ (k q : Nat), me - q < k → st ≤ q → q ≤ me →
    F_Mo_isFinite_133 (nI st) q1 q2 q3 q4 q5 q6 q7 q8 q9 (nI n) M a 309 B k (nI q) (nI (idx st p q)) (fstI st p (pfz x me st) q) (nI (p - st)) (bI (minE x me stop)) z4 (nI me) = some (bI (finS n x st p me stop))
  | 0, q, h, _, _ => by omega
  | k + 1, q, h, h1, h2 => by
    have h4 := ht.le
    have h5 := hn.mn
    have h6 := hn.lt
    have h7 := hn.pm
    have hpl := pfz_le (x := x) (st := st) (me := me) (by omega)
    unfold F_Mo_isFinite_133
    by_cases c1 : q < me
    · have hx := ht.byte q (by omega)
      rw [if_neg (show ¬ nI me ≤ nI q by simp (disch := omega) only [lit_nI, nI_eq', nI_add', nI_le', nI_lt', nI_nn, nI_ge0, nI_clamp', nI_ne1, nI_ne2, nI_ne3, m1_lt, m1_le, m1_ge, m1_gt, if_false, if_true, Option.bind_some, nm_app]; omega), Mo_letter ht hm (by omega), Option.bind_some, Option.bind_some, nm_app, ltr_in (show q < n by omega), Mo_dig, Sc_dig hx, show nI q + 1 = nI (q + 1) from nI_add' q 1]
      have ih := Mo_133 ht hm hn he hB hz k (q + 1) (by omega) (by omega) (by omega)
      rcases hn.ch h1 c1 with c2 | ⟨c2, c3⟩
      · have c4 := isDig_iff.mp c2
        have c5 : q ≠ p := by
          intro e
          subst e
          have := hn.pt c1
          omega
        rw [c2, if_neg bI_t, show nI (idx st p q) + 1 = nI (idx st p (q + 1)) by rw [idx_dig h6 h1 c5]; exact nI_add' _ 1]
        by_cases c6 : pfz x me st < q
        · have e1 : fstI st p (pfz x me st) q = nI (idx st p (pfz x me st)) := if_pos c6
          have e2 : fstI st p (pfz x me st) (q + 1) = nI (idx st p (pfz x me st)) := if_pos (by omega)
          have := idx_le (st := st) (p := p) (q := pfz x me st)
          rw [e2] at ih
          rw [e1, if_pos (by rw [nI_ge0 (by omega)]; trivial), ih]
        · have e1 : fstI st p (pfz x me st) q = -1 := if_neg c6
          rw [e1, if_neg (by decide)]
          by_cases c7 : q = pfz x me st
          · have c8 := pfz_at (x := x) (st := st) (me := me) (by omega) (by omega)
            rw [← c7] at c8
            rw [if_neg (by simp (disch := omega) only [lit_nI, nI_eq', nI_add', nI_le', nI_lt', nI_nn, nI_ge0, nI_clamp', nI_ne1, nI_ne2, nI_ne3, m1_lt, m1_le, m1_ge, m1_gt, if_false, if_true, Option.bind_some, nm_app]; omega)]
            have e2 : fstI st p (pfz x me st) (q + 1) = nI (idx st p q) := by unfold fstI; rw [if_pos (by omega), ← c7]
            rw [e2] at ih
            exact ih
          · have c8 := pfz_lt (x := x) (me := me) h1 (show q < pfz x me st by omega)
            rw [if_pos (by simp (disch := omega) only [lit_nI, nI_eq', nI_add', nI_le', nI_lt', nI_nn, nI_ge0, nI_clamp', nI_ne1, nI_ne2, nI_ne3, m1_lt, m1_le, m1_ge, m1_gt, if_false, if_true, Option.bind_some, nm_app]; omega)]
            have e2 : fstI st p (pfz x me st) (q + 1) = -1 := if_neg (by omega)
            rw [e2] at ih
            exact ih
      · have e0 : idx st p (q + 1) = idx st p q := by rw [c2]; exact idx_pt h6
        rw [c3, show isDig 46 = false from rfl, if_pos bI_f]
        have e2 : fstI st p (pfz x me st) (q + 1) = fstI st p (pfz x me st) q := by
          unfold fstI
          by_cases c6 : pfz x me st < q
          · rw [if_pos c6, if_pos (by omega)]
          · have : pfz x me st ≠ q := by
              intro e
              have := pfz_at (x := x) (st := st) (me := me) (by omega) (by omega)
              rw [e] at this
              exact this.2 c3
            rw [if_neg c6, if_neg (by omega)]
        rw [e0, e2] at ih
        exact ih
    · have hq : q = me := by omega
      rw [if_pos (show nI me ≤ nI q by simp (disch := omega) only [lit_nI, nI_eq', nI_add', nI_le', nI_lt', nI_nn, nI_ge0, nI_clamp', nI_ne1, nI_ne2, nI_ne3, m1_lt, m1_le, m1_ge, m1_gt, if_false, if_true, Option.bind_some, nm_app]; omega)]
      by_cases c6 : pfz x me st < me
      · have e1 : fstI st p (pfz x me st) q = nI (idx st p (pfz x me st)) := if_pos (by omega)
        have hil := idx_le (st := st) (p := p) (q := pfz x me st)
        have c8 := pfz_at (x := x) (st := st) (me := me) (by omega) c6
        rw [e1, if_pos (by rw [nI_ge0 (by omega)]; trivial)]
        have ht1 : ((nI (p - st) - 1 - nI (idx st p (pfz x me st))).toInt64).toInt = finW p (pfz x me st) - 1 := by
          rw [i64_of, show (1 : Int32) = nI 1 from rfl, nI_sub' (show 1 ≤ p - st by omega), i32_sub (by omega) (by omega)]
          unfold finW idx
          by_cases c9 : pfz x me st < p
          · rw [if_pos c9, if_pos (by omega)]; omega
          · have : pfz x me st ≠ p := by
              intro e
              rw [e] at c8
              exact c8.2 (hn.pt (by omega))
            rw [if_neg c9, if_neg (by omega)]; omega
        cases hmin : minE x me stop with
        | false =>
          rw [if_pos bI_f]
          exact Mo_213 ht hm hn he hB rfl c6 (by rw [hz, hmin]; rfl) ht1
        | true =>
          rw [if_neg bI_t]
          have hme := (mc_exp (x := x) (m := stop - (me + 1)) (q := me + 1) (v := 0) (w := 0) (Or.inl ⟨rfl, by omega⟩) (by omega)).2
          refine Mo_213 ht hm hn he hB rfl c6 ?_ ht1
          rw [i64_neg (by rw [hz]; unfold mexE; omega) (by rw [hz]; unfold mexE; omega), hz, hmin]; rfl
      · have e1 : fstI st p (pfz x me st) q = -1 := if_neg (by omega)
        rw [e1, if_neg (by decide)]
        unfold finS
        rw [if_pos (by omega)]; rfl
theorem fstI0 : fstI st p (pfz x me st) st = -1 := by
  unfold fstI
  rw [if_neg]
  have := sw_le (fun c => c == 48 || c == 46) x (me - st) st
  unfold pfz
  omega
theorem Mo_34 (ht : TextIs n x) (hm : NumIs M a n x) (hn : Num n x st p me) (he : Exp n x me stop) (hB : ∀ i, i < 309 → B (308 - i) = nI (bnd i)) (hp : digEnd n x st = p) : ∀ (k q v : Nat) (r : Bool), stop - q < k → me < q → q ≤ stop + 1 → v < 100000000 → mexp x (stop - q) q v = mexE x me stop → (r = true → x (me + 1) = 45) → (me + 1 < q → me < stop → (x (me + 1) = 45 → r = true)) → (me + 1 = q → r = false) → (r = true → me < stop) →
    F_Mo_isFinite_34 (nI st) (nI stop) q1 q2 q3 q4 q5 q6 q7 q8 q9 (nI n) M a 309 B k (nI q) (bI r) (lI v) (nI me) = some (bI (finS n x st p me stop))
  | 0, q, v, r, h, _, _, _, _, _, _, _, _ => by omega
  | k + 1, q, v, r, h, h1, h2, h3, h8, r1, r2, r3, r4 => by
    have h4 := ht.le
    have h5 := he.le
    have h6 := hn.lt
    have h7 := hn.pm
    have h9 := hn.mn
    unfold F_Mo_isFinite_34
    by_cases c1 : q < stop
    · have hx := ht.byte q (by omega)
      have hsh := he.sh (by omega)
      have step : ∀ (r' : Bool), (r' = true → x (me + 1) = 45) → (me + 1 < q + 1 → me < stop → (x (me + 1) = 45 → r' = true)) → F_Mo_isFinite_61 q1 q2 q3 q4 q5 q6 q7 q8 q9 (nI n) M a (nI q) (lI v) (nI me) (F_Mo_isFinite_34 (nI st) (nI stop) q1 q2 q3 q4 q5 q6 q7 q8 q9 (nI n) M a 309 B k) (bI r') = some (bI (finS n x st p me stop)) := by
        intro r' s1 s2
        unfold F_Mo_isFinite_61
        rw [Mo_letter ht hm (by omega), Option.bind_some, Option.bind_some, nm_app, ltr_in (show q < n by omega), Mo_dig, Sc_dig hx, show nI q + 1 = nI (q + 1) from nI_add' q 1]
        rw [show stop - q = (stop - (q + 1)) + 1 by omega, mexp] at h8
        cases c2 : isDig (x q) with
        | false =>
          rw [c2] at h8
          rw [if_pos bI_f]
          exact Mo_34 ht hm hn he hB hp k (q + 1) v r' (by omega) (by omega) (by omega) h3 h8 s1 s2 (by omega) (fun _ => by omega)
        | true =>
          have c3 := isDig_iff.mp c2
          rw [c2] at h8
          rw [if_neg bI_t]
          simp only [lgge, lI_toInt (show v < 2 ^ 62 by omega), show (10000000 : Int64).toInt = 10000000 by decide]
          by_cases c4 : v < 10000000
          · rw [if_neg (by omega), nI_64 (by omega), show (10 : Int64) = lI 10 from rfl, lI_mul, lI_add, show (48 : Int64) = lI 48 from rfl, lI_sub (by omega)]
            rw [if_pos (by simp [c4])] at h8
            exact Mo_34 ht hm hn he hB hp k (q + 1) _ r' (by omega) (by omega) (by omega) (by omega) h8 s1 s2 (by omega) (fun _ => by omega)
          · rw [if_pos (by omega)]
            rw [if_neg (by simp [c4])] at h8
            exact Mo_34 ht hm hn he hB hp k (q + 1) v r' (by omega) (by omega) (by omega) h3 h8 s1 s2 (by omega) (fun _ => by omega)
      rw [if_neg (show ¬ nI stop ≤ nI q by simp (disch := omega) only [lit_nI, nI_eq', nI_add', nI_le', nI_lt', nI_nn, nI_ge0, nI_clamp', nI_ne1, nI_ne2, nI_ne3, m1_lt, m1_le, m1_ge, m1_gt, if_false, if_true, Option.bind_some, nm_app]; omega)]
      cases r with
      | true =>
        rw [if_neg bI_t]
        exact step true r1 (fun _ _ _ => rfl)
      | false =>
        rw [if_pos bI_f, Mo_letter ht hm (by omega), Option.bind_some, ltr_in (show q < n by omega)]
        simp (disch := omega) only [lit_nI, nI_eq', nI_add', nI_le', nI_lt', nI_nn, nI_ge0, nI_clamp', nI_ne1, nI_ne2, nI_ne3, m1_lt, m1_le, m1_ge, m1_gt, if_false, if_true, Option.bind_some, nm_app]
        by_cases c2 : x q = 45
        · have hq : q = me + 1 := by
            by_cases c3 : q = me + 1
            · exact c3
            · have := hsh.2.2.2 q (by omega) c1
              have := isDig_iff.mp this
              omega
          rw [if_pos c2]
          exact step true (fun _ => by rw [← hq]; exact c2) (fun _ _ _ => rfl)
        · rw [if_neg c2]
          refine step false (by intro h; cases h) (fun _ h10 h11 => ?_)
          by_cases c3 : q = me + 1
          · rw [← c3] at h11; exact absurd h11 c2
          · exact r2 (by omega) h10 h11
    · rw [if_pos (show nI stop ≤ nI q by simp (disch := omega) only [lit_nI, nI_eq', nI_add', nI_le', nI_lt', nI_nn, nI_ge0, nI_clamp', nI_ne1, nI_ne2, nI_ne3, m1_lt, m1_le, m1_ge, m1_gt, if_false, if_true, Option.bind_some, nm_app]; omega), Mo_digitsEnd ht hm (by omega), Option.bind_some, hp, nI_sub' (by omega)]
      have hmin : r = minE x me stop := by
        unfold minE
        cases r with
        | true => simp [r1 rfl, r4 rfl]
        | false =>
          symm
          rw [decide_eq_false_iff_not]
          rintro ⟨h10, h11⟩
          have h12 := (he.sh h10).1
          have := r2 (by omega) h10 h11
          cases this
      rw [show stop - q = 0 by omega, mexp] at h8
      have hz : (lI v).toInt = mexE x me stop := by rw [lI_toInt (by omega), h8]
      have h := Mo_133 (q1 := q1) (q2 := q2) (q3 := q3) (q4 := q4) (q5 := q5) (q6 := q6) (q7 := q7) (q8 := q8) (q9 := q9) ht hm hn he hB hz FU st (by unfold FU; omega) (by omega) (by omega)
      rw [fstI0, show idx st p st = 0 by unfold idx; rw [if_pos (by omega)]; omega, ← hmin] at h
      exact h
theorem Mo_2 (ht : TextIs n x) (hm : NumIs M a n x) (hn : Num n x st p me) (he : Exp n x me stop) (hB : ∀ i, i < 309 → B (308 - i) = nI (bnd i)) (hp : digEnd n x st = p) : ∀ (k q : Nat), me - q < k → st ≤ q → q ≤ me → F_Mo_isFinite_2 (nI st) (nI stop) q1 q2 q3 q4 q5 q6 q7 q8 q9 (nI n) M a 309 B k (nI q) = some (bI (finS n x st p me stop))
  | 0, q, h, _, _ => by omega
  | k + 1, q, h, h1, h2 => by
    have h4 := ht.le
    have h5 := he.le
    have h6 := he.ge
    have h9 := hn.mn
    unfold F_Mo_isFinite_2
    have fin : q = me → F_Mo_isFinite_34 (nI st) (nI stop) q1 q2 q3 q4 q5 q6 q7 q8 q9 (nI n) M a 309 B FU (nI (q + 1)) 0 0 (nI q) = some (bI (finS n x st p me stop)) := by
      intro e
      rw [e]
      exact Mo_34 ht hm hn he hB hp FU (me + 1) 0 false (by unfold FU; omega) (by omega) (by omega) (by omega) rfl (by intro h; cases h) (by omega) (fun _ => rfl) (by intro h; cases h)
    rw [show nI q + 1 = nI (q + 1) from nI_add' q 1]
    by_cases c1 : q < me
    · have hx := ht.byte q (by omega)
      rw [if_neg (show ¬ nI stop ≤ nI q by simp (disch := omega) only [lit_nI, nI_eq', nI_add', nI_le', nI_lt', nI_nn, nI_ge0, nI_clamp', nI_ne1, nI_ne2, nI_ne3, m1_lt, m1_le, m1_ge, m1_gt, if_false, if_true, Option.bind_some, nm_app]; omega), Mo_letter ht hm (by omega), Option.bind_some, ltr_in (show q < n by omega)]
      have : ¬ x q = 101 := by
        rcases hn.ch h1 c1 with c2 | ⟨c2, c3⟩
        · have := isDig_iff.mp c2; omega
        · omega
      rw [if_neg (by simp (disch := omega) only [lit_nI, nI_eq', nI_add', nI_le', nI_lt', nI_nn, nI_ge0, nI_clamp', nI_ne1, nI_ne2, nI_ne3, m1_lt, m1_le, m1_ge, m1_gt, if_false, if_true, Option.bind_some, nm_app]; exact this)]
      exact Mo_2 ht hm hn he hB hp k (q + 1) (by omega) (by omega) (by omega)
    · have hq : q = me := by omega
      by_cases c2 : me < stop
      · have := he.sh c2
        rw [if_neg (show ¬ nI stop ≤ nI q by simp (disch := omega) only [lit_nI, nI_eq', nI_add', nI_le', nI_lt', nI_nn, nI_ge0, nI_clamp', nI_ne1, nI_ne2, nI_ne3, m1_lt, m1_le, m1_ge, m1_gt, if_false, if_true, Option.bind_some, nm_app]; omega), Mo_letter ht hm (by omega), Option.bind_some, ltr_in (show q < n by omega), if_pos (by rw [hq, this.2.1]; rfl)]
        exact fin hq
      · rw [if_pos (show nI stop ≤ nI q by simp (disch := omega) only [lit_nI, nI_eq', nI_add', nI_le', nI_lt', nI_nn, nI_ge0, nI_clamp', nI_ne1, nI_ne2, nI_ne3, m1_lt, m1_le, m1_ge, m1_gt, if_false, if_true, Option.bind_some, nm_app]; omega)]
        exact fin hq
theorem Mo_isFinite (ht : TextIs n x) (hm : NumIs M a n x) (hn : Num n x st p me) (he : Exp n x me stop) (hB : ∀ i, i < 309 → B (308 - i) = nI (bnd i)) (hp : digEnd n x st = p) : F_Mo_isFinite (nI st) (nI stop) q1 q2 q3 q4 q5 q6 q7 q8 q9 (nI n) M a 309 B = some (bI (finS n x st p me stop)) := by
  have h4 := ht.le
  have h9 := hn.mn
  have h6 := hn.lt
  have h7 := hn.pm
  unfold F_Mo_isFinite
  exact Mo_2 ht hm hn he hB hp FU st (by unfold FU; omega) (by omega) (by omega)
end Text
end

section
def numM (n : Nat) (x : Nat → Nat) (st : Nat) : Nat := if ltr n x (digEnd n x st) = 46 ∧ isDig (ltr n x (digEnd n x st + 1)) = true then digEnd n x (digEnd n x st + 1) else digEnd n x st
def expB (n : Nat) (x : Nat → Nat) (me : Nat) : Nat := if ltr n x (me + 1) = 43 ∨ ltr n x (me + 1) = 45 then me + 2 else me + 1
def expS (n : Nat) (x : Nat → Nat) (me : Nat) : Nat := if ltr n x me = 101 ∧ isDig (ltr n x (expB n x me)) = true then digEnd n x (expB n x me) else me
def numTok (n : Nat) (x : Nat → Nat) (st : Nat) : Nat := if finS n x st (digEnd n x st) (numM n x st) (expS n x (numM n x st)) then 3 else 1
/-- the token that begins at st: its kind and where it ends -/
def tok (n : Nat) (x : Nat → Nat) (st : Nat) : Nat × Nat :=
  if st < n then
    if isLet (x st) then (nameTok n x st (nmEnd n x (st + 1)), nmEnd n x (st + 1))
    else if isDig (x st) then (numTok n x st, expS n x (numM n x st))
    else if x st = 34 then (txTok n x st (txEnd n x (st + 1)), txEnd n x (st + 1) + 1)
    else (sgK (sgIx (x st) (ltr n x (st + 1))), sgE st (sgIx (x st) (ltr n x (st + 1))))
  else (0, st)
section Text
variable {n : Nat} {x : Nat → Nat}
variable {N : Nat} {b : Nat → Int32}
variable {M : Nat} {a : Nat → Int32}
variable {q1 q2 q3 q4 q5 q6 q7 q8 q9 w1 w2 w3 w4 : Int32}
theorem digEnd_le (i : Nat) : i ≤ digEnd n x i ∧ digEnd n x i ≤ max i n := by
  have := sw_le isDig x (n - i) i
  unfold digEnd
  omega
theorem digEnd_gt (i : Nat) : (i < digEnd n x i) = (isDig (ltr n x i) = true) := by
  apply propext
  unfold digEnd
  by_cases h : i < n
  · rw [ltr_in h, show n - i = (n - (i + 1)) + 1 by omega, sw]
    cases isDig (x i) with
    | false => simp
    | true =>
      have := sw_le isDig x (n - (i + 1)) (i + 1)
      simp; omega
  · rw [ltr_out h, show n - i = 0 by omega, sw]; simp [isDig]
theorem digEnd_dig {i : Nat} : ∀ k, i ≤ k → k < digEnd n x i → isDig (x k) = true := by
  have : ∀ m i k, i ≤ k → k < sw isDig x m i → isDig (x k) = true := by
    intro m
    induction m with
    | zero => intro i k h1 h2; unfold sw at h2; omega
    | succ m ih =>
      intro i k h1 h2
      unfold sw at h2
      cases c : isDig (x i) with
      | false => rw [c] at h2; simp at h2; omega
      | true =>
        rw [c, if_pos rfl] at h2
        by_cases c2 : i = k
        · subst c2; exact c
        · exact ih (i + 1) k (by omega) h2
  exact this _ _
theorem isDig_lt {i : Nat} (h : isDig (ltr n x i) = true) : i < n ∧ isDig (x i) = true := by
  by_cases c : i < n
  · rw [ltr_in c] at h; exact ⟨c, h⟩
  · rw [ltr_out c] at h; exact absurd h (by decide)
theorem ltr_pos {i c : Nat} (hc : c ≠ 0) (h : ltr n x i = c) : i < n ∧ x i = c := by
  by_cases d : i < n
  · rw [ltr_in d] at h; exact ⟨d, h⟩
  · rw [ltr_out d] at h; omega
theorem num_shape (ht : TextIs n x) {st : Nat} (h1 : st < n) (h2 : isDig (x st) = true) : Num n x st (digEnd n x st) (numM n x st) ∧ Exp n x (numM n x st) (expS n x (numM n x st)) ∧ numM n x st ≤ n := by
  have h3 := digEnd_le (n := n) (x := x) st
  have h4 : st < digEnd n x st := by rw [digEnd_gt, ltr_in h1]; exact h2
  have hN : Num n x st (digEnd n x st) (numM n x st) := by
    unfold numM
    by_cases c : ltr n x (digEnd n x st) = 46 ∧ isDig (ltr n x (digEnd n x st + 1)) = true
    · rw [if_pos c]
      have c1 := ltr_pos (by decide) c.1
      have c2 := isDig_lt c.2
      have c3 := digEnd_le (n := n) (x := x) (digEnd n x st + 1)
      exact ⟨h4, by omega, by omega, fun i a1 a2 => digEnd_dig i a1 a2, fun _ => c1.2, fun i a1 a2 => digEnd_dig i (by omega) a2⟩
    · rw [if_neg c]
      exact ⟨h4, by omega, by omega, fun i a1 a2 => digEnd_dig i a1 a2, fun h => by omega, fun i a1 a2 => by omega⟩
  refine ⟨hN, ?_, hN.mn⟩
  have hM := hN.mn
  generalize numM n x st = me at *
  unfold expS
  by_cases c : ltr n x me = 101 ∧ isDig (ltr n x (expB n x me)) = true
  · rw [if_pos c]
    have c1 := ltr_pos (by decide) c.1
    have c2 := isDig_lt c.2
    have c3 := digEnd_le (n := n) (x := x) (expB n x me)
    have c4 : expB n x me < digEnd n x (expB n x me) := by rw [digEnd_gt]; exact c.2
    have c5 : expB n x me = me + 2 ∧ (x (me + 1) = 43 ∨ x (me + 1) = 45) ∨ expB n x me = me + 1 := by
      unfold expB
      by_cases d : ltr n x (me + 1) = 43 ∨ ltr n x (me + 1) = 45
      · rw [if_pos d]
        refine Or.inl ⟨rfl, ?_⟩
        rcases d with d | d
        · exact Or.inl (ltr_pos (by decide) d).2
        · exact Or.inr (ltr_pos (by decide) d).2
      · rw [if_neg d]; exact Or.inr rfl
    refine ⟨by omega, by omega, fun _ => ⟨by omega, c1.2, ?_, fun k a1 a2 => digEnd_dig k (by omega) a2⟩⟩
    rcases c5 with ⟨d1, d2⟩ | d1
    · exact Or.inr d2
    · rw [d1] at c2; exact Or.inl c2.2
  · rw [if_neg c]
    exact ⟨hM, by omega, fun h => by omega⟩
theorem Sc_num_114 (ht : TextIs n x) (hr : RowIs N b n x) {st : Nat} (h1 : st < n) (h2 : isDig (x st) = true) {me stop : Nat} (hme : me = numM n x st) (hst : stop = expS n x me) : F_Sc_scanNumeral_114 w1 w2 (nI st) (nI n) N b (nI me) (nI stop) = some (nI (numTok n x st), nI (stop - st)) := by
  obtain ⟨s1, s2, s3⟩ := num_shape ht h1 h2
  have := s1.lt; have := s1.pm; have := s2.ge
  unfold F_Sc_scanNumeral_114 numTok
  subst hst hme
  rw [Sc_isFinite ht hr s1 s2 rfl, Option.bind_some, nI_sub' (by omega)]
  cases finS n x st (digEnd n x st) (numM n x st) (expS n x (numM n x st)) with
  | false => rw [if_pos bI_f]; rfl
  | true => rw [if_neg bI_t]; rfl
theorem chr_eq (ht : TextIs n x) {i c : Nat} (hc : c ≠ 0) (hc2 : c < 256) : (chr n x i = nI c) = (ltr n x i = c) := by
  by_cases d : i < n
  · rw [chr, if_pos d, ltr_in d, nI_eq' (by have := ht.byte i d; omega) (by omega)]
  · rw [chr, if_neg d, ltr_out d]
    apply propext
    constructor
    · intro h; exact absurd h.symm (by rw [nI_ne1 (by omega)]; exact id)
    · intro h; omega
theorem Sc_num_90 (ht : TextIs n x) (hr : RowIs N b n x) {st : Nat} (h1 : st < n) (h2 : isDig (x st) = true) {me eb : Nat} {v3 : Int32} (hme : me = numM n x st) (hb : eb = expB n x me) (hc : ltr n x me = 101) : F_Sc_scanNumeral_90 w1 w2 (nI st) w4 (nI n) N b v3 (nI me) (nI me) (nI eb) = some (nI (numTok n x st), nI (expS n x (numM n x st) - st)) := by
  obtain ⟨s1, s2, s3⟩ := num_shape ht h1 h2
  have h4 := ht.le
  have hm1 := ltr_pos (by decide) hc
  have heb : eb ≤ me + 2 := by rw [hb]; unfold expB; split <;> omega
  have hlt : eb ≤ 65536 + 1 := by omega
  unfold F_Sc_scanNumeral_90
  have hd := digEnd_le (n := n) (x := x) eb
  by_cases c0 : eb ≤ 65536
  · rw [Sc_digitsEnd ht hr c0, Option.bind_some]
    by_cases c : isDig (ltr n x eb) = true
    · have h5 : eb < digEnd n x eb := by rw [digEnd_gt]; exact c
      rw [if_neg (show ¬ nI (digEnd n x eb) ≤ nI eb by simp (disch := omega) only [lit_nI, nI_eq', nI_add', nI_le', nI_lt', nI_nn, nI_ge0, nI_clamp', nI_ne1, nI_ne2, nI_ne3, m1_lt, m1_le, m1_ge, m1_gt, if_false, if_true, Option.bind_some, nm_app]; omega)]
      have e : expS n x me = digEnd n x eb := by unfold expS; rw [← hb, if_pos ⟨hc, c⟩]
      rw [Sc_num_114 ht hr h1 h2 hme e.symm, ← e, hme]
    · have h5 : ¬ eb < digEnd n x eb := by rw [digEnd_gt]; exact c
      rw [if_pos (show nI (digEnd n x eb) ≤ nI eb by simp (disch := omega) only [lit_nI, nI_eq', nI_add', nI_le', nI_lt', nI_nn, nI_ge0, nI_clamp', nI_ne1, nI_ne2, nI_ne3, m1_lt, m1_le, m1_ge, m1_gt, if_false, if_true, Option.bind_some, nm_app]; omega)]
      have e : expS n x me = me := by unfold expS; rw [← hb, if_neg (fun h => c h.2)]
      rw [Sc_num_114 ht hr h1 h2 hme e.symm, ← hme, e]
  · have c1 : eb = 65537 := by omega
    have c2 : n = 65536 := by omega
    have e : expS n x me = me := by
      unfold expS
      rw [← hb, if_neg (fun h => by have := (isDig_lt h.2).1; omega)]
    have : F_Sc_digitsEnd (nI eb) w1 w2 (nI st) w4 (nI n) N b = some (nI eb) := by
      unfold F_Sc_digitsEnd
      show F_Sc_digitsEnd_2 _ _ _ (999999 + 1) _ = _
      unfold F_Sc_digitsEnd_2
      rw [if_pos (show nI n ≤ nI eb by simp (disch := omega) only [lit_nI, nI_eq', nI_add', nI_le', nI_lt', nI_nn, nI_ge0, nI_clamp', nI_ne1, nI_ne2, nI_ne3, m1_lt, m1_le, m1_ge, m1_gt, if_false, if_true, Option.bind_some, nm_app]; omega)]
    rw [this, Option.bind_some, if_pos (show nI eb ≤ nI eb by simp (disch := omega) only [lit_nI, nI_eq', nI_add', nI_le', nI_lt', nI_nn, nI_ge0, nI_clamp', nI_ne1, nI_ne2, nI_ne3, m1_lt, m1_le, m1_ge, m1_gt, if_false, if_true, Option.bind_some, nm_app]; omega), Sc_num_114 ht hr h1 h2 hme e.symm, ← hme, e]
theorem Sc_num_43 (ht : TextIs n x) (hr : RowIs N b n x) {st : Nat} (h1 : st < n) (h2 : isDig (x st) = true) {me : Nat} (hme : me = numM n x st) : F_Sc_scanNumeral_43 w1 w2 (nI st) w4 (nI n) N b (nI me) = some (nI (numTok n x st), nI (expS n x (numM n x st) - st)) := by
  obtain ⟨s1, s2, s3⟩ := num_shape ht h1 h2
  have h4 := ht.le
  have := s1.mn
  unfold F_Sc_scanNumeral_43
  rw [Rw_at hr (by omega), Option.bind_some, show nI me + 1 = nI (me + 1) from nI_add' me 1, Rw_at hr (by omega), Option.bind_some, show (101 : Int32) = nI 101 from rfl, show (43 : Int32) = nI 43 from rfl, show (45 : Int32) = nI 45 from rfl, show nI me + 2 = nI (me + 2) from nI_add' me 2]
  simp only [chr_eq ht (show 101 ≠ 0 by decide) (show 101 < 256 by decide), chr_eq ht (show 43 ≠ 0 by decide) (show 43 < 256 by decide), chr_eq ht (show 45 ≠ 0 by decide) (show 45 < 256 by decide)]
  by_cases c : ltr n x me = 101
  · rw [if_pos c]
    by_cases c2 : ltr n x (me + 1) = 43
    · rw [if_pos c2]
      exact Sc_num_90 ht hr h1 h2 hme (by unfold expB; rw [if_pos (Or.inl c2)]) c
    rw [if_neg c2]
    by_cases c3 : ltr n x (me + 1) = 45
    · rw [if_pos c3]
      exact Sc_num_90 ht hr h1 h2 hme (by unfold expB; rw [if_pos (Or.inr c3)]) c
    rw [if_neg c3]
    exact Sc_num_90 ht hr h1 h2 hme (by unfold expB; rw [if_neg (by omega)]) c
  · rw [if_neg c]
    have e : expS n x me = me := by unfold expS; rw [if_neg (fun h => c h.1)]
    rw [Sc_num_114 ht hr h1 h2 hme e.symm, ← hme, e]
theorem Sc_num (ht : TextIs n x) (hr : RowIs N b n x) {st : Nat} (h1 : st < n) (h2 : isDig (x st) = true) : F_Sc_scanNumeral w1 w2 (nI st) w4 (nI n) N b = some (nI (numTok n x st), nI (expS n x (numM n x st) - st)) := by
  have h4 := ht.le
  have h3 := digEnd_le (n := n) (x := x) st
  unfold F_Sc_scanNumeral
  rw [Sc_digitsEnd ht hr (by omega), Option.bind_some, Rw_at hr (by omega), Option.bind_some, show nI (digEnd n x st) + 1 = nI (digEnd n x st + 1) from nI_add' _ 1, show (46 : Int32) = nI 46 from rfl]
  simp only [chr_eq ht (show 46 ≠ 0 by decide) (show 46 < 256 by decide)]
  by_cases c : ltr n x (digEnd n x st) = 46
  · have c1 := ltr_pos (by decide) c
    rw [if_pos c, Sc_digitsEnd ht hr (by omega), Option.bind_some]
    have h5 := digEnd_gt (n := n) (x := x) (digEnd n x st + 1)
    have h6 := digEnd_le (n := n) (x := x) (digEnd n x st + 1)
    by_cases c2 : isDig (ltr n x (digEnd n x st + 1)) = true
    · have h7 : digEnd n x st + 1 < digEnd n x (digEnd n x st + 1) := by rw [h5]; exact c2
      rw [if_neg (show ¬ nI _ ≤ nI _ by simp (disch := omega) only [lit_nI, nI_eq', nI_add', nI_le', nI_lt', nI_nn, nI_ge0, nI_clamp', nI_ne1, nI_ne2, nI_ne3, m1_lt, m1_le, m1_ge, m1_gt, if_false, if_true, Option.bind_some, nm_app]; omega)]
      exact Sc_num_43 ht hr h1 h2 (by unfold numM; rw [if_pos ⟨c, c2⟩])
    · have h7 : ¬ digEnd n x st + 1 < digEnd n x (digEnd n x st + 1) := by rw [h5]; exact c2
      rw [if_pos (show nI _ ≤ nI _ by simp (disch := omega) only [lit_nI, nI_eq', nI_add', nI_le', nI_lt', nI_nn, nI_ge0, nI_clamp', nI_ne1, nI_ne2, nI_ne3, m1_lt, m1_le, m1_ge, m1_gt, if_false, if_true, Option.bind_some, nm_app]; omega)]
      exact Sc_num_43 ht hr h1 h2 (by unfold numM; rw [if_neg (fun h => c2 h.2)])
  · rw [if_neg c]
    exact Sc_num_43 ht hr h1 h2 (by unfold numM; rw [if_neg (fun h => c h.1)])
theorem Mo_num_76 (ht : TextIs n x) (hm : NumIs M a n x) {me t0 : Nat} (hme : me ≤ n) (ht0 : me + 1 + t0 = expB n x me) (hc : ltr n x me = 101) : F_Mo_numeralEnd_76 q1 q2 q3 q4 q5 q6 q7 q8 q9 (nI n) M a (nI me) (nI t0) = some (nI (expS n x me)) := by
  have h4 := ht.le
  have heb : expB n x me ≤ me + 2 := by unfold expB; split <;> omega
  have hl := ltr_lt ht (expB n x me)
  unfold F_Mo_numeralEnd_76
  rw [show nI me + 1 + nI t0 = nI (expB n x me) by rw [← ht0, ← nI_add', ← nI_add']; rfl, Mo_letter ht hm (by omega), Option.bind_some, nm_app, Mo_dig, Sc_dig hl]
  cases c : isDig (ltr n x (expB n x me)) with
  | false =>
    rw [if_pos bI_f]
    unfold expS
    rw [if_neg (by rw [c]; simp)]
  | true =>
    rw [if_neg bI_t, Mo_digitsEnd ht hm (by omega), Option.bind_some]
    unfold expS
    rw [if_pos ⟨hc, c⟩]
theorem Mo_num_37 (ht : TextIs n x) (hm : NumIs M a n x) {me : Nat} (hme : me ≤ n) : F_Mo_numeralEnd_37 q1 q2 q3 q4 q5 q6 q7 q8 q9 (nI n) M a (nI me) = some (nI (expS n x me)) := by
  have h4 := ht.le
  have l1 := ltr_lt ht me
  have l2 := ltr_lt ht (me + 1)
  unfold F_Mo_numeralEnd_37
  rw [Mo_letter ht hm (by omega), Option.bind_some, show nI me + 1 = nI (me + 1) from nI_add' me 1, Mo_letter ht hm (by omega), Option.bind_some, Option.bind_some]
  by_cases c : ltr n x me = 101
  · rw [if_pos (show nI (ltr n x me) = 101 by rw [c]; rfl)]
    by_cases c2 : ltr n x (me + 1) = 43
    · rw [if_pos (by rw [c2]; rfl)]
      exact Mo_num_76 ht hm hme (by unfold expB; rw [if_pos (Or.inl c2)]) c
    rw [if_neg (by simp (disch := omega) only [lit_nI, nI_eq', nI_add', nI_le', nI_lt', nI_nn, nI_ge0, nI_clamp', nI_ne1, nI_ne2, nI_ne3, m1_lt, m1_le, m1_ge, m1_gt, if_false, if_true, Option.bind_some, nm_app]; exact c2)]
    by_cases c3 : ltr n x (me + 1) = 45
    · rw [if_pos (by rw [c3]; rfl)]
      exact Mo_num_76 ht hm hme (by unfold expB; rw [if_pos (Or.inr c3)]) c
    rw [if_neg (by simp (disch := omega) only [lit_nI, nI_eq', nI_add', nI_le', nI_lt', nI_nn, nI_ge0, nI_clamp', nI_ne1, nI_ne2, nI_ne3, m1_lt, m1_le, m1_ge, m1_gt, if_false, if_true, Option.bind_some, nm_app]; exact c3)]
    exact Mo_num_76 ht hm hme (by unfold expB; rw [if_neg (by omega)]) c
  · rw [if_neg (show ¬ nI (ltr n x me) = 101 by simp (disch := omega) only [lit_nI, nI_eq', nI_add', nI_le', nI_lt', nI_nn, nI_ge0, nI_clamp', nI_ne1, nI_ne2, nI_ne3, m1_lt, m1_le, m1_ge, m1_gt, if_false, if_true, Option.bind_some, nm_app]; exact c)]
    unfold expS
    rw [if_neg (fun h => c h.1)]
theorem Mo_numEnd (ht : TextIs n x) (hm : NumIs M a n x) {st : Nat} (h1 : st < n) : F_Mo_numeralEnd (nI st) q1 q2 q3 q4 q5 q6 q7 q8 q9 (nI n) M a = some (nI (expS n x (numM n x st))) := by
  have h4 := ht.le
  have h3 := digEnd_le (n := n) (x := x) st
  have l1 := ltr_lt ht (digEnd n x st)
  have l2 := ltr_lt ht (digEnd n x st + 1)
  unfold F_Mo_numeralEnd
  rw [Mo_digitsEnd ht hm (by omega), Option.bind_some, Mo_letter ht hm (by omega), Option.bind_some, show nI (digEnd n x st) + 1 = nI (digEnd n x st + 1) from nI_add' _ 1]
  by_cases c : ltr n x (digEnd n x st) = 46
  · have c1 := ltr_pos (by decide) c
    rw [if_pos (by rw [c]; rfl), Mo_letter ht hm (by omega), Option.bind_some, nm_app, Mo_dig, Sc_dig l2]
    cases c2 : isDig (ltr n x (digEnd n x st + 1)) with
    | false =>
      rw [if_pos bI_f, Mo_num_37 ht hm (by omega)]
      unfold numM
      rw [if_neg (by rw [c2]; simp)]
    | true =>
      have h6 := digEnd_le (n := n) (x := x) (digEnd n x st + 1)
      rw [if_neg bI_t, Mo_digitsEnd ht hm (by omega), Option.bind_some, Mo_num_37 ht hm (by omega)]
      unfold numM
      rw [if_pos ⟨c, c2⟩]
  · rw [if_neg (by simp (disch := omega) only [lit_nI, nI_eq', nI_add', nI_le', nI_lt', nI_nn, nI_ge0, nI_clamp', nI_ne1, nI_ne2, nI_ne3, m1_lt, m1_le, m1_ge, m1_gt, if_false, if_true, Option.bind_some, nm_app]; exact c), Mo_num_37 ht hm (by omega)]
    unfold numM
    rw [if_neg (fun h => c h.1)]
theorem nmEnd_let {st : Nat} (h : st < n) (h2 : isLet (x st) = true) : nmEnd n x st = nmEnd n x (st + 1) := by
  unfold nmEnd
  rw [show n - st = (n - (st + 1)) + 1 by omega, sw, if_pos (Nmc_t h2)]
/-- the reference's token -/
theorem Mo_token (ht : TextIs n x) (hm : NumIs M a n x) {B : Nat → Int32} (hB : ∀ i, i < 309 → B (308 - i) = nI (bnd i)) {st : Nat} (h0 : st ≤ 65537) : F_Mo_token (nI st) q1 q2 q3 q4 q5 q6 q7 q8 q9 (nI n) M a 309 B = some (nI (tok n x st).1, nI (tok n x st).2) := by
  have h4 := ht.le
  have l1 := ltr_lt ht st
  unfold F_Mo_token tok
  rw [Mo_letter ht hm (by omega), Option.bind_some]
  by_cases c : st < n
  · rw [if_pos (show nI st < nI n by simp (disch := omega) only [lit_nI, nI_eq', nI_add', nI_le', nI_lt', nI_nn, nI_ge0, nI_clamp', nI_ne1, nI_ne2, nI_ne3, m1_lt, m1_le, m1_ge, m1_gt, if_false, if_true, Option.bind_some, nm_app]; exact c), if_pos c, nm_app, nm_app, Mo_let l1, Mo_dig, Sc_dig l1, ltr_in c, show nI st + 1 = nI (st + 1) from nI_add' st 1]
    have hx := ht.byte st c
    cases c1 : isLet (x st) with
    | true =>
      rw [if_neg bI_t, if_pos rfl, Mo_token_40 ht hm (by omega) FU st _ (by unfold FU; omega) (by omega) (by omega), nmEnd_let c c1]
    | false =>
      rw [if_pos bI_f, if_neg Bool.false_ne_true]
      cases c2 : isDig (x st) with
      | true =>
        obtain ⟨s1, s2, s3⟩ := num_shape ht c c2
        rw [if_neg bI_t, if_pos rfl, Mo_numEnd ht hm c, Option.bind_some, Mo_isFinite ht hm s1 s2 hB rfl, Option.bind_some]
        unfold numTok
        cases finS n x st (digEnd n x st) (numM n x st) (expS n x (numM n x st)) with
        | false => rw [if_pos bI_f]; rfl
        | true => rw [if_neg bI_t]; rfl
      | false =>
        rw [if_pos bI_f, if_neg Bool.false_ne_true]
        by_cases c3 : x st = 34
        · rw [if_pos (by rw [c3]; rfl), if_pos c3, Mo_token_198 ht hm FU (st + 1) (by unfold FU; omega) (by omega) (by omega)]
        · rw [if_neg (by simp (disch := omega) only [lit_nI, nI_eq', nI_add', nI_le', nI_lt', nI_nn, nI_ge0, nI_clamp', nI_ne1, nI_ne2, nI_ne3, m1_lt, m1_le, m1_ge, m1_gt, if_false, if_true, Option.bind_some, nm_app]; exact c3), if_neg c3, Mo_sign ht hm (by omega), ltr_in c]
  · rw [if_neg (show ¬ nI st < nI n by simp (disch := omega) only [lit_nI, nI_eq', nI_add', nI_le', nI_lt', nI_nn, nI_ge0, nI_clamp', nI_ne1, nI_ne2, nI_ne3, m1_lt, m1_le, m1_ge, m1_gt, if_false, if_true, Option.bind_some, nm_app]; exact c), if_neg c]; rfl
theorem sg_w : (List.range 27).all (fun s => (if 256 ≤ ck (30 + s) then 2 else 1) == sgL s && decide (ck (30 + s) < 1000)) = true := by decide +kernel
theorem bst_mem {P : Nat → Bool} {L : Nat → Nat} : ∀ {l : List Nat} {o : Option Nat} {s : Nat}, bst P L l o = some s → s ∈ l ∨ o = some s
  | [], o, s, h => Or.inr h
  | t :: l, o, s, h => by
    rw [bst_cons] at h
    rcases bst_mem h with h1 | h1
    · exact Or.inl (List.mem_cons_of_mem _ h1)
    · by_cases c : P t = true
      · rw [if_pos c] at h1
        cases o with
        | none => cases h1; exact Or.inl (List.mem_cons_self ..)
        | some u =>
          simp only at h1
          by_cases c2 : L t ≤ L u
          · rw [if_pos c2] at h1; exact Or.inr h1
          · rw [if_neg c2] at h1; cases h1; exact Or.inl (List.mem_cons_self ..)
      · rw [if_neg c] at h1; exact Or.inr h1
theorem sgIx_lt {c d s : Nat} (hc : c < 256) (h : sgIx c d = some s) : s < 27 := by
  rw [← sg_bst hc] at h
  rcases bst_mem h with h1 | h1
  · exact List.mem_range.mp h1
  · cases h1
theorem sk_st {i : Nat} (hi : i ≤ 65536) (h4 : n ≤ 65536) : i ≤ skp n x i ∧ skp n x i ≤ 65536 := by
  have := sk_le x (n - i) false i
  unfold skp
  omega
/-- the class's step -/
theorem Sc_step (ht : TextIs n x) (hr : RowIs N b n x) {i : Nat} (h0 : i ≤ 65536) : F_Sc_step (nI i) w2 w3 w4 (nI n) N b = some (nI (tok n x (skp n x i)).2, nI (ck (tok n x (skp n x i)).1), nI (skp n x i), nI ((tok n x (skp n x i)).2 - skp n x i)) := by
  have h4 := ht.le
  unfold F_Sc_step
  rw [Sc_skip ht hr h0, Option.bind_some]
  obtain ⟨k1, k2⟩ := sk_st (x := x) h0 h4
  generalize skp n x i = st at *
  rw [Rw_at hr (by omega), Option.bind_some]
  unfold tok
  by_cases c : st < n
  · have hx := ht.byte st c
    rw [chr, if_pos c, if_pos c, if_neg (by rw [nI_ne1 (by omega)]; exact id), nm_app, nm_app, Sc_let hx, Sc_dig hx, show nI st + 1 = nI (st + 1) from nI_add' st 1]
    cases c1 : isLet (x st) with
    | true =>
      have hl := sw_le isNmc x (n - (st + 1)) (st + 1)
      rw [if_neg bI_t, if_pos rfl]
      unfold F_Sc_scanName
      rw [show nI st + 1 = nI (st + 1) from nI_add' st 1, Sc_name_7 ht hr FU (st + 1) (by unfold FU; omega) (by omega) (by omega), Option.bind_some]
      simp only
      rw [nI_add']
      unfold nmEnd at *
      rw [show st + (sw isNmc x (n - (st + 1)) (st + 1) - st) = sw isNmc x (n - (st + 1)) (st + 1) by omega]
    | false =>
      rw [if_pos bI_f, if_neg Bool.false_ne_true]
      cases c2 : isDig (x st) with
      | true =>
        obtain ⟨s1, s2, s3⟩ := num_shape ht c c2
        have := s1.lt; have := s1.pm; have := s2.ge
        rw [if_neg bI_t, if_pos rfl, Sc_num ht hr c c2, Option.bind_some]
        simp only
        rw [nI_add', show st + (expS n x (numM n x st) - st) = expS n x (numM n x st) by omega]
        unfold numTok
        split <;> rfl
      | false =>
        rw [if_pos bI_f, if_neg Bool.false_ne_true]
        by_cases c3 : x st = 34
        · rw [if_pos (by rw [c3]; rfl), if_pos c3]
          have hl := sw_le isTxc x (n - (st + 1)) (st + 1)
          unfold F_Sc_scanText
          rw [show nI st + 1 = nI (st + 1) from nI_add' st 1, Sc_text_7 ht hr FU (st + 1) (by unfold FU; omega) (by omega) (by omega), Option.bind_some]
          simp only
          rw [nI_add']
          unfold txEnd txTok at *
          rw [show st + (sw isTxc x (n - (st + 1)) (st + 1) + 1 - st) = sw isTxc x (n - (st + 1)) (st + 1) + 1 by omega]
          split <;> rfl
        · rw [if_neg (by simp (disch := omega) only [lit_nI, nI_eq', nI_add', nI_le', nI_lt', nI_nn, nI_ge0, nI_clamp', nI_ne1, nI_ne2, nI_ne3, m1_lt, m1_le, m1_ge, m1_gt, if_false, if_true, Option.bind_some, nm_app]; exact c3), if_neg c3, Rw_at hr (by omega), Option.bind_some, nm_app]
          have hs : F_Sc_signs (nI (x st)) (chr n x (st + 1)) = nI (ck (sgK (sgIx (x st) (ltr n x (st + 1))))) := by
            by_cases c4 : st + 1 < n
            · rw [chr, if_pos c4, ltr_in c4, Sc_signs_n hx (ht.byte _ c4)]
            · rw [chr, if_neg c4, ltr_out c4, Sc_signs_m hx]
          rw [hs]
          unfold F_Sc_step_120
          cases ho : sgIx (x st) (ltr n x (st + 1)) with
          | none =>
            rw [show sgK none = 1 from rfl, show sgE st none = st + 1 from rfl, if_pos (by decide), show st + 1 - st = 1 by omega]
            simp only [← nI_add']
            rfl
          | some s =>
            have hs2 := sgIx_lt hx ho
            have hw := List.all_eq_true.mp sg_w s (List.mem_range.mpr hs2)
            rw [Bool.and_eq_true, beq_iff_eq, decide_eq_true_eq] at hw
            rw [show sgK (some s) = 30 + s from rfl, show sgE st (some s) = st + sgL s from rfl, ← hw.1, Nat.add_sub_cancel_left]
            by_cases c5 : 256 ≤ ck (30 + s)
            · rw [if_neg (by simp (disch := omega) only [lit_nI, nI_eq', nI_add', nI_le', nI_lt', nI_nn, nI_ge0, nI_clamp', nI_ne1, nI_ne2, nI_ne3, m1_lt, m1_le, m1_ge, m1_gt, if_false, if_true, Option.bind_some, nm_app]; omega), if_pos c5, ← nI_add']; rfl
            · rw [if_pos (by simp (disch := omega) only [lit_nI, nI_eq', nI_add', nI_le', nI_lt', nI_nn, nI_ge0, nI_clamp', nI_ne1, nI_ne2, nI_ne3, m1_lt, m1_le, m1_ge, m1_gt, if_false, if_true, Option.bind_some, nm_app]; omega), if_neg c5, ← nI_add']; rfl
  · rw [chr, if_neg c, if_neg c, if_pos rfl, Nat.sub_self]
    show some (nI st + nI 0, _) = _
    rw [nI_add']
    rfl
end Text
end
