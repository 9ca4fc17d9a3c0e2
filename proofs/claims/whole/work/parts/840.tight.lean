section
/-! the rank of a tree; whether a sign is tight -/
def Tr.hdk : Tr Lb → Int32
  | .leaf => 0
  | .inner _ a _ _ _ => a.k
def Tr.hdt : Tr Lb → Nat
  | .leaf => 0
  | .inner _ a _ _ _ => Int32.toNatClampNeg a.tk
def Tr.kid : Tr Lb → Tr Lb
  | .leaf => .leaf
  | .inner _ _ _ l _ => l
def rkT (T : Tks) (t : Tr Lb) : Nat := if t.hdk = 38 then 9 else if t.hdk = 39 then 7 else if t.hdk = 40 then rkM (T.tkd t.hdt) else if t.hdk = 41 then 4 else 10
def tgT (T : Tks) (t : Tr Lb) : Bool := decide (t.hdk = 39) && decide (T.tkd t.hdt = 40) && decide (9 ≤ rkT T t.kid)
section G
variable {T : Tks}
theorem VR.rk {r a b c : Nat} {t : Tr Lb} (x : VR T r a b c t) (hb : b < 2 ^ 17) : rkT T t = r := by
  have hv := x.vv.lt
  unfold rkT
  rcases x with ⟨h1, h2, ⟨_, ⟨_, h⟩ | ⟨_, h⟩ | ⟨_, h⟩ | ⟨_, h⟩⟩ | ⟨x2, x3, b', x4, x5, l, h, x⟩ | ⟨x2, b', x3, x4, l, h, x⟩⟩ | ⟨x1, x2, x3, r', l, x4, x, h⟩ | ⟨x1, x0, x2, r', l, x3, x, h⟩ | ⟨x1, x2, x3, r1, t1, t2, x4, x, y, h⟩ | ⟨x1, x2, r1, r2, t1, t2, x3, x4, x, y, h⟩ | ⟨x1, x3, m, x2, r1, r2, r3, t1, t2, t3, x4, x5, x6, x, y, w, h⟩
  · rw [h, h1]; rfl
  · rw [h, h1]; rfl
  · rw [h, h1]; rfl
  · rw [h, h1]; rfl
  · rw [h, h1]; rfl
  · rw [h, h1]; rfl
  · rw [h, x1]; rfl
  · rw [h, x1]; rfl
  · have hcb : c < b := by
      rcases y with ⟨r2, _, y⟩ | ⟨_, _, r3, l, _, y, _⟩
      · have := y.lt; omega
      · have := y.lt; omega
    have hh : Tr.hdt (Tr.nd (T.lb 40 c) (Tr.app t1 t2)) = c := nI_clamp' (by omega)
    rw [h, hh]
    exact x3
  · rw [h, x1]; rfl
  · rw [h, x1]; rfl
end G
section Md
variable {T : Tks} {m N5 : Nat} {a5 : Nat → Int32}
variable {n2 : Nat} {b2 : Nat → Int32}
variable {q1 q2 q3 q4 q5 q6 q7 q8 q9 q0 : Int32}
theorem Mo_tight (hT : TkOK T m) (hk : KdIs m N5 a5 T.tkd) (hr : RkIs n2 b2) {a b r : Nat} {t : Tr Lb} (x : VV T 0 r a b t) (hb : b ≤ m) : ∃ f, F_Mo_isTight (nI a) (nI b) q1 q2 q3 q4 q5 q6 q7 q8 q9 q0 N5 a5 n2 b2 = some (if tgT T t = true then 1 else 0, f) := by
  have hle := hT.le
  obtain ⟨k, r', c, g1, g2, g3, g4, g5⟩ := Mo_ar hT hk (q1 := q1) (q2 := q2) (q3 := q3) (q4 := q4) (q5 := q5) (q6 := q6) (q7 := q7) (q8 := q8) (q9 := q9) (q0 := q0) x hb
  have hlt := g2.vv.lt
  have hrk := g2.rk (by omega)
  have hak : nI a + nI k = nI (a + k) := nI_add' a k
  have hbk : nI b - nI k = nI (b - k) := nI_sub' (by omega)
  have hrb := Mo_rb hT hk hr (q1 := q1) (q2 := q2) (q3 := q3) (q4 := q4) (q5 := q5) (q6 := q6) (q7 := q7) (q8 := q8) (q9 := q9) (q0 := q0) g2 (by omega)
  have hr10 := ((g2.vv.lay.2.2 rfl).2.2.2.2).2
  unfold F_Mo_isTight
  rw [g1, Option.bind_some, hak, hbk, hrb, Option.bind_some]
  dsimp only
  by_cases h7 : r' = 7
  · rw [if_pos (show nI r' = 7 by rw [h7]; rfl), Mo_at hk (by omega), Option.bind_some]
    have e40 : (a5 (Int32.toNatClampNeg (nI (a + k))) = 40) = (T.tkd (a + k) = 40) := Mo_kd hk (by omega) (p := 40) (by omega)
    simp only [e40]
    -- the sign's node
    obtain ⟨hca, r3, l, hr3, hvl, hte⟩ : c = a + k ∧ ∃ r3 l, 7 ≤ r3 ∧ VV T 0 r3 (a + k + 1) (b - k) l ∧ t = Tr.nd (T.lb 39 (a + k)) l := by
      rcases g2 with ⟨h1, _⟩ | ⟨h1, _⟩ | ⟨x1, x0, x2, r', l, x3, x, h⟩ | ⟨x1, x2, x3, _⟩ | ⟨h1, _⟩ | ⟨h1, _⟩
      · omega
      · omega
      · exact ⟨x0, r', l, x3, x, h⟩
      · exact absurd (x3.trans h7) (rk_not7 _)
      · omega
      · omega
    have hht : Tr.hdt t = a + k := by rw [hte]; exact nI_clamp' (by omega)
    have hhk : Tr.hdk t = 39 := by rw [hte]; rfl
    have hkid : Tr.kid t = l := by rw [hte]; rfl
    by_cases h40 : T.tkd (a + k) = 40
    · rw [if_pos h40]
      obtain ⟨k2, r4, c2, w1, w2, w3, w4, w5⟩ := Mo_ar hT hk (q1 := q1) (q2 := q2) (q3 := q3) (q4 := q4) (q5 := q5) (q6 := q6) (q7 := q7) (q8 := q8) (q9 := nI c) (q0 := q0) hvl (by omega)
      have hlt2 := w2.vv.lt
      have hrk2 := w2.rk (by omega)
      have hr410 := ((w2.vv.lay.2.2 rfl).2.2.2.2).2
      have hrb2 := Mo_rb hT hk hr (q1 := q1) (q2 := q2) (q3 := q3) (q4 := q4) (q5 := q5) (q6 := q6) (q7 := q7) (q8 := q8) (q9 := nI c) (q0 := q0) w2 (by omega)
      have e1 : nI (a + k) + 1 = nI (a + k + 1) := nI_add' _ 1
      have e2 : nI (a + k + 1) + nI k2 = nI (a + k + 1 + k2) := nI_add' _ _
      have e3 : nI (b - k) - nI k2 = nI (b - k - k2) := nI_sub' (by omega)
      rw [e1, w1, Option.bind_some, e2, e3, hrb2, Option.bind_some]
      dsimp only
      refine ⟨nI c2, ?_⟩
      unfold tgT
      rw [hht, hhk, hkid, hrk2, h40]
      by_cases h8 : r4 ≤ 8
      · rw [if_pos (show nI r4 ≤ 8 by rw [show (8 : Int32) = nI 8 from rfl, nI_le' (by omega) (by omega)]; exact h8), show decide (9 ≤ r4) = false from decide_eq_false (by omega)]; rfl
      · rw [if_neg (show ¬ nI r4 ≤ 8 by rw [show (8 : Int32) = nI 8 from rfl, nI_le' (by omega) (by omega)]; exact h8), show decide (9 ≤ r4) = true from decide_eq_true (by omega)]; rfl
    · rw [if_neg h40]
      refine ⟨nI c, ?_⟩
      unfold tgT
      rw [hht, show decide (T.tkd (a + k) = 40) = false from decide_eq_false h40, Bool.and_false, Bool.false_and]; rfl
  · rw [if_neg (show ¬ nI r' = 7 by rw [show (7 : Int32) = nI 7 from rfl, nI_eq' (by omega) (by omega)]; exact h7)]
    refine ⟨nI c, ?_⟩
    have hhk : Tr.hdk t ≠ 39 := by
      intro h
      unfold rkT at hrk
      rw [h] at hrk
      exact h7 hrk.symm
    unfold tgT
    rw [show decide (Tr.hdk t = 39) = false from decide_eq_false hhk, Bool.false_and, Bool.false_and]; rfl
/-- the first of two colons -/
theorem Mo_col2 (hT : TkOK T m) (hk : KdIs m N5 a5 T.tkd) (hr : RkIs n2 b2) {a m1 c r1 r2 : Nat} {t1 t2 : Tr Lb} (x : VV T 0 r1 a m1 t1) (h38 : T.tkd m1 = 38) (y : VV T 0 r2 (m1 + 1) c t2) (h2 : 5 ≤ r2) (hc : c ≤ m) : F_Mo_lastOf (nI a) (nI c) 4 q1 q2 q3 q4 q5 q6 q7 q8 q9 q0 N5 a5 n2 b2 = some (nI m1) := by
  have hone : Lay T.tkd m1 (m1 + 1) := Lay.one (by omega) (by omega) (by omega) (by omega)
  have hm4 : rkM (T.tkd m1) = 4 := by rw [h38]; rfl
  have hxl := x.lt; have hyl := y.lt
  refine Mo_lo_at hT hk hr hc (x.lay.1.trans (hone.trans y.lay.1)) (q := 4) (by omega) ⟨by omega, by omega, x.lay.1.2.2⟩ (by omega) hm4 (x.lay.2.2 rfl).2.1 (fun i ht hci he e => ?_)
  rcases ht.split x.lay.1 with ⟨h, _⟩ | ⟨_, ht⟩
  · omega
  · rcases ht.split hone with ⟨h, _⟩ | ⟨_, ht⟩
    · omega
    · by_cases d : i = m1 + 1
      · subst d
        rw [Nat.add_sub_cancel] at he
        exact neO (by omega) he
      · have := (y.lay.2.2 rfl).1 i ht (by omega) he (by omega)
        omega
/-- there is but one colon -/
theorem Mo_col1 (hT : TkOK T m) (hk : KdIs m N5 a5 T.tkd) (hr : RkIs n2 b2) {a c r1 : Nat} {t1 : Tr Lb} (x : VV T 0 r1 a c t1) (h1 : 5 ≤ r1) (hc : c ≤ m) : F_Mo_lastOf (nI a) (nI c) 4 q1 q2 q3 q4 q5 q6 q7 q8 q9 q0 N5 a5 n2 b2 = some (-1) :=
  Mo_lo_no hT hk hr hc x.lay.1 x.lt (q := 4) (by omega) (fun i ht hi he e => by have := (x.lay.2.2 rfl).1 i ht hi he (by omega); omega)
end Md
end
