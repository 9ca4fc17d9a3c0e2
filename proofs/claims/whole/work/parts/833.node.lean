section
/-- an array of the building: room for z, growth -/
def CapN (z N : Nat) : Prop := z ≤ N ∧ 16 ≤ N ∧ N ≤ 65536
theorem add1 {z N : Nat} {b : Nat → Int32} (v : Int32) (h : CapN z N) (hz : z ≤ 20000) : ∃ N' a' c s, F_Nm_add v (nI z) N b = some ((N', a'), c, s) ∧ CapN (z + 1) N' ∧ Grow N N' c s ∧ (∀ i, i < z → a' i = b i) ∧ a' z = v := by
  have hl : ((List.range z).map b).length = z := by rw [List.length_map, List.length_range]
  have hv : Vec N b ((List.range z).map b) := ⟨by rw [hl]; exact h.1, h.2.1, by have := h.2.2; omega, fun i hi => by rw [List.getElem_map, List.getElem_range]⟩
  obtain ⟨N', a', c, s, e, g1, g2, g3⟩ := Nm_add hv (by rw [hl]; omega) v
  rw [hl] at e g3
  have hle := g1.le
  rw [List.length_append, hl] at hle
  refine ⟨N', a', c, s, e, ⟨hle, g1.pos, ?_⟩, g2, fun i hi => ?_, ?_⟩
  · have := h.2.2
    rcases g3 with g | ⟨g, g'⟩ <;> omega
  · have := g1.at' i (by rw [List.length_append, hl]; simp only [List.length_cons, List.length_nil]; omega)
    rw [this, List.getElem_append_left (by rw [hl]; exact hi), List.getElem_map, List.getElem_range]
  · have := g1.at' z (by rw [List.length_append, hl]; simp only [List.length_cons, List.length_nil]; omega)
    rw [this, List.getElem_append_right (by rw [hl]; omega)]
    simp only [hl, Nat.sub_self, List.getElem_cons_zero]
abbrev NC : Type := Nat × Nat × Nat × Nat × Nat × Nat × Nat × Nat
def CapA (z : Nat) (C : NC) : Prop := CapN z C.1 ∧ CapN z C.2.1 ∧ CapN z C.2.2.1 ∧ CapN z C.2.2.2.1 ∧ CapN z C.2.2.2.2.1 ∧ CapN z C.2.2.2.2.2.1 ∧ CapN z C.2.2.2.2.2.2.1 ∧ CapN z C.2.2.2.2.2.2.2
def NC.lg (C : NC) : Nat := Nat.log2 C.1 + Nat.log2 C.2.1 + Nat.log2 C.2.2.1 + Nat.log2 C.2.2.2.1 + Nat.log2 C.2.2.2.2.1 + Nat.log2 C.2.2.2.2.2.1 + Nat.log2 C.2.2.2.2.2.2.1 + Nat.log2 C.2.2.2.2.2.2.2
def NC.sm (C : NC) : Nat := C.1 + C.2.1 + C.2.2.1 + C.2.2.2.1 + C.2.2.2.2.1 + C.2.2.2.2.2.1 + C.2.2.2.2.2.2.1 + C.2.2.2.2.2.2.2
def GrowA (C C' : NC) (c s : Nat) : Prop := c + C.lg = C'.lg ∧ s + 2 * C.sm = 2 * C'.sm
theorem GrowA.rfl {C : NC} : GrowA C C 0 0 := ⟨Nat.zero_add _, Nat.zero_add _⟩
theorem GrowA.trans {C C' C'' : NC} {c s c' s' : Nat} (h : GrowA C C' c s) (g : GrowA C' C'' c' s') : GrowA C C'' (c + c') (s + s') := ⟨by have := h.1; have := g.1; omega, by have := h.2; have := g.2; omega⟩
section New
variable {q1 q2 q3 q4 q5 q6 q7 q8 q9 : Int32}
/-- eight more words -/
theorem add8 {C : NC} {f : NFn} {z : Nat} (hc : CapA z C) (hz : z ≤ 20000) (a : Lb) : ∃ (C' : NC) (g : NFn) (c1 s1 c2 s2 c3 s3 c4 s4 c5 s5 c6 s6 c7 s7 c8 s8 : Nat), CapA (z + 1) C' ∧ GrowA C C' (c1 + (c2 + (c3 + (c4 + (c5 + (c6 + (c7 + (c8 + 0)))))))) (s1 + (s2 + (s3 + (s4 + (s5 + (s6 + (s7 + (s8 + 0)))))))) ∧ NFeq f g 0 z ∧ g.1 z = a.k ∧ g.2.1 z = a.pl ∧ g.2.2.1 z = a.sec ∧ g.2.2.2.1 z = a.tk ∧ g.2.2.2.2.1 z = 0 ∧ g.2.2.2.2.2.1 z = -1 ∧ g.2.2.2.2.2.2.1 z = -1 ∧ g.2.2.2.2.2.2.2 z = -1 ∧ F_Nm_add a.k (nI z) C.1 f.1 = some ((C'.1, g.1), c1, s1) ∧ F_Nm_add a.pl (nI z) C.2.1 f.2.1 = some ((C'.2.1, g.2.1), c2, s2) ∧ F_Nm_add a.sec (nI z) C.2.2.1 f.2.2.1 = some ((C'.2.2.1, g.2.2.1), c3, s3) ∧ F_Nm_add a.tk (nI z) C.2.2.2.1 f.2.2.2.1 = some ((C'.2.2.2.1, g.2.2.2.1), c4, s4) ∧ F_Nm_add 0 (nI z) C.2.2.2.2.1 f.2.2.2.2.1 = some ((C'.2.2.2.2.1, g.2.2.2.2.1), c5, s5) ∧ F_Nm_add (-1) (nI z) C.2.2.2.2.2.1 f.2.2.2.2.2.1 = some ((C'.2.2.2.2.2.1, g.2.2.2.2.2.1), c6, s6) ∧ F_Nm_add (-1) (nI z) C.2.2.2.2.2.2.1 f.2.2.2.2.2.2.1 = some ((C'.2.2.2.2.2.2.1, g.2.2.2.2.2.2.1), c7, s7) ∧ F_Nm_add (-1) (nI z) C.2.2.2.2.2.2.2 f.2.2.2.2.2.2.2 = some ((C'.2.2.2.2.2.2.2, g.2.2.2.2.2.2.2), c8, s8) := by
  obtain ⟨k1, k2, k3, k4, k5, k6, k7, k8⟩ := hc
  obtain ⟨N1, b1, c1, s1, e1, g1, o1, p1, r1⟩ := add1 a.k (b := f.1) k1 hz
  obtain ⟨N2, b2, c2, s2, e2, g2, o2, p2, r2⟩ := add1 a.pl (b := f.2.1) k2 hz
  obtain ⟨N3, b3, c3, s3, e3, g3, o3, p3, r3⟩ := add1 a.sec (b := f.2.2.1) k3 hz
  obtain ⟨N4, b4, c4, s4, e4, g4, o4, p4, r4⟩ := add1 a.tk (b := f.2.2.2.1) k4 hz
  obtain ⟨N5, b5, c5, s5, e5, g5, o5, p5, r5⟩ := add1 0 (b := f.2.2.2.2.1) k5 hz
  obtain ⟨N6, b6, c6, s6, e6, g6, o6, p6, r6⟩ := add1 (-1) (b := f.2.2.2.2.2.1) k6 hz
  obtain ⟨N7, b7, c7, s7, e7, g7, o7, p7, r7⟩ := add1 (-1) (b := f.2.2.2.2.2.2.1) k7 hz
  obtain ⟨N8, b8, c8, s8, e8, g8, o8, p8, r8⟩ := add1 (-1) (b := f.2.2.2.2.2.2.2) k8 hz
  refine ⟨(N1, N2, N3, N4, N5, N6, N7, N8), (b1, b2, b3, b4, b5, b6, b7, b8), c1, s1, c2, s2, c3, s3, c4, s4, c5, s5, c6, s6, c7, s7, c8, s8, ⟨g1, g2, g3, g4, g5, g6, g7, g8⟩, ⟨?_, ?_⟩, fun i _ hi => ⟨p1 i hi, p2 i hi, p3 i hi, p4 i hi, p5 i hi, p6 i hi, p7 i hi, p8 i hi⟩, r1, r2, r3, r4, r5, r6, r7, r8, e1, e2, e3, e4, e5, e6, e7, e8⟩
  · have := o1.cells; have := o2.cells; have := o3.cells; have := o4.cells; have := o5.cells; have := o6.cells; have := o7.cells; have := o8.cells
    unfold NC.lg
    dsimp only
    omega
  · have := o1.slots; have := o2.slots; have := o3.slots; have := o4.slots; have := o5.slots; have := o6.slots; have := o7.slots; have := o8.slots
    unfold NC.sm
    dsimp only
    omega
/-- a node of the reference -/
theorem Mo_new {C : NC} {f : NFn} {G : Tr Lb} {p : Nat} (hc : CapA (Tr.sz G) C) (hN : Tr.NH f 0 G) (hp : Tr.OnP G p) (hz : Tr.sz G ≤ 16400) (a : Lb) :
    ∃ (C' : NC) (f' : NFn) (c s : Nat), F_Mo_newNode (nI p) a.k a.pl a.sec a.tk q1 q2 q3 q4 q5 q6 q7 q8 q9 (nI (Tr.sz G)) C.1 f.1 (nI (Tr.sz G)) C.2.1 f.2.1 (nI (Tr.sz G)) C.2.2.1 f.2.2.1 (nI (Tr.sz G)) C.2.2.2.1 f.2.2.2.1 (nI (Tr.sz G)) C.2.2.2.2.1 f.2.2.2.2.1 (nI (Tr.sz G)) C.2.2.2.2.2.1 f.2.2.2.2.2.1 (nI (Tr.sz G)) C.2.2.2.2.2.2.1 f.2.2.2.2.2.2.1 (nI (Tr.sz G)) C.2.2.2.2.2.2.2 f.2.2.2.2.2.2.2 = some ((nI (Tr.sz G + 1), nI (Tr.sz G + 1), nI (Tr.sz G + 1), C'.1, f'.1, C'.2.1, f'.2.1, C'.2.2.1, f'.2.2.1, C'.2.2.2.1, f'.2.2.2.1, C'.2.2.2.2.1, f'.2.2.2.2.1, C'.2.2.2.2.2.1, f'.2.2.2.2.2.1, C'.2.2.2.2.2.2.1, f'.2.2.2.2.2.2.1, C'.2.2.2.2.2.2.2, f'.2.2.2.2.2.2.2), c, s) ∧ CapA (Tr.sz G + 1) C' ∧ Tr.NH f' 0 (Tr.appAt (Tr.nd a .leaf) G p) ∧ GrowA C C' c s := by
  have hlt := Tr.OnP_lt G p hp
  obtain ⟨E1, E2, E3, E4⟩ := Tr.NH_edge (f := f) G p 0 hp hN
  rw [Nat.zero_add] at E1 E2 E3 E4
  obtain ⟨C', g, c1, s1, c2, s2, c3, s3, c4, s4, c5, s5, c6, s6, c7, s7, c8, s8, hC', hG, hq, g1, g2, g3, g4, g5, g6, g7, g8, e1, e2, e3, e4, e5, e6, e7, e8⟩ := add8 (f := f) hc (by omega) a
  obtain ⟨w1, w2, w3, w4, w5, w6, w7, w8⟩ := hq p (Nat.zero_le _) hlt
  have hcn := Tr.NH_new (f := f) (P := p) (n := Tr.sz G) (li := Tr.lix (p + 1) (Tr.chP G p)) (cnt := Tr.rt (Tr.chP G p)) (b := a) G p 0 hp hN (by omega) (by omega) rfl rfl
  have ca := hC'.2.2.2.2.1
  have cf := hC'.2.2.2.2.2.1
  have cl := hC'.2.2.2.2.2.2.1
  have cn := hC'.2.2.2.2.2.2.2
  unfold CapN at ca cf cl cn
  have hp31 : p < 2 ^ 31 := by omega
  have hpp : ¬ nI p < 0 := by rw [nI_nn hp31]; exact id
  have hsz : Tr.sz (Tr.appAt (Tr.nd a .leaf) G p) = Tr.sz G + 1 := by rw [Tr.sz_appAt G p hp]; rfl
  have hz1 : nI (Tr.sz G) + 1 = nI (Tr.sz G + 1) := nI_add' _ 1
  have key : ∀ F : NFn, F.1 = g.1 → F.2.1 = g.2.1 → F.2.2.1 = g.2.2.1 → F.2.2.2.1 = g.2.2.2.1 → F.2.2.2.2.1 = upd g.2.2.2.2.1 p (nI (Tr.rt (Tr.chP G p) + 1)) → F.2.2.2.2.2.1 = (if Tr.rt (Tr.chP G p) = 0 then upd g.2.2.2.2.2.1 p (nI (Tr.sz G)) else g.2.2.2.2.2.1) → F.2.2.2.2.2.2.1 = upd g.2.2.2.2.2.2.1 p (nI (Tr.sz G)) → F.2.2.2.2.2.2.2 = (if Tr.rt (Tr.chP G p) = 0 then g.2.2.2.2.2.2.2 else upd g.2.2.2.2.2.2.2 (Tr.lix (p + 1) (Tr.chP G p)) (nI (Tr.sz G))) → Tr.NH F 0 (Tr.appAt (Tr.nd a .leaf) G p) := by
    intro F f1 f2 f3 f4 f5 f6 f7 f8
    refine Tr.NH_cg _ 0 (Tr.sz G + 1) (fun i _ hi => ?_) (by rw [hsz]; omega) hcn
    have hlx : Tr.rt (Tr.chP G p) ≠ 0 → p < Tr.lix (p + 1) (Tr.chP G p) ∧ Tr.lix (p + 1) (Tr.chP G p) < Tr.sz G := fun h => by
      have := Tr.lix_lt (Tr.chP G p) (p + 1) h
      omega
    unfold newF
    rw [f1, f2, f3, f4, f5, f6, f7, f8]
    dsimp only
    by_cases e : i = Tr.sz G
    · subst e
      refine ⟨by rw [upd_self]; exact g1, by rw [upd_self]; exact g2, by rw [upd_self]; exact g3, by rw [upd_self]; exact g4, ?_, ?_, ?_, ?_⟩
      · rw [upd_ne (by omega), upd_ne (by omega), upd_self]; exact g5
      · by_cases d : Tr.rt (Tr.chP G p) = 0
        · rw [if_pos d, if_pos d, upd_ne (by omega), upd_ne (by omega), upd_self]; exact g6
        · rw [if_neg d, if_neg d, upd_self]; exact g6
      · rw [upd_ne (by omega), upd_ne (by omega), upd_self]; exact g7
      · by_cases d : Tr.rt (Tr.chP G p) = 0
        · rw [if_pos d, if_pos d, upd_self]; exact g8
        · have := hlx d
          rw [if_neg d, if_neg d, upd_ne (by omega), upd_ne (by omega), upd_self]; exact g8
    · obtain ⟨v1, v2, v3, v4, v5, v6, v7, v8⟩ := hq i (Nat.zero_le _) (by omega)
      refine ⟨by rw [upd_ne e]; exact v1, by rw [upd_ne e]; exact v2, by rw [upd_ne e]; exact v3, by rw [upd_ne e]; exact v4, ?_, ?_, ?_, ?_⟩
      · by_cases d : i = p
        · subst d; rw [upd_self, upd_self]
        · rw [upd_ne d, upd_ne d, upd_ne e]; exact v5
      · by_cases d0 : Tr.rt (Tr.chP G p) = 0
        · rw [if_pos d0, if_pos d0]
          by_cases d : i = p
          · subst d; rw [upd_self, upd_self]
          · rw [upd_ne d, upd_ne d, upd_ne e]; exact v6
        · rw [if_neg d0, if_neg d0, upd_ne e]; exact v6
      · by_cases d : i = p
        · subst d; rw [upd_self, upd_self]
        · rw [upd_ne d, upd_ne d, upd_ne e]; exact v7
      · by_cases d0 : Tr.rt (Tr.chP G p) = 0
        · rw [if_pos d0, if_pos d0, upd_ne e]; exact v8
        · rw [if_neg d0, if_neg d0]
          by_cases d : i = Tr.lix (p + 1) (Tr.chP G p)
          · rw [d, upd_self, upd_self]
          · rw [upd_ne d, upd_ne d, upd_ne e]; exact v8
  by_cases d : Tr.rt (Tr.chP G p) = 0
  · refine ⟨C', (g.1, g.2.1, g.2.2.1, g.2.2.2.1, upd g.2.2.2.2.1 p (nI (Tr.rt (Tr.chP G p) + 1)), upd g.2.2.2.2.2.1 p (nI (Tr.sz G)), upd g.2.2.2.2.2.2.1 p (nI (Tr.sz G)), g.2.2.2.2.2.2.2), _, _, ?_, hC', key _ rfl rfl rfl rfl rfl (by rw [if_pos d]) rfl (by rw [if_pos d]), hG⟩
    unfold F_Mo_newNode
    refine bw_ok e1 (bw_ok e2 (bw_ok e3 (bw_ok e4 (bw_ok e5 (bw_ok e6 (bw_ok e7 (bw_ok e8 ?_)))))))
    dsimp only
    rw [if_neg hpp, Nm_at (by omega) hp31, Option.bind_some, inb_ok (by omega) hp31, Nm_at (by omega) hp31, Option.bind_some, nI_clamp' hp31, w6, E2, if_pos d, if_neg (show ¬ (0 : Int32) ≤ -1 by decide), inb_ok (by omega) hp31, inb_ok (by omega) hp31, w5, E1, hz1, show nI (Tr.rt (Tr.chP G p)) + 1 = nI (Tr.rt (Tr.chP G p) + 1) from nI_add' _ 1]
  · have hlx := Tr.lix_lt (Tr.chP G p) (p + 1) d
    refine ⟨C', (g.1, g.2.1, g.2.2.1, g.2.2.2.1, upd g.2.2.2.2.1 p (nI (Tr.rt (Tr.chP G p) + 1)), g.2.2.2.2.2.1, upd g.2.2.2.2.2.2.1 p (nI (Tr.sz G)), upd g.2.2.2.2.2.2.2 (Tr.lix (p + 1) (Tr.chP G p)) (nI (Tr.sz G))), _, _, ?_, hC', key _ rfl rfl rfl rfl rfl (by rw [if_neg d]) rfl (by rw [if_neg d]), hG⟩
    unfold F_Mo_newNode
    refine bw_ok e1 (bw_ok e2 (bw_ok e3 (bw_ok e4 (bw_ok e5 (bw_ok e6 (bw_ok e7 (bw_ok e8 ?_)))))))
    dsimp only
    rw [if_neg hpp, Nm_at (by omega) hp31, Option.bind_some, inb_ok (by omega) hp31, Nm_at (by omega) hp31, Option.bind_some, nI_clamp' hp31, w6, E2, if_neg d, if_pos (show (0 : Int32) ≤ nI (p + 1) by rw [nI_ge0 (by omega)]; trivial), Nm_at (by omega) hp31, Option.bind_some, w7, E3, if_neg d, inb_ok (by omega) (by omega), inb_ok (by omega) hp31, w5, E1, hz1, nI_clamp' (by omega), show nI (Tr.rt (Tr.chP G p)) + 1 = nI (Tr.rt (Tr.chP G p) + 1) from nI_add' _ 1]
/-- the first node -/
theorem Mo_new0 {C : NC} {f : NFn} (hc : CapA 0 C) (a : Lb) :
    ∃ (C' : NC) (f' : NFn) (c s : Nat), F_Mo_newNode (-1) a.k a.pl a.sec a.tk q1 q2 q3 q4 q5 q6 q7 q8 q9 (0) C.1 f.1 (0) C.2.1 f.2.1 (0) C.2.2.1 f.2.2.1 (0) C.2.2.2.1 f.2.2.2.1 (0) C.2.2.2.2.1 f.2.2.2.2.1 (0) C.2.2.2.2.2.1 f.2.2.2.2.2.1 (0) C.2.2.2.2.2.2.1 f.2.2.2.2.2.2.1 (0) C.2.2.2.2.2.2.2 f.2.2.2.2.2.2.2 = some ((0 + 1, 0 + 1, 0 + 1, C'.1, f'.1, C'.2.1, f'.2.1, C'.2.2.1, f'.2.2.1, C'.2.2.2.1, f'.2.2.2.1, C'.2.2.2.2.1, f'.2.2.2.2.1, C'.2.2.2.2.2.1, f'.2.2.2.2.2.1, C'.2.2.2.2.2.2.1, f'.2.2.2.2.2.2.1, C'.2.2.2.2.2.2.2, f'.2.2.2.2.2.2.2), c, s) ∧ CapA 1 C' ∧ Tr.NH f' 0 (Tr.nd a .leaf) ∧ GrowA C C' c s := by
  obtain ⟨C', g, c1, s1, c2, s2, c3, s3, c4, s4, c5, s5, c6, s6, c7, s7, c8, s8, hC', hG, hq, g1, g2, g3, g4, g5, g6, g7, g8, e1, e2, e3, e4, e5, e6, e7, e8⟩ := add8 (f := f) hc (by omega) a
  refine ⟨C', g, _, _, ?_, hC', ⟨⟨g1, g2, g3, g4, g5, g6, g7, g8⟩, trivial, trivial⟩, hG⟩
  unfold F_Mo_newNode
  refine bw_ok e1 (bw_ok e2 (bw_ok e3 (bw_ok e4 (bw_ok e5 (bw_ok e6 (bw_ok e7 (bw_ok e8 ?_)))))))
  dsimp only
  rw [if_pos (show (-1 : Int32) < 0 by decide)]
end New
end
