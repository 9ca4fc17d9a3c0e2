section
/-- a node more: b at n, the last part of P, which had cnt parts, the last of them li -/
def newF (f : NFn) (P n li cnt : Nat) (b : Lb) : NFn :=
  (upd f.1 n b.k, upd f.2.1 n b.pl, upd f.2.2.1 n b.sec, upd f.2.2.2.1 n b.tk, upd (upd f.2.2.2.2.1 n 0) P (nI (cnt + 1)), (if cnt = 0 then upd (upd f.2.2.2.2.2.1 n (-1)) P (nI n) else upd f.2.2.2.2.2.1 n (-1)), upd (upd f.2.2.2.2.2.2.1 n (-1)) P (nI n), (if cnt = 0 then upd f.2.2.2.2.2.2.2 n (-1) else upd (upd f.2.2.2.2.2.2.2 n (-1)) li (nI n)))
section Nw
variable {f : NFn} {P n li cnt : Nat} {b : Lb}
theorem newF_at {i : Nat} (h1 : i ≠ P) (h2 : i ≠ n) (h3 : cnt ≠ 0 → i ≠ li) : (newF f P n li cnt b).1 i = f.1 i ∧ (newF f P n li cnt b).2.1 i = f.2.1 i ∧ (newF f P n li cnt b).2.2.1 i = f.2.2.1 i ∧ (newF f P n li cnt b).2.2.2.1 i = f.2.2.2.1 i ∧ (newF f P n li cnt b).2.2.2.2.1 i = f.2.2.2.2.1 i ∧ (newF f P n li cnt b).2.2.2.2.2.1 i = f.2.2.2.2.2.1 i ∧ (newF f P n li cnt b).2.2.2.2.2.2.1 i = f.2.2.2.2.2.2.1 i ∧ (newF f P n li cnt b).2.2.2.2.2.2.2 i = f.2.2.2.2.2.2.2 i := by
  unfold newF
  refine ⟨upd_ne h2, upd_ne h2, upd_ne h2, upd_ne h2, ?_, ?_, ?_, ?_⟩
  · show upd (upd f.2.2.2.2.1 n 0) P (nI (cnt + 1)) i = _
    rw [upd_ne h1, upd_ne h2]
  · show (if cnt = 0 then upd (upd f.2.2.2.2.2.1 n (-1)) P (nI n) else upd f.2.2.2.2.2.1 n (-1)) i = _
    by_cases c : cnt = 0
    · rw [if_pos c, upd_ne h1, upd_ne h2]
    · rw [if_neg c, upd_ne h2]
  · show upd (upd f.2.2.2.2.2.2.1 n (-1)) P (nI n) i = _
    rw [upd_ne h1, upd_ne h2]
  · show (if cnt = 0 then upd f.2.2.2.2.2.2.2 n (-1) else upd (upd f.2.2.2.2.2.2.2 n (-1)) li (nI n)) i = _
    by_cases c : cnt = 0
    · rw [if_pos c, upd_ne h2]
    · rw [if_neg c, upd_ne (h3 c), upd_ne h2]
theorem newF_eq {q e : Nat} (h1 : P < q ∨ e ≤ P) (h2 : n < q ∨ e ≤ n) (h3 : cnt ≠ 0 → li < q ∨ e ≤ li) : NFeq f (newF f P n li cnt b) q e := fun i a c => newF_at (by omega) (by omega) (fun h => by have := h3 h; omega)
/-- the new node itself -/
theorem newF_n (h1 : n ≠ P) (h2 : cnt ≠ 0 → n ≠ li) : NdAt (newF f P n li cnt b) n b .leaf .leaf := by
  unfold newF
  refine ⟨upd_self, upd_self, upd_self, upd_self, ?_, ?_, ?_, ?_⟩
  · show upd (upd f.2.2.2.2.1 n 0) P (nI (cnt + 1)) n = nI 0
    rw [upd_ne h1, upd_self]; rfl
  · show (if cnt = 0 then upd (upd f.2.2.2.2.2.1 n (-1)) P (nI n) else upd f.2.2.2.2.2.1 n (-1)) n = -1
    by_cases c : cnt = 0
    · rw [if_pos c, upd_ne h1, upd_self]
    · rw [if_neg c, upd_self]
  · show upd (upd f.2.2.2.2.2.2.1 n (-1)) P (nI n) n = -1
    rw [upd_ne h1, upd_self]
  · show (if cnt = 0 then upd f.2.2.2.2.2.2.2 n (-1) else upd (upd f.2.2.2.2.2.2.2 n (-1)) li (nI n)) n = -1
    by_cases c : cnt = 0
    · rw [if_pos c, upd_self]
    · rw [if_neg c, upd_ne (h2 c), upd_self]
/-- a forest with one root more -/
theorem Tr.NH_snoc : ∀ (l : Tr Lb) (q : Nat), P < q → n = q + Tr.sz l → (Tr.rt l ≠ 0 → cnt ≠ 0 ∧ li = Tr.lix q l) → (Tr.rt l = 0 → cnt = 0 ∨ li < q) → Tr.NH f q l → Tr.NH (newF f P n li cnt b) q (Tr.app l (Tr.nd b .leaf))
  | .leaf, q, hP, hn, h1, h2, _ => by
    have hn : n = q := hn
    subst hn
    refine ⟨newF_n (by omega) (fun c => ?_), trivial, trivial⟩
    rcases h2 rfl with h | h
    · exact absurd h c
    · omega
  | .inner z a u l r, q, hP, hn, h1, h2, hN => by
    obtain ⟨n1, n2, n3⟩ := hN
    obtain ⟨hc, hli⟩ := h1 (by simp only [Tr.rt]; omega)
    simp only [Tr.sz] at hn
    show NdAt (newF f P n li cnt b) q a l (Tr.app r (Tr.nd b .leaf)) ∧ Tr.NH (newF f P n li cnt b) (q + 1) l ∧ Tr.NH (newF f P n li cnt b) (q + 1 + Tr.sz l) (Tr.app r (Tr.nd b .leaf))
    rw [Tr.lix] at hli
    by_cases c : Tr.rt r = 0
    · rw [if_pos c] at hli
      have hr := Tr.rt0 c
      subst hr
      simp only [Tr.sz] at hn
      refine ⟨?_, Tr.NH_cg l (q + 1) (q + 1 + Tr.sz l) (newF_eq (by omega) (by omega) (fun _ => by omega)) (Nat.le_refl _) n2, Tr.NH_snoc .leaf (q + 1 + Tr.sz l) (by omega) (by simp only [Tr.sz]; omega) (fun h => absurd rfl h) (fun _ => Or.inr (by omega)) trivial⟩
      obtain ⟨m1, m2, m3, m4, m5, m6, m7, m8⟩ := n1
      unfold newF
      refine ⟨(upd_ne (by omega)).trans m1, (upd_ne (by omega)).trans m2, (upd_ne (by omega)).trans m3, (upd_ne (by omega)).trans m4, ?_, ?_, ?_, ?_⟩
      · show upd (upd f.2.2.2.2.1 n 0) P (nI (cnt + 1)) q = _
        rw [upd_ne (by omega), upd_ne (by omega)]; exact m5
      · show (if cnt = 0 then upd (upd f.2.2.2.2.2.1 n (-1)) P (nI n) else upd f.2.2.2.2.2.1 n (-1)) q = _
        rw [if_neg hc, upd_ne (by omega)]; exact m6
      · show upd (upd f.2.2.2.2.2.2.1 n (-1)) P (nI n) q = _
        rw [upd_ne (by omega), upd_ne (by omega)]; exact m7
      · show (if cnt = 0 then upd f.2.2.2.2.2.2.2 n (-1) else upd (upd f.2.2.2.2.2.2.2 n (-1)) li (nI n)) q = (if Tr.rt (Tr.app .leaf (Tr.nd b .leaf)) = 0 then -1 else nI (q + 1 + Tr.sz l))
        rw [if_neg hc, hli, upd_self, if_neg (show ¬ Tr.rt (Tr.app .leaf (Tr.nd b .leaf)) = 0 by rw [Tr.rt_app]; simp only [Tr.rt]; omega)]
        congr 1
        omega
    · rw [if_neg c] at hli
      have hlx := Tr.lix_lt r (q + 1 + Tr.sz l) c
      refine ⟨?_, Tr.NH_cg l (q + 1) (q + 1 + Tr.sz l) (newF_eq (by omega) (by omega) (fun _ => by omega)) (Nat.le_refl _) n2, Tr.NH_snoc r (q + 1 + Tr.sz l) (by omega) (by omega) (fun _ => ⟨hc, hli⟩) (fun h => absurd h c) n3⟩
      obtain ⟨m1, m2, m3, m4, m5, m6, m7, m8⟩ := n1
      obtain ⟨e1, e2, e3, e4, e5, e6, e7, e8⟩ := newF_at (f := f) (P := P) (n := n) (li := li) (cnt := cnt) (b := b) (i := q) (by omega) (by omega) (fun _ => by omega)
      refine ⟨e1.trans m1, e2.trans m2, e3.trans m3, e4.trans m4, e5.trans m5, e6.trans m6, e7.trans m7, e8.trans ?_⟩
      rw [m8, if_neg c, if_neg (show ¬ Tr.rt (Tr.app r (Tr.nd b .leaf)) = 0 by rw [Tr.rt_app]; simp only [Tr.rt]; omega)]
theorem Tr.NH_new : ∀ (G : Tr Lb) (p q : Nat), Tr.OnP G p → Tr.NH f q G → n = q + Tr.sz G → P = q + p → cnt = Tr.rt (Tr.chP G p) → li = Tr.lix (P + 1) (Tr.chP G p) → Tr.NH (newF f P n li cnt b) q (Tr.appAt (Tr.nd b .leaf) G p)
  | .leaf, _, _, h, _, _, _, _, _ => h.elim
  | .inner z a u l r, p, q, h, hN, hn, hP, hc, hl => by
    unfold Tr.OnP at h
    obtain ⟨n1, n2, n3⟩ := hN
    simp only [Tr.sz] at hn
    rw [Tr.chP] at hc hl
    rw [Tr.appAt]
    by_cases c : Tr.rt r = 0
    · have hr := Tr.rt0 c
      subst hr
      simp only [Tr.sz] at hn
      rw [if_pos c] at h hc hl ⊢
      by_cases d : p = 0
      · rw [if_pos d] at hc hl ⊢
        have hPq : P = q := by omega
        refine ⟨?_, Tr.NH_snoc l (q + 1) (by omega) (by omega) (fun e => ⟨by omega, by rw [hl, hPq]⟩) (fun e => Or.inl (by omega)) n2, trivial⟩
        obtain ⟨m1, m2, m3, m4, m5, m6, m7, m8⟩ := n1
        have hli : cnt ≠ 0 → q < li ∧ li < n := by
          intro e
          have := Tr.lix_lt l (q + 1) (by omega)
          rw [hPq] at hl
          rw [hl]
          omega
        unfold newF
        refine ⟨(upd_ne (by omega)).trans m1, (upd_ne (by omega)).trans m2, (upd_ne (by omega)).trans m3, (upd_ne (by omega)).trans m4, ?_, ?_, ?_, ?_⟩
        · show upd (upd f.2.2.2.2.1 n 0) P (nI (cnt + 1)) q = nI (Tr.rt (Tr.app l (Tr.nd b .leaf)))
          rw [hPq, upd_self, Tr.rt_app, hc]; rfl
        · show (if cnt = 0 then upd (upd f.2.2.2.2.2.1 n (-1)) P (nI n) else upd f.2.2.2.2.2.1 n (-1)) q = (if Tr.rt (Tr.app l (Tr.nd b .leaf)) = 0 then -1 else nI (q + 1))
          rw [if_neg (show ¬ Tr.rt (Tr.app l (Tr.nd b .leaf)) = 0 by rw [Tr.rt_app]; simp only [Tr.rt]; omega)]
          by_cases e : cnt = 0
          · rw [if_pos e, hPq, upd_self]
            have hl0 := Tr.rt0 (hc.symm.trans e)
            subst hl0
            simp only [Tr.sz] at hn
            rw [hn]
          · rw [if_neg e, upd_ne (by omega), m6, if_neg (by omega)]
        · show upd (upd f.2.2.2.2.2.2.1 n (-1)) P (nI n) q = (if Tr.rt (Tr.app l (Tr.nd b .leaf)) = 0 then -1 else nI (Tr.lix (q + 1) (Tr.app l (Tr.nd b .leaf))))
          rw [if_neg (show ¬ Tr.rt (Tr.app l (Tr.nd b .leaf)) = 0 by rw [Tr.rt_app]; simp only [Tr.rt]; omega), hPq, upd_self, Tr.lix_snoc]
          congr 1
          omega
        · show (if cnt = 0 then upd f.2.2.2.2.2.2.2 n (-1) else upd (upd f.2.2.2.2.2.2.2 n (-1)) li (nI n)) q = (if Tr.rt .leaf = 0 then -1 else _)
          rw [if_pos c] at m8
          rw [if_pos c]
          by_cases e : cnt = 0
          · rw [if_pos e, upd_ne (by omega)]; exact m8
          · have := hli e
            rw [if_neg e, upd_ne (by omega), upd_ne (by omega)]; exact m8
      · rw [if_neg d] at hc hl ⊢
        rcases h with g | ⟨g, g2⟩
        · exact absurd g d
        · have hlt := Tr.OnP_lt l _ g2
          refine ⟨?_, Tr.NH_new l (p - 1) (q + 1) g2 n2 (by omega) (by omega) hc hl, trivial⟩
          have hli : cnt ≠ 0 → q < li := by
            intro e
            have := Tr.lix_lt (Tr.chP l (p - 1)) (P + 1) (by omega)
            omega
          obtain ⟨m1, m2, m3, m4, m5, m6, m7, m8⟩ := n1
          obtain ⟨e1, e2, e3, e4, e5, e6, e7, e8⟩ := newF_at (f := f) (P := P) (n := n) (li := li) (cnt := cnt) (b := b) (i := q) (by omega) (by omega) (fun e => by have := hli e; omega)
          refine ⟨e1.trans m1, e2.trans m2, e3.trans m3, e4.trans m4, e5.trans ?_, e6.trans ?_, e7.trans ?_, e8.trans m8⟩
          · rw [Tr.rt_appAt]; exact m5
          · rw [Tr.rt_appAt]; exact m6
          · rw [Tr.rt_appAt, Tr.lix_appAt]; exact m7
    · rw [if_neg c] at h hc hl ⊢
      have hlt := Tr.OnP_lt r _ h.2
      have h1 := h.1
      have hli : cnt ≠ 0 → q + Tr.sz l < li := by
        intro e
        have := Tr.lix_lt (Tr.chP r (p - 1 - Tr.sz l)) (P + 1) (by omega)
        omega
      refine ⟨?_, Tr.NH_cg l (q + 1) (q + 1 + Tr.sz l) (newF_eq (by omega) (by omega) (fun e => by have := hli e; omega)) (Nat.le_refl _) n2, Tr.NH_new r (p - 1 - Tr.sz l) (q + 1 + Tr.sz l) h.2 n3 (by omega) (by omega) hc hl⟩
      obtain ⟨m1, m2, m3, m4, m5, m6, m7, m8⟩ := n1
      obtain ⟨e1, e2, e3, e4, e5, e6, e7, e8⟩ := newF_at (f := f) (P := P) (n := n) (li := li) (cnt := cnt) (b := b) (i := q) (by omega) (by omega) (fun e => by have := hli e; omega)
      refine ⟨e1.trans m1, e2.trans m2, e3.trans m3, e4.trans m4, e5.trans m5, e6.trans m6, e7.trans m7, e8.trans ?_⟩
      rw [Tr.rt_appAt]; exact m8
/-- what the arrays say of a node on the right edge -/
theorem Tr.NH_edge : ∀ (G : Tr Lb) (p q : Nat), Tr.OnP G p → Tr.NH f q G → f.2.2.2.2.1 (q + p) = nI (Tr.rt (Tr.chP G p)) ∧ f.2.2.2.2.2.1 (q + p) = (if Tr.rt (Tr.chP G p) = 0 then -1 else nI (q + p + 1)) ∧ f.2.2.2.2.2.2.1 (q + p) = (if Tr.rt (Tr.chP G p) = 0 then -1 else nI (Tr.lix (q + p + 1) (Tr.chP G p))) ∧ q + p + 1 + Tr.sz (Tr.chP G p) = q + Tr.sz G
  | .leaf, _, _, h, _ => h.elim
  | .inner z a u l r, p, q, h, hN => by
    unfold Tr.OnP at h
    obtain ⟨n1, n2, n3⟩ := hN
    rw [Tr.chP]
    simp only [Tr.sz]
    by_cases c : Tr.rt r = 0
    · have hr := Tr.rt0 c
      subst hr
      simp only [Tr.sz]
      rw [if_pos c] at h ⊢
      by_cases d : p = 0
      · subst d
        rw [if_pos rfl]
        obtain ⟨m1, m2, m3, m4, m5, m6, m7, m8⟩ := n1
        exact ⟨m5, m6, m7, by omega⟩
      · rw [if_neg d]
        rcases h with g | ⟨g, g2⟩
        · exact absurd g d
        · obtain ⟨i1, i2, i3, i4⟩ := Tr.NH_edge l (p - 1) (q + 1) g2 n2
          rw [show q + 1 + (p - 1) = q + p by omega] at i1 i2 i3 i4
          exact ⟨i1, i2, i3, by omega⟩
    · rw [if_neg c] at h ⊢
      obtain ⟨i1, i2, i3, i4⟩ := Tr.NH_edge r (p - 1 - Tr.sz l) (q + 1 + Tr.sz l) h.2 n3
      have := h.1
      rw [show q + 1 + Tr.sz l + (p - 1 - Tr.sz l) = q + p by omega] at i1 i2 i3 i4
      exact ⟨i1, i2, i3, by omega⟩
end Nw
end
