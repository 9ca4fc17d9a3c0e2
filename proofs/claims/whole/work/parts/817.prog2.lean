section
section Stm
variable {T : Tks} {sm : Int32 → Int32 → Int32 → Bool} {m : Nat}
/-- the machine goes from token i to token k, neither settled -/
def Rch (T : Tks) (sm : Int32 → Int32 → Int32 → Bool) (i k : Nat) (s s' : Rs) : Prop := (k = i ∧ s' = s) ∨ GoS T sm i k (s.settle (tokC T i)) s'
theorem Rch.pre {i j k : Nat} {s s' s'' : Rs} (h1 : GoS T sm i j (s.settle (tokC T i)) s') (h2 : Rch T sm j k s' s'') : Rch T sm i k s s'' := by
  rcases h2 with ⟨a, b⟩ | h
  · subst a b; exact Or.inr h1
  · exact Or.inr (h1.go.transS h)
/-- what the reference's reading of a program says of the machine -/
def PgR (T : Tks) (sm : Int32 → Int32 → Int32 → Bool) (m i : Nat) (s : Rs) : Sum Nat Nat → Prop
  | .inl j => j < m ∧ (FltN T sm i j (s.settle (tokC T i)) ∨ (T.tkd j = 0 ∧ ∃ s' bl' fs', bl' ≠ [] ∧ Rch T sm i j s s' ∧ SR T m j bl' fs' s'))
  | .inr k => T.tkd k = 0 ∧ ∃ s' fs', Rch T sm i k s s' ∧ SR T m k [] fs' s'
theorem prog_run (hT : TkOK T m) : ∀ (fu i : Nat) (bl fs : List Nat) (s : Rs), SR T m i bl fs s → m - i < fu → PgR T sm m i s (rdP T.tkd (sameT T sm) fu i bl fs)
  | 0, i, bl, fs, s, _, h => by omega
  | fu + 1, i, bl, fs, s, hR, hf => by
    have hi : i < m := by obtain ⟨_, _, _, _, _, _, _, _, hi, _⟩ := hR; exact hi
    have hbl : bl.length ≤ 60 := by obtain ⟨_, _, _, _, _, _, hbl, _⟩ := hR; exact hbl
    rw [rdP]
    by_cases c : T.tkd i = 0
    · rw [if_pos c]
      by_cases d : bl = []
      · rw [if_pos d]
        subst d
        exact ⟨c, s, fs, Or.inl ⟨rfl, rfl⟩, hR⟩
      · rw [if_neg d]
        exact ⟨hi, Or.inr ⟨c, s, bl, fs, d, Or.inl ⟨rfl, rfl⟩, hR⟩⟩
    · rw [if_neg c]
      have h1 := stm_any (sm := sm) hT hR c
      have h2 := any_gt hT (SN := sameT T sm) (fs := fs) hi hbl
      cases e : stAny T.tkd (sameT T sm) i bl fs with
      | inl j =>
        rw [e] at h1
        exact ⟨h1.1, Or.inl h1.2⟩
      | inr q =>
        obtain ⟨i', bl', fs'⟩ := q
        rw [e] at h1 h2
        have h2 : i < i' := h2
        obtain ⟨s', hg, hR'⟩ := h1
        have ih := prog_run hT fu i' bl' fs' s' hR' (by omega)
        show PgR T sm m i s (rdP T.tkd (sameT T sm) fu i' bl' fs')
        cases e2 : rdP T.tkd (sameT T sm) fu i' bl' fs' with
        | inl j =>
          rw [e2] at ih
          obtain ⟨a1, a2 | ⟨a2, s2, bl2, fs2, a3, a4, a5⟩⟩ := ih
          · exact ⟨a1, Or.inl (hg.go.flt a2)⟩
          · exact ⟨a1, Or.inr ⟨a2, s2, bl2, fs2, a3, Rch.pre hg a4, a5⟩⟩
        | inr k =>
          rw [e2] at ih
          obtain ⟨a1, s2, fs2, a2, a3⟩ := ih
          exact ⟨a1, s2, fs2, Rch.pre hg a2, a3⟩
end Stm
end
