section
/-- the state behind the two constructors -/
def lw0 : LW := ((1, 0, fun _ => (0, 0, 0, -1, 0, 0, 0, 0, 0, 0, 0, 0, 0), -1, 0, 128, fun _ => 0, 0, 0, -1, 0, 0), (0, 0, 0, 0, 0, 16, fun _ => 0, fun _ => 0, 0, 128, fun _ => 0, 0), (0, 0, 0, 0, -1, 0, 0, 0, -1, 0, 0, 0), (0, 0, 0, 0, 0, 0, 0, 0, 0, 0, 0, 0), (0, 224, fun _ => 0, 64, fun _ => 0, 64, fun _ => 0, 0, 224, fun _ => 0, 0, 16), (fun _ => 0, 0, 0, 0, 16, fun _ => 0, 16, fun _ => 0, 16, fun _ => 0, 0, 0), (0, 16, fun _ => 0, 16, fun _ => 0, 16, fun _ => 0, 0, 0, 0, 0, 0), (0, 0, 0, 0, 0, 0, 16, fun _ => 0, 0, 16, fun _ => 0, 16), (fun _ => 0, 16, fun _ => 0, 16, fun _ => 0, 16, fun _ => 0, 16, fun _ => 0, 16, fun _ => 0, 16), (fun _ => 0, 16, fun _ => 0, 16, fun _ => 0, 16, fun _ => 0, 0, 16, fun _ => 0, 0, 16), (fun _ => 0, 0, 16, fun _ => 0, 0, 16, fun _ => 0, 0, 128, fun _ => 0, 0, 1), (0, 128, fun _ => 0, 0, 16, fun _ => 0, 0, 16, fun _ => 0))
theorem fit_0 : fitB (0 : Int32) := zero_fit
theorem row_0 : RowV 128 (fun _ => 0) [] := ⟨Nat.zero_le _, ⟨0, Nat.zero_le _, rfl⟩, fun i h => absurd h (Nat.not_lt_zero _), fun i h => absurd h (Nat.not_lt_zero _), fun i _ => fit_0⟩
theorem vec_0 : Vec 16 (fun _ => 0) [] := ⟨Nat.zero_le _, Nat.le_refl _, by omega, fun i h => absurd h (Nat.not_lt_zero _)⟩
theorem cap_0 {b : Nat} (h : 16 ≤ b) : Cap b 16 := ⟨Nat.le_refl _, h⟩
theorem nd_0 : ndCap 224 := Or.inr ⟨0, Nat.zero_le _, rfl⟩
theorem cn_0 : CapN 0 16 := ⟨Nat.zero_le _, Nat.le_refl _, by omega⟩
theorem inv_0 : INV lw0 [] [] [] [] :=
  ⟨row_0, rfl, vec_0, rfl, by show 16 ≤ 131072; omega, row_0, rfl, vec_0, rfl, by show 16 ≤ 131072; omega, row_0, rfl, row_0, rfl, rfl, ⟨by show 0 < 1; omega, nd_0, ⟨0, Nat.zero_le _, rfl⟩, ⟨0, Nat.zero_le _, rfl⟩⟩, by show 1 ≤ 32772; omega, nd_0, cap_0 (by omega), cap_0 (by omega), cap_0 (by omega), cap_0 (by omega), cap_0 (by omega), cap_0 (by omega), cap_0 (by omega), cap_0 (by omega), cap_0 (by omega), cap_0 (by omega), cap_0 (by omega), cap_0 (by omega), cap_0 (by omega), cap_0 (by omega), cap_0 (by omega), cap_0 (by omega), ⟨cn_0, cn_0, cn_0, cn_0, cn_0, cn_0, cn_0, cn_0⟩, Or.inl ⟨rfl, rfl⟩⟩
theorem law_all {L : Nat} {xs : Nat → Int32} {B : Nat → Int32} {n_m2 : Nat} {b_m2 : Nat → Int32} (hL : L ≤ 3072) (hr : RkIs n_m2 b_m2) (hB : ∀ i, i < 309 → B (308 - i) = nI (bnd i)) : ∃ c sl : Nat, LawF L xs 1 309 B n_m2 b_m2 FU (nI 0) lw0 = some (1, c, sl) ∧ c ≤ 40000 ∧ sl ≤ 6580000 := by
  obtain ⟨c, sl, e, h1, h2⟩ := law_run (L := L) (xs := xs) (n_ou := 1) (by omega) hr hB (by omega) 513 FU 0 lw0 [] [] [] [] inv_0 (Nat.zero_le _) (by omega) (by unfold FU; omega)
  exact ⟨c, sl, e, by omega, by omega⟩
end
