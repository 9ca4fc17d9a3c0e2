section
theorem nI_tI {k : Nat} (h : k < 2 ^ 31) : (nI k).toInt = (k : Int) := Int32.toInt_ofNat_of_lt h
theorem sub6 {L : Nat} (h : L ≤ 4000) : (nI L - nI 6).toInt = (L : Int) - 6 := by
  rw [Int32.toInt_sub, nI_tI (by omega), nI_tI (by omega)]
  unfold Int.bmod
  dsimp only
  split <;> omega
theorem lt_sub6 {L i : Nat} (hL : L < i + 6) (hL2 : L ≤ 4000) (hi : i ≤ L) : nI L - nI 6 < nI i := by
  have h1 : (nI L - nI 6).toInt = (L : Int) - 6 := sub6 hL2
  rw [Int32.lt_iff_toInt_lt, h1, show (nI i).toInt = (i : Int) from nI_tI (by omega)]
  omega
theorem nlt_sub6 {L i : Nat} (hL : i + 6 ≤ L) (hL2 : L ≤ 4000) : ¬ nI L - 6 < nI i := by
  have h1 : (nI L - nI 6).toInt = (L : Int) - 6 := sub6 hL2
  rw [show nI L - 6 = nI L - nI 6 from rfl, Int32.lt_iff_toInt_lt, h1, show (nI i).toInt = (i : Int) from nI_tI (by omega)]
  omega
/-! the state at the head of the law's loop, in groups -/
abbrev LW0 : Type := Nat × Nat × ((Nat → FrC)) × Int32 × Int32 × Nat × ((Nat → Int32)) × Int32 × Int32 × Int32 × Int32 × Int32
abbrev LW1 : Type := Int32 × Int32 × Int32 × Int32 × Int32 × Nat × ((Nat → Int32)) × ((Nat → Int64)) × Int32 × Nat × ((Nat → Int32)) × Int32
abbrev LW2 : Type := Int32 × Int32 × Int32 × Int32 × Int32 × Int32 × Int32 × Int32 × Int32 × Int32 × Int32 × Int32
abbrev LW3 : Type := Int32 × Int32 × Int32 × Int32 × Int32 × Int32 × Int32 × Int32 × Int32 × Int32 × Int32 × Int32
abbrev LW4 : Type := Int32 × Nat × ((Nat → Int32)) × Nat × ((Nat → Int32)) × Nat × ((Nat → Int32)) × Int32 × Nat × ((Nat → Int32)) × Int32 × Nat
abbrev LW5 : Type := ((Nat → Int32)) × Int32 × Int32 × Int32 × Nat × ((Nat → Int32)) × Nat × ((Nat → Int32)) × Nat × ((Nat → Int32)) × Int32 × Int32
abbrev LW6 : Type := Int32 × Nat × ((Nat → Int32)) × Nat × ((Nat → Int32)) × Nat × ((Nat → Int32)) × Int32 × Int32 × Int32 × Int32 × Int32
abbrev LW7 : Type := Int32 × Int32 × Int32 × Int32 × Int32 × Int32 × Nat × ((Nat → Int32)) × Int32 × Nat × ((Nat → Int32)) × Nat
abbrev LW8 : Type := ((Nat → Int32)) × Nat × ((Nat → Int32)) × Nat × ((Nat → Int32)) × Nat × ((Nat → Int32)) × Nat × ((Nat → Int32)) × Nat × ((Nat → Int32)) × Nat
abbrev LW9 : Type := ((Nat → Int32)) × Nat × ((Nat → Int32)) × Nat × ((Nat → Int32)) × Nat × ((Nat → Int32)) × Int32 × Nat × ((Nat → Int32)) × Int32 × Nat
abbrev LW10 : Type := ((Nat → Int32)) × Int32 × Nat × ((Nat → Int32)) × Int32 × Nat × ((Nat → Int32)) × Int32 × Nat × ((Nat → Int32)) × Int32 × Int32
abbrev LW11 : Type := Int32 × Nat × ((Nat → Int32)) × Int32 × Nat × ((Nat → Int32)) × Int32 × Nat × ((Nat → Int32))
abbrev LW : Type := LW0 × LW1 × LW2 × LW3 × LW4 × LW5 × LW6 × LW7 × LW8 × LW9 × LW10 × LW11
abbrev LW.n9 (z : LW) : Nat := z.1.1
abbrev LW.d9 (z : LW) : Nat := z.1.2.1
abbrev LW.c9 (z : LW) : (Nat → FrC) := z.1.2.2.1
abbrev LW.f0_7 (z : LW) : Int32 := z.1.2.2.2.1
abbrev LW.f1_1 (z : LW) : Int32 := z.1.2.2.2.2.1
abbrev LW.n2 (z : LW) : Nat := z.1.2.2.2.2.2.1
abbrev LW.b2 (z : LW) : (Nat → Int32) := z.1.2.2.2.2.2.2.1
abbrev LW.f3_8 (z : LW) : Int32 := z.1.2.2.2.2.2.2.2.1
abbrev LW.f3_13 (z : LW) : Int32 := z.1.2.2.2.2.2.2.2.2.1
abbrev LW.f3_14 (z : LW) : Int32 := z.1.2.2.2.2.2.2.2.2.2.1
abbrev LW.f3_16 (z : LW) : Int32 := z.1.2.2.2.2.2.2.2.2.2.2.1
abbrev LW.f3_17 (z : LW) : Int32 := z.1.2.2.2.2.2.2.2.2.2.2.2
abbrev LW.f3_18 (z : LW) : Int32 := z.2.1.1
abbrev LW.f3_19 (z : LW) : Int32 := z.2.1.2.1
abbrev LW.f3_23 (z : LW) : Int32 := z.2.1.2.2.1
abbrev LW.f3_36 (z : LW) : Int32 := z.2.1.2.2.2.1
abbrev LW.f4_1 (z : LW) : Int32 := z.2.1.2.2.2.2.1
abbrev LW.n5 (z : LW) : Nat := z.2.1.2.2.2.2.2.1
abbrev LW.b5 (z : LW) : (Nat → Int32) := z.2.1.2.2.2.2.2.2.1
abbrev LW.b6 (z : LW) : (Nat → Int64) := z.2.1.2.2.2.2.2.2.2.1
abbrev LW.f7_1 (z : LW) : Int32 := z.2.1.2.2.2.2.2.2.2.2.1
abbrev LW.n8 (z : LW) : Nat := z.2.1.2.2.2.2.2.2.2.2.2.1
abbrev LW.b8 (z : LW) : (Nat → Int32) := z.2.1.2.2.2.2.2.2.2.2.2.2.1
abbrev LW.f9_7 (z : LW) : Int32 := z.2.1.2.2.2.2.2.2.2.2.2.2.2
abbrev LW.f9_8 (z : LW) : Int32 := z.2.2.1.1
abbrev LW.f9_9 (z : LW) : Int32 := z.2.2.1.2.1
abbrev LW.f9_10 (z : LW) : Int32 := z.2.2.1.2.2.1
abbrev LW.f9_11 (z : LW) : Int32 := z.2.2.1.2.2.2.1
abbrev LW.f9_12 (z : LW) : Int32 := z.2.2.1.2.2.2.2.1
abbrev LW.f10_2 (z : LW) : Int32 := z.2.2.1.2.2.2.2.2.1
abbrev LW.f10_3 (z : LW) : Int32 := z.2.2.1.2.2.2.2.2.2.1
abbrev LW.f10_4 (z : LW) : Int32 := z.2.2.1.2.2.2.2.2.2.2.1
abbrev LW.f10_5 (z : LW) : Int32 := z.2.2.1.2.2.2.2.2.2.2.2.1
abbrev LW.f10_6 (z : LW) : Int32 := z.2.2.1.2.2.2.2.2.2.2.2.2.1
abbrev LW.f10_7 (z : LW) : Int32 := z.2.2.1.2.2.2.2.2.2.2.2.2.2.1
abbrev LW.f10_8 (z : LW) : Int32 := z.2.2.1.2.2.2.2.2.2.2.2.2.2.2
abbrev LW.f10_9 (z : LW) : Int32 := z.2.2.2.1.1
abbrev LW.f10_10 (z : LW) : Int32 := z.2.2.2.1.2.1
abbrev LW.f10_11 (z : LW) : Int32 := z.2.2.2.1.2.2.1
abbrev LW.f10_12 (z : LW) : Int32 := z.2.2.2.1.2.2.2.1
abbrev LW.f10_13 (z : LW) : Int32 := z.2.2.2.1.2.2.2.2.1
abbrev LW.f10_14 (z : LW) : Int32 := z.2.2.2.1.2.2.2.2.2.1
abbrev LW.f11_1 (z : LW) : Int32 := z.2.2.2.1.2.2.2.2.2.2.1
abbrev LW.f11_2 (z : LW) : Int32 := z.2.2.2.1.2.2.2.2.2.2.2.1
abbrev LW.f11_3 (z : LW) : Int32 := z.2.2.2.1.2.2.2.2.2.2.2.2.1
abbrev LW.f11_4 (z : LW) : Int32 := z.2.2.2.1.2.2.2.2.2.2.2.2.2.1
abbrev LW.f12_1 (z : LW) : Int32 := z.2.2.2.1.2.2.2.2.2.2.2.2.2.2.1
abbrev LW.f13_1 (z : LW) : Int32 := z.2.2.2.1.2.2.2.2.2.2.2.2.2.2.2
abbrev LW.f14_1 (z : LW) : Int32 := z.2.2.2.2.1.1
abbrev LW.n15 (z : LW) : Nat := z.2.2.2.2.1.2.1
abbrev LW.b15 (z : LW) : (Nat → Int32) := z.2.2.2.2.1.2.2.1
abbrev LW.n16 (z : LW) : Nat := z.2.2.2.2.1.2.2.2.1
abbrev LW.b16 (z : LW) : (Nat → Int32) := z.2.2.2.2.1.2.2.2.2.1
abbrev LW.n17 (z : LW) : Nat := z.2.2.2.2.1.2.2.2.2.2.1
abbrev LW.b17 (z : LW) : (Nat → Int32) := z.2.2.2.2.1.2.2.2.2.2.2.1
abbrev LW.f18_1 (z : LW) : Int32 := z.2.2.2.2.1.2.2.2.2.2.2.2.1
abbrev LW.n19 (z : LW) : Nat := z.2.2.2.2.1.2.2.2.2.2.2.2.2.1
abbrev LW.b19 (z : LW) : (Nat → Int32) := z.2.2.2.2.1.2.2.2.2.2.2.2.2.2.1
abbrev LW.f20_1 (z : LW) : Int32 := z.2.2.2.2.1.2.2.2.2.2.2.2.2.2.2.1
abbrev LW.n21 (z : LW) : Nat := z.2.2.2.2.1.2.2.2.2.2.2.2.2.2.2.2
abbrev LW.b21 (z : LW) : (Nat → Int32) := z.2.2.2.2.2.1.1
abbrev LW.f22_1 (z : LW) : Int32 := z.2.2.2.2.2.1.2.1
abbrev LW.f23_1 (z : LW) : Int32 := z.2.2.2.2.2.1.2.2.1
abbrev LW.f24_1 (z : LW) : Int32 := z.2.2.2.2.2.1.2.2.2.1
abbrev LW.n28 (z : LW) : Nat := z.2.2.2.2.2.1.2.2.2.2.1
abbrev LW.b28 (z : LW) : (Nat → Int32) := z.2.2.2.2.2.1.2.2.2.2.2.1
abbrev LW.n29 (z : LW) : Nat := z.2.2.2.2.2.1.2.2.2.2.2.2.1
abbrev LW.b29 (z : LW) : (Nat → Int32) := z.2.2.2.2.2.1.2.2.2.2.2.2.2.1
abbrev LW.n30 (z : LW) : Nat := z.2.2.2.2.2.1.2.2.2.2.2.2.2.2.1
abbrev LW.b30 (z : LW) : (Nat → Int32) := z.2.2.2.2.2.1.2.2.2.2.2.2.2.2.2.1
abbrev LW.f31_1 (z : LW) : Int32 := z.2.2.2.2.2.1.2.2.2.2.2.2.2.2.2.2.1
abbrev LW.f32_1 (z : LW) : Int32 := z.2.2.2.2.2.1.2.2.2.2.2.2.2.2.2.2.2
abbrev LW.f33_1 (z : LW) : Int32 := z.2.2.2.2.2.2.1.1
abbrev LW.n34 (z : LW) : Nat := z.2.2.2.2.2.2.1.2.1
abbrev LW.b34 (z : LW) : (Nat → Int32) := z.2.2.2.2.2.2.1.2.2.1
abbrev LW.n36 (z : LW) : Nat := z.2.2.2.2.2.2.1.2.2.2.1
abbrev LW.b36 (z : LW) : (Nat → Int32) := z.2.2.2.2.2.2.1.2.2.2.2.1
abbrev LW.n37 (z : LW) : Nat := z.2.2.2.2.2.2.1.2.2.2.2.2.1
abbrev LW.b37 (z : LW) : (Nat → Int32) := z.2.2.2.2.2.2.1.2.2.2.2.2.2.1
abbrev LW.f38_1 (z : LW) : Int32 := z.2.2.2.2.2.2.1.2.2.2.2.2.2.2.1
abbrev LW.f39_1 (z : LW) : Int32 := z.2.2.2.2.2.2.1.2.2.2.2.2.2.2.2.1
abbrev LW.f40_1 (z : LW) : Int32 := z.2.2.2.2.2.2.1.2.2.2.2.2.2.2.2.2.1
abbrev LW.f41_1 (z : LW) : Int32 := z.2.2.2.2.2.2.1.2.2.2.2.2.2.2.2.2.2.1
abbrev LW.f42_1 (z : LW) : Int32 := z.2.2.2.2.2.2.1.2.2.2.2.2.2.2.2.2.2.2
abbrev LW.f43_1 (z : LW) : Int32 := z.2.2.2.2.2.2.2.1.1
abbrev LW.f44_1 (z : LW) : Int32 := z.2.2.2.2.2.2.2.1.2.1
abbrev LW.f45_1 (z : LW) : Int32 := z.2.2.2.2.2.2.2.1.2.2.1
abbrev LW.f46_1 (z : LW) : Int32 := z.2.2.2.2.2.2.2.1.2.2.2.1
abbrev LW.f47_1 (z : LW) : Int32 := z.2.2.2.2.2.2.2.1.2.2.2.2.1
abbrev LW.f48_1 (z : LW) : Int32 := z.2.2.2.2.2.2.2.1.2.2.2.2.2.1
abbrev LW.n49 (z : LW) : Nat := z.2.2.2.2.2.2.2.1.2.2.2.2.2.2.1
abbrev LW.b49 (z : LW) : (Nat → Int32) := z.2.2.2.2.2.2.2.1.2.2.2.2.2.2.2.1
abbrev LW.f50_1 (z : LW) : Int32 := z.2.2.2.2.2.2.2.1.2.2.2.2.2.2.2.2.1
abbrev LW.n51 (z : LW) : Nat := z.2.2.2.2.2.2.2.1.2.2.2.2.2.2.2.2.2.1
abbrev LW.b51 (z : LW) : (Nat → Int32) := z.2.2.2.2.2.2.2.1.2.2.2.2.2.2.2.2.2.2.1
abbrev LW.n52 (z : LW) : Nat := z.2.2.2.2.2.2.2.1.2.2.2.2.2.2.2.2.2.2.2
abbrev LW.b52 (z : LW) : (Nat → Int32) := z.2.2.2.2.2.2.2.2.1.1
abbrev LW.n53 (z : LW) : Nat := z.2.2.2.2.2.2.2.2.1.2.1
abbrev LW.b53 (z : LW) : (Nat → Int32) := z.2.2.2.2.2.2.2.2.1.2.2.1
abbrev LW.n54 (z : LW) : Nat := z.2.2.2.2.2.2.2.2.1.2.2.2.1
abbrev LW.b54 (z : LW) : (Nat → Int32) := z.2.2.2.2.2.2.2.2.1.2.2.2.2.1
abbrev LW.n55 (z : LW) : Nat := z.2.2.2.2.2.2.2.2.1.2.2.2.2.2.1
abbrev LW.b55 (z : LW) : (Nat → Int32) := z.2.2.2.2.2.2.2.2.1.2.2.2.2.2.2.1
abbrev LW.n56 (z : LW) : Nat := z.2.2.2.2.2.2.2.2.1.2.2.2.2.2.2.2.1
abbrev LW.b56 (z : LW) : (Nat → Int32) := z.2.2.2.2.2.2.2.2.1.2.2.2.2.2.2.2.2.1
abbrev LW.n57 (z : LW) : Nat := z.2.2.2.2.2.2.2.2.1.2.2.2.2.2.2.2.2.2.1
abbrev LW.b57 (z : LW) : (Nat → Int32) := z.2.2.2.2.2.2.2.2.1.2.2.2.2.2.2.2.2.2.2.1
abbrev LW.n58 (z : LW) : Nat := z.2.2.2.2.2.2.2.2.1.2.2.2.2.2.2.2.2.2.2.2
abbrev LW.b58 (z : LW) : (Nat → Int32) := z.2.2.2.2.2.2.2.2.2.1.1
abbrev LW.n59 (z : LW) : Nat := z.2.2.2.2.2.2.2.2.2.1.2.1
abbrev LW.b59 (z : LW) : (Nat → Int32) := z.2.2.2.2.2.2.2.2.2.1.2.2.1
abbrev LW.n60 (z : LW) : Nat := z.2.2.2.2.2.2.2.2.2.1.2.2.2.1
abbrev LW.b60 (z : LW) : (Nat → Int32) := z.2.2.2.2.2.2.2.2.2.1.2.2.2.2.1
abbrev LW.n61 (z : LW) : Nat := z.2.2.2.2.2.2.2.2.2.1.2.2.2.2.2.1
abbrev LW.b61 (z : LW) : (Nat → Int32) := z.2.2.2.2.2.2.2.2.2.1.2.2.2.2.2.2.1
abbrev LW.f62_1 (z : LW) : Int32 := z.2.2.2.2.2.2.2.2.2.1.2.2.2.2.2.2.2.1
abbrev LW.n63 (z : LW) : Nat := z.2.2.2.2.2.2.2.2.2.1.2.2.2.2.2.2.2.2.1
abbrev LW.b63 (z : LW) : (Nat → Int32) := z.2.2.2.2.2.2.2.2.2.1.2.2.2.2.2.2.2.2.2.1
abbrev LW.f64_1 (z : LW) : Int32 := z.2.2.2.2.2.2.2.2.2.1.2.2.2.2.2.2.2.2.2.2.1
abbrev LW.n65 (z : LW) : Nat := z.2.2.2.2.2.2.2.2.2.1.2.2.2.2.2.2.2.2.2.2.2
abbrev LW.b65 (z : LW) : (Nat → Int32) := z.2.2.2.2.2.2.2.2.2.2.1.1
abbrev LW.f66_1 (z : LW) : Int32 := z.2.2.2.2.2.2.2.2.2.2.1.2.1
abbrev LW.n67 (z : LW) : Nat := z.2.2.2.2.2.2.2.2.2.2.1.2.2.1
abbrev LW.b67 (z : LW) : (Nat → Int32) := z.2.2.2.2.2.2.2.2.2.2.1.2.2.2.1
abbrev LW.f68_1 (z : LW) : Int32 := z.2.2.2.2.2.2.2.2.2.2.1.2.2.2.2.1
abbrev LW.n69 (z : LW) : Nat := z.2.2.2.2.2.2.2.2.2.2.1.2.2.2.2.2.1
abbrev LW.b69 (z : LW) : (Nat → Int32) := z.2.2.2.2.2.2.2.2.2.2.1.2.2.2.2.2.2.1
abbrev LW.f70_1 (z : LW) : Int32 := z.2.2.2.2.2.2.2.2.2.2.1.2.2.2.2.2.2.2.1
abbrev LW.n71 (z : LW) : Nat := z.2.2.2.2.2.2.2.2.2.2.1.2.2.2.2.2.2.2.2.1
abbrev LW.b71 (z : LW) : (Nat → Int32) := z.2.2.2.2.2.2.2.2.2.2.1.2.2.2.2.2.2.2.2.2.1
abbrev LW.f72_3 (z : LW) : Int32 := z.2.2.2.2.2.2.2.2.2.2.1.2.2.2.2.2.2.2.2.2.2.1
abbrev LW.f72_4 (z : LW) : Int32 := z.2.2.2.2.2.2.2.2.2.2.1.2.2.2.2.2.2.2.2.2.2.2
abbrev LW.f73_1 (z : LW) : Int32 := z.2.2.2.2.2.2.2.2.2.2.2.1
abbrev LW.n74 (z : LW) : Nat := z.2.2.2.2.2.2.2.2.2.2.2.2.1
abbrev LW.b74 (z : LW) : (Nat → Int32) := z.2.2.2.2.2.2.2.2.2.2.2.2.2.1
abbrev LW.f75_1 (z : LW) : Int32 := z.2.2.2.2.2.2.2.2.2.2.2.2.2.2.1
abbrev LW.n76 (z : LW) : Nat := z.2.2.2.2.2.2.2.2.2.2.2.2.2.2.2.1
abbrev LW.b76 (z : LW) : (Nat → Int32) := z.2.2.2.2.2.2.2.2.2.2.2.2.2.2.2.2.1
abbrev LW.f77_1 (z : LW) : Int32 := z.2.2.2.2.2.2.2.2.2.2.2.2.2.2.2.2.2.1
abbrev LW.n78 (z : LW) : Nat := z.2.2.2.2.2.2.2.2.2.2.2.2.2.2.2.2.2.2.1
abbrev LW.b78 (z : LW) : (Nat → Int32) := z.2.2.2.2.2.2.2.2.2.2.2.2.2.2.2.2.2.2.2
noncomputable def LawF (L : Nat) (xs : Nat → Int32) (n_ou : Nat) (n_m15 : Nat) (b_m15 : Nat → Int32) (n_m2 : Nat) (b_m2 : Nat → Int32) (fu : Nat) (i : Int32) (s : LW) : Option (Int32 × Nat × Nat) := F_La_law_23 L xs n_ou n_m15 b_m15 n_m2 b_m2 fu i s.n9 s.d9 s.c9 s.f0_7 s.f1_1 s.n2 s.b2 s.f3_8 s.f3_13 s.f3_14 s.f3_16 s.f3_17 s.f3_18 s.f3_19 s.f3_23 s.f3_36 s.f4_1 s.n5 s.b5 s.b6 s.f7_1 s.n8 s.b8 s.f9_7 s.f9_8 s.f9_9 s.f9_10 s.f9_11 s.f9_12 s.f10_2 s.f10_3 s.f10_4 s.f10_5 s.f10_6 s.f10_7 s.f10_8 s.f10_9 s.f10_10 s.f10_11 s.f10_12 s.f10_13 s.f10_14 s.f11_1 s.f11_2 s.f11_3 s.f11_4 s.f12_1 s.f13_1 s.f14_1 s.n15 s.b15 s.n16 s.b16 s.n17 s.b17 s.f18_1 s.n19 s.b19 s.f20_1 s.n21 s.b21 s.f22_1 s.f23_1 s.f24_1 s.n28 s.b28 s.n29 s.b29 s.n30 s.b30 s.f31_1 s.f32_1 s.f33_1 s.n34 s.b34 s.n36 s.b36 s.n37 s.b37 s.f38_1 s.f39_1 s.f40_1 s.f41_1 s.f42_1 s.f43_1 s.f44_1 s.f45_1 s.f46_1 s.f47_1 s.f48_1 s.n49 s.b49 s.f50_1 s.n51 s.b51 s.n52 s.b52 s.n53 s.b53 s.n54 s.b54 s.n55 s.b55 s.n56 s.b56 s.n57 s.b57 s.n58 s.b58 s.n59 s.b59 s.n60 s.b60 s.n61 s.b61 s.f62_1 s.n63 s.b63 s.f64_1 s.n65 s.b65 s.f66_1 s.n67 s.b67 s.f68_1 s.n69 s.b69 s.f70_1 s.n71 s.b71 s.f72_3 s.f72_4 s.f73_1 s.n74 s.b74 s.f75_1 s.n76 s.b76 s.f77_1 s.n78 s.b78
/-- behind feed -/
abbrev LW.do_feed (s : LW) (r10 : Int32) (r11 : Nat) (r12 : (Nat → Int32)) (r25 : Int32) (r26 : Nat) (r27 : (Nat → Int32)) : LW := ((s.n9, s.d9, s.c9, s.f0_7, r10, r11, r12, s.f3_8, 0, s.f3_14, s.f3_16, s.f3_17), (s.f3_18, s.f3_19, s.f3_23, s.f3_36, r25, r26, r27, s.b6, s.f7_1, s.n8, s.b8, s.f9_7), (s.f9_8, s.f9_9, s.f9_10, s.f9_11, s.f9_12, s.f10_2, s.f10_3, s.f10_4, s.f10_5, s.f10_6, s.f10_7, s.f10_8), (s.f10_9, s.f10_10, s.f10_11, s.f10_12, s.f10_13, s.f10_14, s.f11_1, s.f11_2, s.f11_3, s.f11_4, s.f12_1, s.f13_1), (s.f14_1, s.n15, s.b15, s.n16, s.b16, s.n17, s.b17, s.f18_1, s.n19, s.b19, s.f20_1, s.n21), (s.b21, s.f22_1, s.f23_1, s.f24_1, s.n28, s.b28, s.n29, s.b29, s.n30, s.b30, s.f31_1, s.f32_1), (s.f33_1, s.n34, s.b34, s.n36, s.b36, s.n37, s.b37, s.f38_1, s.f39_1, s.f40_1, s.f41_1, s.f42_1), (s.f43_1, s.f44_1, s.f45_1, s.f46_1, s.f47_1, s.f48_1, s.n49, s.b49, s.f50_1, s.n51, s.b51, s.n52), (s.b52, s.n53, s.b53, s.n54, s.b54, s.n55, s.b55, s.n56, s.b56, s.n57, s.b57, s.n58), (s.b58, s.n59, s.b59, s.n60, s.b60, s.n61, s.b61, s.f62_1, s.n63, s.b63, s.f64_1, s.n65), (s.b65, s.f66_1, s.n67, s.b67, s.f68_1, s.n69, s.b69, s.f70_1, s.n71, s.b71, s.f72_3, s.f72_4), (s.f73_1, s.n74, s.b74, s.f75_1, s.n76, s.b76, s.f77_1, s.n78, s.b78))
/-- behind end -/
abbrev LW.do_end (s : LW) (r38 : Int32) (r47 : Int32) (r48 : Int32) (r39 : (Nat → Int64)) : LW := ((s.n9, s.d9, s.c9, s.f0_7, r38, s.n2, s.b2, s.f3_8, r47, s.f3_14, s.f3_16, s.f3_17), (s.f3_18, s.f3_19, s.f3_23, s.f3_36, r48, s.n5, s.b5, r39, s.f7_1, s.n8, s.b8, s.f9_7), (s.f9_8, s.f9_9, s.f9_10, s.f9_11, s.f9_12, s.f10_2, s.f10_3, s.f10_4, s.f10_5, s.f10_6, s.f10_7, s.f10_8), (s.f10_9, s.f10_10, s.f10_11, s.f10_12, s.f10_13, s.f10_14, s.f11_1, s.f11_2, s.f11_3, s.f11_4, s.f12_1, s.f13_1), (s.f14_1, s.n15, s.b15, s.n16, s.b16, s.n17, s.b17, s.f18_1, s.n19, s.b19, s.f20_1, s.n21), (s.b21, s.f22_1, s.f23_1, s.f24_1, s.n28, s.b28, s.n29, s.b29, s.n30, s.b30, s.f31_1, s.f32_1), (s.f33_1, s.n34, s.b34, s.n36, s.b36, s.n37, s.b37, s.f38_1, s.f39_1, s.f40_1, s.f41_1, s.f42_1), (s.f43_1, s.f44_1, s.f45_1, s.f46_1, s.f47_1, s.f48_1, s.n49, s.b49, s.f50_1, s.n51, s.b51, s.n52), (s.b52, s.n53, s.b53, s.n54, s.b54, s.n55, s.b55, s.n56, s.b56, s.n57, s.b57, s.n58), (s.b58, s.n59, s.b59, s.n60, s.b60, s.n61, s.b61, s.f62_1, s.n63, s.b63, s.f64_1, s.n65), (s.b65, s.f66_1, s.n67, s.b67, s.f68_1, s.n69, s.b69, s.f70_1, s.n71, s.b71, s.f72_3, s.f72_4), (s.f73_1, s.n74, s.b74, s.f75_1, s.n76, s.b76, s.f77_1, s.n78, s.b78))
/-- behind read -/
abbrev LW.do_read (s : LW) (r56 : Nat) (r57 : Nat) (r58 : (Nat → FrC)) (r60 : Int32) (r88 : Int32) (r98 : Nat) (r99 : (Nat → Int32)) (r117 : Int32) (r118 : Int32) (r119 : Int32) (r120 : Int32) (r121 : Int32) (r122 : Int32) (r123 : Int32) (r124 : Int32) (r89 : Int32) (r100 : Nat) (r101 : (Nat → Int32)) (r61 : Int32) (r62 : Int32) (r63 : Int32) (r64 : Int32) (r65 : Int32) (r66 : Int32) (r67 : Int32) (r68 : Int32) (r69 : Int32) (r70 : Int32) (r71 : Int32) (r72 : Int32) (r73 : Int32) (r74 : Int32) (r75 : Int32) (r76 : Int32) (r77 : Int32) (r78 : Int32) (r79 : Int32) (r80 : Int32) (r81 : Int32) (r82 : Int32) (r83 : Int32) (r84 : Int32) (r85 : Int32) (r86 : Int32) (r90 : Nat) (r91 : (Nat → Int32)) (r92 : Nat) (r93 : (Nat → Int32)) (r94 : Nat) (r95 : (Nat → Int32)) (r87 : Int32) (r96 : Nat) (r97 : (Nat → Int32)) (r125 : Int32) (r148 : Nat) (r149 : (Nat → Int32)) (r126 : Int32) (r127 : Int32) (r128 : Int32) (r150 : Nat) (r151 : (Nat → Int32)) (r152 : Nat) (r153 : (Nat → Int32)) (r154 : Nat) (r155 : (Nat → Int32)) (r129 : Int32) (r130 : Int32) (r131 : Int32) (r160 : Nat) (r161 : (Nat → Int32)) (r156 : Nat) (r157 : (Nat → Int32)) (r158 : Nat) (r159 : (Nat → Int32)) (r132 : Int32) (r133 : Int32) (r134 : Int32) (r135 : Int32) (r136 : Int32) (r137 : Int32) (r138 : Int32) (r139 : Int32) (r140 : Int32) (r141 : Int32) (r142 : Int32) (r182 : Nat) (r183 : (Nat → Int32)) (r143 : Int32) (r184 : Nat) (r185 : (Nat → Int32)) (r162 : Nat) (r163 : (Nat → Int32)) (r164 : Nat) (r165 : (Nat → Int32)) (r166 : Nat) (r167 : (Nat → Int32)) (r168 : Nat) (r169 : (Nat → Int32)) (r170 : Nat) (r171 : (Nat → Int32)) (r172 : Nat) (r173 : (Nat → Int32)) (r174 : Nat) (r175 : (Nat → Int32)) (r176 : Nat) (r177 : (Nat → Int32)) (r180 : Nat) (r181 : (Nat → Int32)) (r178 : Nat) (r179 : (Nat → Int32)) (r144 : Int32) (r186 : Nat) (r187 : (Nat → Int32)) (r145 : Int32) (r188 : Nat) (r189 : (Nat → Int32)) (r146 : Int32) (r190 : Nat) (r191 : (Nat → Int32)) (r147 : Int32) (r192 : Nat) (r193 : (Nat → Int32)) : LW := ((r56, r57, r58, r60, r88, r98, r99, r117, 0, r118, r119, r120), (r121, r122, r123, r124, 0, s.n5, s.b5, s.b6, r89, r100, r101, r61), (r62, r63, r64, r65, r66, r67, r68, r69, r70, r71, r72, r73), (r74, r75, r76, r77, r78, r79, r80, r81, r82, r83, r84, r85), (r86, r90, r91, r92, r93, r94, r95, r87, r96, r97, r125, r148), (r149, r126, r127, r128, r150, r151, r152, r153, r154, r155, r129, r130), (r131, r160, r161, r156, r157, r158, r159, r132, r133, r134, r135, r136), (r137, r138, r139, r140, r141, r142, r182, r183, r143, r184, r185, r162), (r163, r164, r165, r166, r167, r168, r169, r170, r171, r172, r173, r174), (r175, r176, r177, r180, r181, r178, r179, r144, r186, r187, r145, r188), (r189, r146, r190, r191, r147, r192, r193, s.f70_1, s.n71, s.b71, s.f72_3, s.f72_4), (s.f73_1, s.n74, s.b74, s.f75_1, s.n76, s.b76, s.f77_1, s.n78, s.b78))
/-- behind place -/
abbrev LW.do_place (s : LW) : LW := ((s.n9, s.d9, s.c9, s.f0_7, s.f1_1, s.n2, s.b2, s.f3_8, 0, s.f3_14, s.f3_16, s.f3_17), (s.f3_18, s.f3_19, s.f3_23, s.f3_36, s.f4_1, s.n5, s.b5, s.b6, s.f7_1, s.n8, s.b8, s.f9_7), (s.f9_8, s.f9_9, s.f9_10, s.f9_11, s.f9_12, s.f10_2, s.f10_3, s.f10_4, s.f10_5, s.f10_6, s.f10_7, s.f10_8), (s.f10_9, s.f10_10, s.f10_11, s.f10_12, s.f10_13, s.f10_14, s.f11_1, s.f11_2, s.f11_3, s.f11_4, s.f12_1, s.f13_1), (s.f14_1, s.n15, s.b15, s.n16, s.b16, s.n17, s.b17, s.f18_1, s.n19, s.b19, s.f20_1, s.n21), (s.b21, s.f22_1, s.f23_1, s.f24_1, s.n28, s.b28, s.n29, s.b29, s.n30, s.b30, s.f31_1, s.f32_1), (s.f33_1, s.n34, s.b34, s.n36, s.b36, s.n37, s.b37, s.f38_1, s.f39_1, s.f40_1, s.f41_1, s.f42_1), (s.f43_1, s.f44_1, s.f45_1, s.f46_1, s.f47_1, s.f48_1, s.n49, s.b49, s.f50_1, s.n51, s.b51, s.n52), (s.b52, s.n53, s.b53, s.n54, s.b54, s.n55, s.b55, s.n56, s.b56, s.n57, s.b57, s.n58), (s.b58, s.n59, s.b59, s.n60, s.b60, s.n61, s.b61, s.f62_1, s.n63, s.b63, s.f64_1, s.n65), (s.b65, s.f66_1, s.n67, s.b67, s.f68_1, s.n69, s.b69, s.f70_1, s.n71, s.b71, s.f72_3, s.f72_4), (s.f73_1, s.n74, s.b74, s.f75_1, s.n76, s.b76, s.f77_1, s.n78, s.b78))
/-- behind nodes -/
abbrev LW.do_nodes (s : LW) : LW := ((s.n9, s.d9, s.c9, s.f0_7, s.f1_1, s.n2, s.b2, s.f3_8, 0, s.f3_14, s.f3_16, s.f3_17), (s.f3_18, s.f3_19, s.f3_23, s.f3_36, s.f4_1, s.n5, s.b5, s.b6, s.f7_1, s.n8, s.b8, s.f9_7), (s.f9_8, s.f9_9, s.f9_10, s.f9_11, s.f9_12, s.f10_2, s.f10_3, s.f10_4, s.f10_5, s.f10_6, s.f10_7, s.f10_8), (s.f10_9, s.f10_10, s.f10_11, s.f10_12, s.f10_13, s.f10_14, s.f11_1, s.f11_2, s.f11_3, s.f11_4, s.f12_1, s.f13_1), (s.f14_1, s.n15, s.b15, s.n16, s.b16, s.n17, s.b17, s.f18_1, s.n19, s.b19, s.f20_1, s.n21), (s.b21, s.f22_1, s.f23_1, s.f24_1, s.n28, s.b28, s.n29, s.b29, s.n30, s.b30, s.f31_1, s.f32_1), (s.f33_1, s.n34, s.b34, s.n36, s.b36, s.n37, s.b37, s.f38_1, s.f39_1, s.f40_1, s.f41_1, s.f42_1), (s.f43_1, s.f44_1, s.f45_1, s.f46_1, s.f47_1, s.f48_1, s.n49, s.b49, s.f50_1, s.n51, s.b51, s.n52), (s.b52, s.n53, s.b53, s.n54, s.b54, s.n55, s.b55, s.n56, s.b56, s.n57, s.b57, s.n58), (s.b58, s.n59, s.b59, s.n60, s.b60, s.n61, s.b61, s.f62_1, s.n63, s.b63, s.f64_1, s.n65), (s.b65, s.f66_1, s.n67, s.b67, s.f68_1, s.n69, s.b69, s.f70_1, s.n71, s.b71, s.f72_3, s.f72_4), (s.f73_1, s.n74, s.b74, s.f75_1, s.n76, s.b76, s.f77_1, s.n78, s.b78))
/-- behind node -/
abbrev LW.do_node (s : LW) : LW := ((s.n9, s.d9, s.c9, s.f0_7, s.f1_1, s.n2, s.b2, s.f3_8, 0, s.f3_14, s.f3_16, s.f3_17), (s.f3_18, s.f3_19, s.f3_23, s.f3_36, s.f4_1, s.n5, s.b5, s.b6, s.f7_1, s.n8, s.b8, s.f9_7), (s.f9_8, s.f9_9, s.f9_10, s.f9_11, s.f9_12, s.f10_2, s.f10_3, s.f10_4, s.f10_5, s.f10_6, s.f10_7, s.f10_8), (s.f10_9, s.f10_10, s.f10_11, s.f10_12, s.f10_13, s.f10_14, s.f11_1, s.f11_2, s.f11_3, s.f11_4, s.f12_1, s.f13_1), (s.f14_1, s.n15, s.b15, s.n16, s.b16, s.n17, s.b17, s.f18_1, s.n19, s.b19, s.f20_1, s.n21), (s.b21, s.f22_1, s.f23_1, s.f24_1, s.n28, s.b28, s.n29, s.b29, s.n30, s.b30, s.f31_1, s.f32_1), (s.f33_1, s.n34, s.b34, s.n36, s.b36, s.n37, s.b37, s.f38_1, s.f39_1, s.f40_1, s.f41_1, s.f42_1), (s.f43_1, s.f44_1, s.f45_1, s.f46_1, s.f47_1, s.f48_1, s.n49, s.b49, s.f50_1, s.n51, s.b51, s.n52), (s.b52, s.n53, s.b53, s.n54, s.b54, s.n55, s.b55, s.n56, s.b56, s.n57, s.b57, s.n58), (s.b58, s.n59, s.b59, s.n60, s.b60, s.n61, s.b61, s.f62_1, s.n63, s.b63, s.f64_1, s.n65), (s.b65, s.f66_1, s.n67, s.b67, s.f68_1, s.n69, s.b69, s.f70_1, s.n71, s.b71, s.f72_3, s.f72_4), (s.f73_1, s.n74, s.b74, s.f75_1, s.n76, s.b76, s.f77_1, s.n78, s.b78))
/-- behind part -/
abbrev LW.do_part (s : LW) : LW := ((s.n9, s.d9, s.c9, s.f0_7, s.f1_1, s.n2, s.b2, s.f3_8, 0, s.f3_14, s.f3_16, s.f3_17), (s.f3_18, s.f3_19, s.f3_23, s.f3_36, s.f4_1, s.n5, s.b5, s.b6, s.f7_1, s.n8, s.b8, s.f9_7), (s.f9_8, s.f9_9, s.f9_10, s.f9_11, s.f9_12, s.f10_2, s.f10_3, s.f10_4, s.f10_5, s.f10_6, s.f10_7, s.f10_8), (s.f10_9, s.f10_10, s.f10_11, s.f10_12, s.f10_13, s.f10_14, s.f11_1, s.f11_2, s.f11_3, s.f11_4, s.f12_1, s.f13_1), (s.f14_1, s.n15, s.b15, s.n16, s.b16, s.n17, s.b17, s.f18_1, s.n19, s.b19, s.f20_1, s.n21), (s.b21, s.f22_1, s.f23_1, s.f24_1, s.n28, s.b28, s.n29, s.b29, s.n30, s.b30, s.f31_1, s.f32_1), (s.f33_1, s.n34, s.b34, s.n36, s.b36, s.n37, s.b37, s.f38_1, s.f39_1, s.f40_1, s.f41_1, s.f42_1), (s.f43_1, s.f44_1, s.f45_1, s.f46_1, s.f47_1, s.f48_1, s.n49, s.b49, s.f50_1, s.n51, s.b51, s.n52), (s.b52, s.n53, s.b53, s.n54, s.b54, s.n55, s.b55, s.n56, s.b56, s.n57, s.b57, s.n58), (s.b58, s.n59, s.b59, s.n60, s.b60, s.n61, s.b61, s.f62_1, s.n63, s.b63, s.f64_1, s.n65), (s.b65, s.f66_1, s.n67, s.b67, s.f68_1, s.n69, s.b69, s.f70_1, s.n71, s.b71, s.f72_3, s.f72_4), (s.f73_1, s.n74, s.b74, s.f75_1, s.n76, s.b76, s.f77_1, s.n78, s.b78))
/-- behind char -/
abbrev LW.do_char (s : LW) : LW := ((s.n9, s.d9, s.c9, s.f0_7, s.f1_1, s.n2, s.b2, s.f3_8, 0, s.f3_14, s.f3_16, s.f3_17), (s.f3_18, s.f3_19, s.f3_23, s.f3_36, s.f4_1, s.n5, s.b5, s.b6, s.f7_1, s.n8, s.b8, s.f9_7), (s.f9_8, s.f9_9, s.f9_10, s.f9_11, s.f9_12, s.f10_2, s.f10_3, s.f10_4, s.f10_5, s.f10_6, s.f10_7, s.f10_8), (s.f10_9, s.f10_10, s.f10_11, s.f10_12, s.f10_13, s.f10_14, s.f11_1, s.f11_2, s.f11_3, s.f11_4, s.f12_1, s.f13_1), (s.f14_1, s.n15, s.b15, s.n16, s.b16, s.n17, s.b17, s.f18_1, s.n19, s.b19, s.f20_1, s.n21), (s.b21, s.f22_1, s.f23_1, s.f24_1, s.n28, s.b28, s.n29, s.b29, s.n30, s.b30, s.f31_1, s.f32_1), (s.f33_1, s.n34, s.b34, s.n36, s.b36, s.n37, s.b37, s.f38_1, s.f39_1, s.f40_1, s.f41_1, s.f42_1), (s.f43_1, s.f44_1, s.f45_1, s.f46_1, s.f47_1, s.f48_1, s.n49, s.b49, s.f50_1, s.n51, s.b51, s.n52), (s.b52, s.n53, s.b53, s.n54, s.b54, s.n55, s.b55, s.n56, s.b56, s.n57, s.b57, s.n58), (s.b58, s.n59, s.b59, s.n60, s.b60, s.n61, s.b61, s.f62_1, s.n63, s.b63, s.f64_1, s.n65), (s.b65, s.f66_1, s.n67, s.b67, s.f68_1, s.n69, s.b69, s.f70_1, s.n71, s.b71, s.f72_3, s.f72_4), (s.f73_1, s.n74, s.b74, s.f75_1, s.n76, s.b76, s.f77_1, s.n78, s.b78))
/-- behind write -/
abbrev LW.do_write (s : LW) (r266 : Int32) (r268 : Nat) (r269 : (Nat → Int32)) (r264 : Int32) (r265 : Int32) (r267 : Int32) (r270 : Nat) (r271 : (Nat → Int32)) (r285 : Int32) (r287 : Nat) (r288 : (Nat → Int32)) (r286 : Int32) (r289 : Nat) (r290 : (Nat → Int32)) : LW := ((s.n9, s.d9, s.c9, s.f0_7, s.f1_1, s.n2, s.b2, s.f3_8, 0, s.f3_14, s.f3_16, s.f3_17), (s.f3_18, s.f3_19, s.f3_23, s.f3_36, s.f4_1, s.n5, s.b5, s.b6, s.f7_1, s.n8, s.b8, s.f9_7), (s.f9_8, s.f9_9, s.f9_10, s.f9_11, s.f9_12, s.f10_2, s.f10_3, s.f10_4, s.f10_5, s.f10_6, s.f10_7, s.f10_8), (s.f10_9, s.f10_10, s.f10_11, s.f10_12, s.f10_13, s.f10_14, s.f11_1, s.f11_2, s.f11_3, s.f11_4, s.f12_1, s.f13_1), (s.f14_1, s.n15, s.b15, s.n16, s.b16, s.n17, s.b17, s.f18_1, s.n19, s.b19, s.f20_1, s.n21), (s.b21, s.f22_1, s.f23_1, s.f24_1, s.n28, s.b28, s.n29, s.b29, s.n30, s.b30, s.f31_1, s.f32_1), (s.f33_1, s.n34, s.b34, s.n36, s.b36, s.n37, s.b37, s.f38_1, s.f39_1, s.f40_1, s.f41_1, s.f42_1), (s.f43_1, s.f44_1, s.f45_1, s.f46_1, s.f47_1, s.f48_1, s.n49, s.b49, s.f50_1, s.n51, s.b51, s.n52), (s.b52, s.n53, s.b53, s.n54, s.b54, s.n55, s.b55, s.n56, s.b56, s.n57, s.b57, s.n58), (s.b58, s.n59, s.b59, s.n60, s.b60, s.n61, s.b61, s.f62_1, s.n63, s.b63, s.f64_1, s.n65), (s.b65, s.f66_1, s.n67, s.b67, s.f68_1, s.n69, s.b69, r266, r268, r269, r264, r265), (r267, r270, r271, r285, r287, r288, r286, r289, r290))
/-- behind written -/
abbrev LW.do_written (s : LW) : LW := ((s.n9, s.d9, s.c9, s.f0_7, s.f1_1, s.n2, s.b2, s.f3_8, 0, s.f3_14, s.f3_16, s.f3_17), (s.f3_18, s.f3_19, s.f3_23, s.f3_36, s.f4_1, s.n5, s.b5, s.b6, s.f7_1, s.n8, s.b8, s.f9_7), (s.f9_8, s.f9_9, s.f9_10, s.f9_11, s.f9_12, s.f10_2, s.f10_3, s.f10_4, s.f10_5, s.f10_6, s.f10_7, s.f10_8), (s.f10_9, s.f10_10, s.f10_11, s.f10_12, s.f10_13, s.f10_14, s.f11_1, s.f11_2, s.f11_3, s.f11_4, s.f12_1, s.f13_1), (s.f14_1, s.n15, s.b15, s.n16, s.b16, s.n17, s.b17, s.f18_1, s.n19, s.b19, s.f20_1, s.n21), (s.b21, s.f22_1, s.f23_1, s.f24_1, s.n28, s.b28, s.n29, s.b29, s.n30, s.b30, s.f31_1, s.f32_1), (s.f33_1, s.n34, s.b34, s.n36, s.b36, s.n37, s.b37, s.f38_1, s.f39_1, s.f40_1, s.f41_1, s.f42_1), (s.f43_1, s.f44_1, s.f45_1, s.f46_1, s.f47_1, s.f48_1, s.n49, s.b49, s.f50_1, s.n51, s.b51, s.n52), (s.b52, s.n53, s.b53, s.n54, s.b54, s.n55, s.b55, s.n56, s.b56, s.n57, s.b57, s.n58), (s.b58, s.n59, s.b59, s.n60, s.b60, s.n61, s.b61, s.f62_1, s.n63, s.b63, s.f64_1, s.n65), (s.b65, s.f66_1, s.n67, s.b67, s.f68_1, s.n69, s.b69, s.f70_1, s.n71, s.b71, s.f72_3, s.f72_4), (s.f73_1, s.n74, s.b74, s.f75_1, s.n76, s.b76, s.f77_1, s.n78, s.b78))
/-- behind rewind -/
abbrev LW.do_rewind (s : LW) (r309 : Int32) (r310 : Nat) (r311 : (Nat → Int32)) (r319 : Int32) (r320 : Nat) (r321 : (Nat → Int32)) : LW := ((s.n9, s.d9, s.c9, s.f0_7, r309, r310, r311, s.f3_8, 0, s.f3_14, s.f3_16, s.f3_17), (s.f3_18, s.f3_19, s.f3_23, s.f3_36, r319, r320, r321, s.b6, s.f7_1, s.n8, s.b8, s.f9_7), (s.f9_8, s.f9_9, s.f9_10, s.f9_11, s.f9_12, s.f10_2, s.f10_3, s.f10_4, s.f10_5, s.f10_6, s.f10_7, s.f10_8), (s.f10_9, s.f10_10, s.f10_11, s.f10_12, s.f10_13, s.f10_14, s.f11_1, s.f11_2, s.f11_3, s.f11_4, s.f12_1, s.f13_1), (s.f14_1, s.n15, s.b15, s.n16, s.b16, s.n17, s.b17, s.f18_1, s.n19, s.b19, s.f20_1, s.n21), (s.b21, s.f22_1, s.f23_1, s.f24_1, s.n28, s.b28, s.n29, s.b29, s.n30, s.b30, s.f31_1, s.f32_1), (s.f33_1, s.n34, s.b34, s.n36, s.b36, s.n37, s.b37, s.f38_1, s.f39_1, s.f40_1, s.f41_1, s.f42_1), (s.f43_1, s.f44_1, s.f45_1, s.f46_1, s.f47_1, s.f48_1, s.n49, s.b49, s.f50_1, s.n51, s.b51, s.n52), (s.b52, s.n53, s.b53, s.n54, s.b54, s.n55, s.b55, s.n56, s.b56, s.n57, s.b57, s.n58), (s.b58, s.n59, s.b59, s.n60, s.b60, s.n61, s.b61, s.f62_1, s.n63, s.b63, s.f64_1, s.n65), (s.b65, s.f66_1, s.n67, s.b67, s.f68_1, s.n69, s.b69, s.f70_1, s.n71, s.b71, s.f72_3, s.f72_4), (s.f73_1, s.n74, s.b74, s.f75_1, s.n76, s.b76, s.f77_1, s.n78, s.b78))
section Law
variable {L : Nat} {xs : Nat → Int32} {n_ou : Nat} {n_m15 : Nat} {b_m15 : Nat → Int32} {n_m2 : Nat} {b_m2 : Nat → Int32}
variable {fu i : Nat} {s : LW}
/-- the script is at its end -/
theorem law_stop (hL : L < i + 6) (hL2 : L ≤ 4000) (hi : i ≤ L) : LawF L xs n_ou n_m15 b_m15 n_m2 b_m2 (fu + 1) (nI i) s = some (1, 0, 0) := by
  unfold LawF
  rw [F_La_law_23, if_pos]
  rw [show nI L - 6 = nI L - nI 6 from rfl]
  exact lt_sub6 hL hL2 hi
theorem law_feed {r9 : Int32} {r10 : Int32} {r11 : Nat} {r12 : (Nat → Int32)} {r24 : Int32} {r25 : Int32} {r26 : Nat} {r27 : (Nat → Int32)} {R : Int32} {c' s' c0 s0 c1 s1 : Nat} (hL : i + 6 ≤ L) (hL2 : L ≤ 4000) (hop : xs i &&& 15 = 0) (h0 : F_Eq_feed (xs ((i + 1))) (xs ((i + 2))) (xs ((i + 3))) (xs ((i + 4))) (xs ((i + 5))) s.f0_7 s.f1_1 s.n2 s.b2 = some ((r9, r10, r11, r12), c0, s0)) (h1 : F_Mo_feed (xs ((i + 1))) (xs ((i + 2))) (xs ((i + 3))) (xs ((i + 4))) (xs ((i + 5))) s.f3_8 s.f3_13 s.f3_14 s.f3_16 s.f3_17 s.f3_18 s.f3_19 s.f3_23 s.f3_36 s.f4_1 s.n5 s.b5 = some ((r24, r25, r26, r27), c1, s1)) (he : r9 = r24) (hgo : LawF L xs n_ou n_m15 b_m15 n_m2 b_m2 fu (nI (i + 6)) (s.do_feed r10 r11 r12 r25 r26 r27) = some (R, c', s')) : LawF L xs n_ou n_m15 b_m15 n_m2 b_m2 (fu + 1) (nI i) s = some (R, c0 + (c1 + (c')), s0 + (s1 + (s'))) := by
  unfold LawF at hgo ⊢
  have e0 : Int32.toNatClampNeg (nI i) = i := nI_clamp' (by omega)
  have e1 : nI i + 1 = nI (i + 1) := nI_add' i 1
  have d1 : Int32.toNatClampNeg (nI (i + 1)) = i + 1 := nI_clamp' (by omega)
  have b1 : ∀ {α : Type} (m : Option α), inb (nI (i + 1)) L m = m := fun m => inb_ok (by omega) (by omega)
  have e2 : nI i + 2 = nI (i + 2) := nI_add' i 2
  have d2 : Int32.toNatClampNeg (nI (i + 2)) = i + 2 := nI_clamp' (by omega)
  have b2 : ∀ {α : Type} (m : Option α), inb (nI (i + 2)) L m = m := fun m => inb_ok (by omega) (by omega)
  have e3 : nI i + 3 = nI (i + 3) := nI_add' i 3
  have d3 : Int32.toNatClampNeg (nI (i + 3)) = i + 3 := nI_clamp' (by omega)
  have b3 : ∀ {α : Type} (m : Option α), inb (nI (i + 3)) L m = m := fun m => inb_ok (by omega) (by omega)
  have e4 : nI i + 4 = nI (i + 4) := nI_add' i 4
  have d4 : Int32.toNatClampNeg (nI (i + 4)) = i + 4 := nI_clamp' (by omega)
  have b4 : ∀ {α : Type} (m : Option α), inb (nI (i + 4)) L m = m := fun m => inb_ok (by omega) (by omega)
  have e5 : nI i + 5 = nI (i + 5) := nI_add' i 5
  have d5 : Int32.toNatClampNeg (nI (i + 5)) = i + 5 := nI_clamp' (by omega)
  have b5 : ∀ {α : Type} (m : Option α), inb (nI (i + 5)) L m = m := fun m => inb_ok (by omega) (by omega)
  have e6 : nI i + 6 = nI (i + 6) := nI_add' i 6
  rw [F_La_law_23, if_neg (nlt_sub6 hL hL2), inb_ok (by omega) (by omega), e0, if_pos hop]
  simp only [e1, e2, e3, e4, e5, d1, d2, d3, d4, d5, b1, b2, b3, b4, b5]
  refine bw_ok h0 ?_
  dsimp only
  try simp only [e1, e2, e3, e4, e5, d1, d2, d3, d4, d5, b1, b2, b3, b4, b5]
  refine bw_ok h1 ?_
  dsimp only
  rw [if_pos he, e6]
  exact hgo
theorem law_read {r56 : Nat} {r57 : Nat} {r58 : (Nat → FrC)} {r59 : Int32} {r60 : Int32} {r61 : Int32} {r62 : Int32} {r63 : Int32} {r64 : Int32} {r65 : Int32} {r66 : Int32} {r67 : Int32} {r68 : Int32} {r69 : Int32} {r70 : Int32} {r71 : Int32} {r72 : Int32} {r73 : Int32} {r74 : Int32} {r75 : Int32} {r76 : Int32} {r77 : Int32} {r78 : Int32} {r79 : Int32} {r80 : Int32} {r81 : Int32} {r82 : Int32} {r83 : Int32} {r84 : Int32} {r85 : Int32} {r86 : Int32} {r87 : Int32} {r88 : Int32} {r89 : Int32} {r90 : Nat} {r91 : (Nat → Int32)} {r92 : Nat} {r93 : (Nat → Int32)} {r94 : Nat} {r95 : (Nat → Int32)} {r96 : Nat} {r97 : (Nat → Int32)} {r98 : Nat} {r99 : (Nat → Int32)} {r100 : Nat} {r101 : (Nat → Int32)} {r116 : Int32} {r117 : Int32} {r118 : Int32} {r119 : Int32} {r120 : Int32} {r121 : Int32} {r122 : Int32} {r123 : Int32} {r124 : Int32} {r125 : Int32} {r126 : Int32} {r127 : Int32} {r128 : Int32} {r129 : Int32} {r130 : Int32} {r131 : Int32} {r132 : Int32} {r133 : Int32} {r134 : Int32} {r135 : Int32} {r136 : Int32} {r137 : Int32} {r138 : Int32} {r139 : Int32} {r140 : Int32} {r141 : Int32} {r142 : Int32} {r143 : Int32} {r144 : Int32} {r145 : Int32} {r146 : Int32} {r147 : Int32} {r148 : Nat} {r149 : (Nat → Int32)} {r150 : Nat} {r151 : (Nat → Int32)} {r152 : Nat} {r153 : (Nat → Int32)} {r154 : Nat} {r155 : (Nat → Int32)} {r156 : Nat} {r157 : (Nat → Int32)} {r158 : Nat} {r159 : (Nat → Int32)} {r160 : Nat} {r161 : (Nat → Int32)} {r162 : Nat} {r163 : (Nat → Int32)} {r164 : Nat} {r165 : (Nat → Int32)} {r166 : Nat} {r167 : (Nat → Int32)} {r168 : Nat} {r169 : (Nat → Int32)} {r170 : Nat} {r171 : (Nat → Int32)} {r172 : Nat} {r173 : (Nat → Int32)} {r174 : Nat} {r175 : (Nat → Int32)} {r176 : Nat} {r177 : (Nat → Int32)} {r178 : Nat} {r179 : (Nat → Int32)} {r180 : Nat} {r181 : (Nat → Int32)} {r182 : Nat} {r183 : (Nat → Int32)} {r184 : Nat} {r185 : (Nat → Int32)} {r186 : Nat} {r187 : (Nat → Int32)} {r188 : Nat} {r189 : (Nat → Int32)} {r190 : Nat} {r191 : (Nat → Int32)} {r192 : Nat} {r193 : (Nat → Int32)} {R : Int32} {c' s' c0 s0 c1 s1 : Nat} (hL : i + 6 ≤ L) (hL2 : L ≤ 4000) (hop : xs i &&& 15 = 2) (h0 : F_Eq_readB s.f0_7 s.f7_1 s.n8 s.b8 s.n9 s.d9 s.c9 s.f9_7 s.f9_8 s.f9_9 s.f9_10 s.f9_11 s.f9_12 s.f10_2 s.f10_3 s.f10_4 s.f10_5 s.f10_6 s.f10_7 s.f10_8 s.f10_9 s.f10_10 s.f10_11 s.f10_12 s.f10_13 s.f10_14 s.f11_1 s.f11_2 s.f11_3 s.f11_4 s.f12_1 s.f13_1 s.f14_1 s.f1_1 s.n2 s.b2 s.n15 s.b15 s.n16 s.b16 s.n17 s.b17 s.f18_1 s.n19 s.b19 = some ((r56, r57, r58, r59, r60, r61, r62, r63, r64, r65, r66, r67, r68, r69, r70, r71, r72, r73, r74, r75, r76, r77, r78, r79, r80, r81, r82, r83, r84, r85, r86, r87, r88, r89, r90, r91, r92, r93, r94, r95, r96, r97, r98, r99, r100, r101), c0, s0)) (h1 : F_Mo_readB s.f3_8 s.f3_13 s.f3_14 s.f3_16 s.f3_17 s.f3_18 s.f3_19 s.f3_23 s.f3_36 s.f20_1 s.f4_1 s.n5 s.b5 s.n21 s.b21 s.f22_1 s.f23_1 s.f24_1 n_m15 b_m15 s.n28 s.b28 s.n29 s.b29 s.n30 s.b30 s.f31_1 s.f32_1 s.f33_1 s.n34 s.b34 n_m2 b_m2 s.n36 s.b36 s.n37 s.b37 s.f38_1 s.f39_1 s.f40_1 s.f41_1 s.f42_1 s.f43_1 s.f44_1 s.f45_1 s.f46_1 s.f47_1 s.f48_1 s.n49 s.b49 s.f50_1 s.n51 s.b51 s.n52 s.b52 s.n53 s.b53 s.n54 s.b54 s.n55 s.b55 s.n56 s.b56 s.n57 s.b57 s.n58 s.b58 s.n59 s.b59 s.n60 s.b60 s.n61 s.b61 s.f62_1 s.n63 s.b63 s.f64_1 s.n65 s.b65 s.f66_1 s.n67 s.b67 s.f68_1 s.n69 s.b69 = some ((r116, r117, r118, r119, r120, r121, r122, r123, r124, r125, r126, r127, r128, r129, r130, r131, r132, r133, r134, r135, r136, r137, r138, r139, r140, r141, r142, r143, r144, r145, r146, r147, r148, r149, r150, r151, r152, r153, r154, r155, r156, r157, r158, r159, r160, r161, r162, r163, r164, r165, r166, r167, r168, r169, r170, r171, r172, r173, r174, r175, r176, r177, r178, r179, r180, r181, r182, r183, r184, r185, r186, r187, r188, r189, r190, r191, r192, r193), c1, s1)) (he : r59 = r116) (hgo : LawF L xs n_ou n_m15 b_m15 n_m2 b_m2 fu (nI (i + 6)) (s.do_read r56 r57 r58 r60 r88 r98 r99 r117 r118 r119 r120 r121 r122 r123 r124 r89 r100 r101 r61 r62 r63 r64 r65 r66 r67 r68 r69 r70 r71 r72 r73 r74 r75 r76 r77 r78 r79 r80 r81 r82 r83 r84 r85 r86 r90 r91 r92 r93 r94 r95 r87 r96 r97 r125 r148 r149 r126 r127 r128 r150 r151 r152 r153 r154 r155 r129 r130 r131 r160 r161 r156 r157 r158 r159 r132 r133 r134 r135 r136 r137 r138 r139 r140 r141 r142 r182 r183 r143 r184 r185 r162 r163 r164 r165 r166 r167 r168 r169 r170 r171 r172 r173 r174 r175 r176 r177 r180 r181 r178 r179 r144 r186 r187 r145 r188 r189 r146 r190 r191 r147 r192 r193) = some (R, c', s')) : LawF L xs n_ou n_m15 b_m15 n_m2 b_m2 (fu + 1) (nI i) s = some (R, c0 + (c1 + (c')), s0 + (s1 + (s'))) := by
  unfold LawF at hgo ⊢
  have e0 : Int32.toNatClampNeg (nI i) = i := nI_clamp' (by omega)
  have e1 : nI i + 1 = nI (i + 1) := nI_add' i 1
  have d1 : Int32.toNatClampNeg (nI (i + 1)) = i + 1 := nI_clamp' (by omega)
  have b1 : ∀ {α : Type} (m : Option α), inb (nI (i + 1)) L m = m := fun m => inb_ok (by omega) (by omega)
  have e2 : nI i + 2 = nI (i + 2) := nI_add' i 2
  have d2 : Int32.toNatClampNeg (nI (i + 2)) = i + 2 := nI_clamp' (by omega)
  have b2 : ∀ {α : Type} (m : Option α), inb (nI (i + 2)) L m = m := fun m => inb_ok (by omega) (by omega)
  have e3 : nI i + 3 = nI (i + 3) := nI_add' i 3
  have d3 : Int32.toNatClampNeg (nI (i + 3)) = i + 3 := nI_clamp' (by omega)
  have b3 : ∀ {α : Type} (m : Option α), inb (nI (i + 3)) L m = m := fun m => inb_ok (by omega) (by omega)
  have e4 : nI i + 4 = nI (i + 4) := nI_add' i 4
  have d4 : Int32.toNatClampNeg (nI (i + 4)) = i + 4 := nI_clamp' (by omega)
  have b4 : ∀ {α : Type} (m : Option α), inb (nI (i + 4)) L m = m := fun m => inb_ok (by omega) (by omega)
  have e5 : nI i + 5 = nI (i + 5) := nI_add' i 5
  have d5 : Int32.toNatClampNeg (nI (i + 5)) = i + 5 := nI_clamp' (by omega)
  have b5 : ∀ {α : Type} (m : Option α), inb (nI (i + 5)) L m = m := fun m => inb_ok (by omega) (by omega)
  have e6 : nI i + 6 = nI (i + 6) := nI_add' i 6
  rw [F_La_law_23, if_neg (nlt_sub6 hL hL2), inb_ok (by omega) (by omega), e0, if_neg (show ¬ xs i &&& 15 = 0 by rw [hop]; decide), if_neg (show ¬ xs i &&& 15 = 1 by rw [hop]; decide), if_pos hop]
  refine bw_ok h0 ?_
  dsimp only
  refine bw_ok h1 ?_
  dsimp only
  rw [if_pos he, e6]
  exact hgo
theorem law_place  {R : Int32} {c' s'  : Nat} (hL : i + 6 ≤ L) (hL2 : L ≤ 4000) (hop : xs i &&& 15 = 3)  (he : s.f0_7 = s.f3_14) (hgo : LawF L xs n_ou n_m15 b_m15 n_m2 b_m2 fu (nI (i + 6)) (s.do_place) = some (R, c', s')) : LawF L xs n_ou n_m15 b_m15 n_m2 b_m2 (fu + 1) (nI i) s = some (R, c', s') := by
  unfold LawF at hgo ⊢
  have e0 : Int32.toNatClampNeg (nI i) = i := nI_clamp' (by omega)
  have e1 : nI i + 1 = nI (i + 1) := nI_add' i 1
  have d1 : Int32.toNatClampNeg (nI (i + 1)) = i + 1 := nI_clamp' (by omega)
  have b1 : ∀ {α : Type} (m : Option α), inb (nI (i + 1)) L m = m := fun m => inb_ok (by omega) (by omega)
  have e2 : nI i + 2 = nI (i + 2) := nI_add' i 2
  have d2 : Int32.toNatClampNeg (nI (i + 2)) = i + 2 := nI_clamp' (by omega)
  have b2 : ∀ {α : Type} (m : Option α), inb (nI (i + 2)) L m = m := fun m => inb_ok (by omega) (by omega)
  have e3 : nI i + 3 = nI (i + 3) := nI_add' i 3
  have d3 : Int32.toNatClampNeg (nI (i + 3)) = i + 3 := nI_clamp' (by omega)
  have b3 : ∀ {α : Type} (m : Option α), inb (nI (i + 3)) L m = m := fun m => inb_ok (by omega) (by omega)
  have e4 : nI i + 4 = nI (i + 4) := nI_add' i 4
  have d4 : Int32.toNatClampNeg (nI (i + 4)) = i + 4 := nI_clamp' (by omega)
  have b4 : ∀ {α : Type} (m : Option α), inb (nI (i + 4)) L m = m := fun m => inb_ok (by omega) (by omega)
  have e5 : nI i + 5 = nI (i + 5) := nI_add' i 5
  have d5 : Int32.toNatClampNeg (nI (i + 5)) = i + 5 := nI_clamp' (by omega)
  have b5 : ∀ {α : Type} (m : Option α), inb (nI (i + 5)) L m = m := fun m => inb_ok (by omega) (by omega)
  have e6 : nI i + 6 = nI (i + 6) := nI_add' i 6
  rw [F_La_law_23, if_neg (nlt_sub6 hL hL2), inb_ok (by omega) (by omega), e0, if_neg (show ¬ xs i &&& 15 = 0 by rw [hop]; decide), if_neg (show ¬ xs i &&& 15 = 1 by rw [hop]; decide), if_neg (show ¬ xs i &&& 15 = 2 by rw [hop]; decide), if_pos hop]
  rw [if_pos he, e6]
  exact hgo
theorem law_nodes {r229 : Int32} {R : Int32} {c' s'  : Nat} (hL : i + 6 ≤ L) (hL2 : L ≤ 4000) (hop : xs i &&& 15 = 4) (h0 : F_Mo_nodes s.f3_8 s.f3_13 s.f3_14 s.f3_16 s.f3_17 s.f3_18 s.f3_19 s.f3_23 s.f3_36 s.f38_1 = r229) (he : s.f18_1 = r229) (hgo : LawF L xs n_ou n_m15 b_m15 n_m2 b_m2 fu (nI (i + 6)) (s.do_nodes) = some (R, c', s')) : LawF L xs n_ou n_m15 b_m15 n_m2 b_m2 (fu + 1) (nI i) s = some (R, c', s') := by
  unfold LawF at hgo ⊢
  have e0 : Int32.toNatClampNeg (nI i) = i := nI_clamp' (by omega)
  have e1 : nI i + 1 = nI (i + 1) := nI_add' i 1
  have d1 : Int32.toNatClampNeg (nI (i + 1)) = i + 1 := nI_clamp' (by omega)
  have b1 : ∀ {α : Type} (m : Option α), inb (nI (i + 1)) L m = m := fun m => inb_ok (by omega) (by omega)
  have e2 : nI i + 2 = nI (i + 2) := nI_add' i 2
  have d2 : Int32.toNatClampNeg (nI (i + 2)) = i + 2 := nI_clamp' (by omega)
  have b2 : ∀ {α : Type} (m : Option α), inb (nI (i + 2)) L m = m := fun m => inb_ok (by omega) (by omega)
  have e3 : nI i + 3 = nI (i + 3) := nI_add' i 3
  have d3 : Int32.toNatClampNeg (nI (i + 3)) = i + 3 := nI_clamp' (by omega)
  have b3 : ∀ {α : Type} (m : Option α), inb (nI (i + 3)) L m = m := fun m => inb_ok (by omega) (by omega)
  have e4 : nI i + 4 = nI (i + 4) := nI_add' i 4
  have d4 : Int32.toNatClampNeg (nI (i + 4)) = i + 4 := nI_clamp' (by omega)
  have b4 : ∀ {α : Type} (m : Option α), inb (nI (i + 4)) L m = m := fun m => inb_ok (by omega) (by omega)
  have e5 : nI i + 5 = nI (i + 5) := nI_add' i 5
  have d5 : Int32.toNatClampNeg (nI (i + 5)) = i + 5 := nI_clamp' (by omega)
  have b5 : ∀ {α : Type} (m : Option α), inb (nI (i + 5)) L m = m := fun m => inb_ok (by omega) (by omega)
  have e6 : nI i + 6 = nI (i + 6) := nI_add' i 6
  rw [F_La_law_23, if_neg (nlt_sub6 hL hL2), inb_ok (by omega) (by omega), e0, if_neg (show ¬ xs i &&& 15 = 0 by rw [hop]; decide), if_neg (show ¬ xs i &&& 15 = 1 by rw [hop]; decide), if_neg (show ¬ xs i &&& 15 = 2 by rw [hop]; decide), if_neg (show ¬ xs i &&& 15 = 3 by rw [hop]; decide), if_pos hop]
  unfold nm
  rw [h0]
  dsimp only
  rw [if_pos he, e6]
  exact hgo
theorem law_node {r235 : Int32} {r239 : Int32} {R : Int32} {c' s'  : Nat} (hL : i + 6 ≤ L) (hL2 : L ≤ 4000) (hop : xs i &&& 15 = 5) (h0 : F_Eq_node (xs ((i + 1))) (xs ((i + 2))) s.f0_7 s.f18_1 s.n19 s.b19 = some r235) (h1 : F_Mo_node (xs ((i + 1))) (xs ((i + 2))) s.f3_8 s.f3_13 s.f3_14 s.f3_16 s.f3_17 s.f3_18 s.f3_19 s.f3_23 s.f3_36 s.f38_1 s.f42_1 s.n56 s.b56 s.f40_1 s.n54 s.b54 s.f39_1 s.n53 s.b53 s.n52 s.b52 = some r239) (he : r235 = r239) (hgo : LawF L xs n_ou n_m15 b_m15 n_m2 b_m2 fu (nI (i + 6)) (s.do_node) = some (R, c', s')) : LawF L xs n_ou n_m15 b_m15 n_m2 b_m2 (fu + 1) (nI i) s = some (R, c', s') := by
  unfold LawF at hgo ⊢
  have e0 : Int32.toNatClampNeg (nI i) = i := nI_clamp' (by omega)
  have e1 : nI i + 1 = nI (i + 1) := nI_add' i 1
  have d1 : Int32.toNatClampNeg (nI (i + 1)) = i + 1 := nI_clamp' (by omega)
  have b1 : ∀ {α : Type} (m : Option α), inb (nI (i + 1)) L m = m := fun m => inb_ok (by omega) (by omega)
  have e2 : nI i + 2 = nI (i + 2) := nI_add' i 2
  have d2 : Int32.toNatClampNeg (nI (i + 2)) = i + 2 := nI_clamp' (by omega)
  have b2 : ∀ {α : Type} (m : Option α), inb (nI (i + 2)) L m = m := fun m => inb_ok (by omega) (by omega)
  have e3 : nI i + 3 = nI (i + 3) := nI_add' i 3
  have d3 : Int32.toNatClampNeg (nI (i + 3)) = i + 3 := nI_clamp' (by omega)
  have b3 : ∀ {α : Type} (m : Option α), inb (nI (i + 3)) L m = m := fun m => inb_ok (by omega) (by omega)
  have e4 : nI i + 4 = nI (i + 4) := nI_add' i 4
  have d4 : Int32.toNatClampNeg (nI (i + 4)) = i + 4 := nI_clamp' (by omega)
  have b4 : ∀ {α : Type} (m : Option α), inb (nI (i + 4)) L m = m := fun m => inb_ok (by omega) (by omega)
  have e5 : nI i + 5 = nI (i + 5) := nI_add' i 5
  have d5 : Int32.toNatClampNeg (nI (i + 5)) = i + 5 := nI_clamp' (by omega)
  have b5 : ∀ {α : Type} (m : Option α), inb (nI (i + 5)) L m = m := fun m => inb_ok (by omega) (by omega)
  have e6 : nI i + 6 = nI (i + 6) := nI_add' i 6
  rw [F_La_law_23, if_neg (nlt_sub6 hL hL2), inb_ok (by omega) (by omega), e0, if_neg (show ¬ xs i &&& 15 = 0 by rw [hop]; decide), if_neg (show ¬ xs i &&& 15 = 1 by rw [hop]; decide), if_neg (show ¬ xs i &&& 15 = 2 by rw [hop]; decide), if_neg (show ¬ xs i &&& 15 = 3 by rw [hop]; decide), if_neg (show ¬ xs i &&& 15 = 4 by rw [hop]; decide), if_pos hop]
  simp only [e1, e2, e3, e4, e5, d1, d2, d3, d4, d5, b1, b2, b3, b4, b5]
  rw [h0, Option.bind_some]
  rw [h1, Option.bind_some]
  rw [if_pos he, e6]
  exact hgo
theorem law_part {r245 : Int32} {r249 : Int32} {R : Int32} {c' s'  : Nat} (hL : i + 6 ≤ L) (hL2 : L ≤ 4000) (hop : xs i &&& 15 = 6) (h0 : F_Eq_part (xs ((i + 1))) (xs ((i + 2))) s.f0_7 s.f18_1 s.n19 s.b19 = some r245) (h1 : F_Mo_part (xs ((i + 1))) (xs ((i + 2))) s.f3_8 s.f3_13 s.f3_14 s.f3_16 s.f3_17 s.f3_18 s.f3_19 s.f3_23 s.f3_36 s.f38_1 s.f42_1 s.n56 s.b56 s.f43_1 s.n57 s.b57 s.f45_1 s.n59 s.b59 = some r249) (he : r245 = r249) (hgo : LawF L xs n_ou n_m15 b_m15 n_m2 b_m2 fu (nI (i + 6)) (s.do_part) = some (R, c', s')) : LawF L xs n_ou n_m15 b_m15 n_m2 b_m2 (fu + 1) (nI i) s = some (R, c', s') := by
  unfold LawF at hgo ⊢
  have e0 : Int32.toNatClampNeg (nI i) = i := nI_clamp' (by omega)
  have e1 : nI i + 1 = nI (i + 1) := nI_add' i 1
  have d1 : Int32.toNatClampNeg (nI (i + 1)) = i + 1 := nI_clamp' (by omega)
  have b1 : ∀ {α : Type} (m : Option α), inb (nI (i + 1)) L m = m := fun m => inb_ok (by omega) (by omega)
  have e2 : nI i + 2 = nI (i + 2) := nI_add' i 2
  have d2 : Int32.toNatClampNeg (nI (i + 2)) = i + 2 := nI_clamp' (by omega)
  have b2 : ∀ {α : Type} (m : Option α), inb (nI (i + 2)) L m = m := fun m => inb_ok (by omega) (by omega)
  have e3 : nI i + 3 = nI (i + 3) := nI_add' i 3
  have d3 : Int32.toNatClampNeg (nI (i + 3)) = i + 3 := nI_clamp' (by omega)
  have b3 : ∀ {α : Type} (m : Option α), inb (nI (i + 3)) L m = m := fun m => inb_ok (by omega) (by omega)
  have e4 : nI i + 4 = nI (i + 4) := nI_add' i 4
  have d4 : Int32.toNatClampNeg (nI (i + 4)) = i + 4 := nI_clamp' (by omega)
  have b4 : ∀ {α : Type} (m : Option α), inb (nI (i + 4)) L m = m := fun m => inb_ok (by omega) (by omega)
  have e5 : nI i + 5 = nI (i + 5) := nI_add' i 5
  have d5 : Int32.toNatClampNeg (nI (i + 5)) = i + 5 := nI_clamp' (by omega)
  have b5 : ∀ {α : Type} (m : Option α), inb (nI (i + 5)) L m = m := fun m => inb_ok (by omega) (by omega)
  have e6 : nI i + 6 = nI (i + 6) := nI_add' i 6
  rw [F_La_law_23, if_neg (nlt_sub6 hL hL2), inb_ok (by omega) (by omega), e0, if_neg (show ¬ xs i &&& 15 = 0 by rw [hop]; decide), if_neg (show ¬ xs i &&& 15 = 1 by rw [hop]; decide), if_neg (show ¬ xs i &&& 15 = 2 by rw [hop]; decide), if_neg (show ¬ xs i &&& 15 = 3 by rw [hop]; decide), if_neg (show ¬ xs i &&& 15 = 4 by rw [hop]; decide), if_neg (show ¬ xs i &&& 15 = 5 by rw [hop]; decide), if_pos hop]
  simp only [e1, e2, e3, e4, e5, d1, d2, d3, d4, d5, b1, b2, b3, b4, b5]
  rw [h0, Option.bind_some]
  rw [h1, Option.bind_some]
  rw [if_pos he, e6]
  exact hgo
theorem law_char {r255 : Int32} {r259 : Int32} {R : Int32} {c' s'  : Nat} (hL : i + 6 ≤ L) (hL2 : L ≤ 4000) (hop : xs i &&& 15 = 7) (h0 : F_Eq_character (xs ((i + 1))) (xs ((i + 2))) s.f0_7 s.f18_1 s.n19 s.b19 s.f7_1 s.n8 s.b8 = some r255) (h1 : F_Mo_character (xs ((i + 1))) (xs ((i + 2))) s.f3_8 s.f3_13 s.f3_14 s.f3_16 s.f3_17 s.f3_18 s.f3_19 s.f3_23 s.f3_36 s.f38_1 s.f41_1 s.n55 s.b55 s.f68_1 s.n69 s.b69 s.f66_1 s.n67 s.b67 s.f62_1 s.n63 s.b63 = some r259) (he : r255 = r259) (hgo : LawF L xs n_ou n_m15 b_m15 n_m2 b_m2 fu (nI (i + 6)) (s.do_char) = some (R, c', s')) : LawF L xs n_ou n_m15 b_m15 n_m2 b_m2 (fu + 1) (nI i) s = some (R, c', s') := by
  unfold LawF at hgo ⊢
  have e0 : Int32.toNatClampNeg (nI i) = i := nI_clamp' (by omega)
  have e1 : nI i + 1 = nI (i + 1) := nI_add' i 1
  have d1 : Int32.toNatClampNeg (nI (i + 1)) = i + 1 := nI_clamp' (by omega)
  have b1 : ∀ {α : Type} (m : Option α), inb (nI (i + 1)) L m = m := fun m => inb_ok (by omega) (by omega)
  have e2 : nI i + 2 = nI (i + 2) := nI_add' i 2
  have d2 : Int32.toNatClampNeg (nI (i + 2)) = i + 2 := nI_clamp' (by omega)
  have b2 : ∀ {α : Type} (m : Option α), inb (nI (i + 2)) L m = m := fun m => inb_ok (by omega) (by omega)
  have e3 : nI i + 3 = nI (i + 3) := nI_add' i 3
  have d3 : Int32.toNatClampNeg (nI (i + 3)) = i + 3 := nI_clamp' (by omega)
  have b3 : ∀ {α : Type} (m : Option α), inb (nI (i + 3)) L m = m := fun m => inb_ok (by omega) (by omega)
  have e4 : nI i + 4 = nI (i + 4) := nI_add' i 4
  have d4 : Int32.toNatClampNeg (nI (i + 4)) = i + 4 := nI_clamp' (by omega)
  have b4 : ∀ {α : Type} (m : Option α), inb (nI (i + 4)) L m = m := fun m => inb_ok (by omega) (by omega)
  have e5 : nI i + 5 = nI (i + 5) := nI_add' i 5
  have d5 : Int32.toNatClampNeg (nI (i + 5)) = i + 5 := nI_clamp' (by omega)
  have b5 : ∀ {α : Type} (m : Option α), inb (nI (i + 5)) L m = m := fun m => inb_ok (by omega) (by omega)
  have e6 : nI i + 6 = nI (i + 6) := nI_add' i 6
  rw [F_La_law_23, if_neg (nlt_sub6 hL hL2), inb_ok (by omega) (by omega), e0, if_neg (show ¬ xs i &&& 15 = 0 by rw [hop]; decide), if_neg (show ¬ xs i &&& 15 = 1 by rw [hop]; decide), if_neg (show ¬ xs i &&& 15 = 2 by rw [hop]; decide), if_neg (show ¬ xs i &&& 15 = 3 by rw [hop]; decide), if_neg (show ¬ xs i &&& 15 = 4 by rw [hop]; decide), if_neg (show ¬ xs i &&& 15 = 5 by rw [hop]; decide), if_neg (show ¬ xs i &&& 15 = 6 by rw [hop]; decide), if_pos hop]
  simp only [e1, e2, e3, e4, e5, d1, d2, d3, d4, d5, b1, b2, b3, b4, b5]
  rw [h0, Option.bind_some]
  rw [h1, Option.bind_some]
  rw [if_pos he, e6]
  exact hgo
theorem law_write {r263 : Int32} {r264 : Int32} {r265 : Int32} {r266 : Int32} {r267 : Int32} {r268 : Nat} {r269 : (Nat → Int32)} {r270 : Nat} {r271 : (Nat → Int32)} {r284 : Int32} {r285 : Int32} {r286 : Int32} {r287 : Nat} {r288 : (Nat → Int32)} {r289 : Nat} {r290 : (Nat → Int32)} {R : Int32} {c' s' c0 s0 c1 s1 : Nat} (hL : i + 6 ≤ L) (hL2 : L ≤ 4000) (hop : xs i &&& 15 = 8) (h0 : F_Eq_writeB s.f0_7 s.f70_1 s.n71 s.b71 s.f18_1 s.f72_3 s.f72_4 s.f73_1 s.n19 s.b19 s.n74 s.b74 s.f7_1 s.n8 s.b8 = some ((r263, r264, r265, r266, r267, r268, r269, r270, r271), c0, s0)) (h1 : F_Mo_write s.f3_8 s.f3_13 s.f3_14 s.f3_16 s.f3_17 s.f3_18 s.f3_19 s.f3_23 s.f3_36 s.f20_1 s.f62_1 s.f22_1 s.f64_1 s.f23_1 s.f66_1 s.f24_1 s.f68_1 s.f75_1 s.n65 s.b65 s.n76 s.b76 s.n67 s.b67 s.n69 s.b69 s.n63 s.b63 s.f48_1 s.n49 s.b49 n_m2 b_m2 s.f50_1 s.n51 s.b51 s.f77_1 s.n78 s.b78 = some ((r284, r285, r286, r287, r288, r289, r290), c1, s1)) (he : r263 = r284) (hgo : LawF L xs n_ou n_m15 b_m15 n_m2 b_m2 fu (nI (i + 6)) (s.do_write r266 r268 r269 r264 r265 r267 r270 r271 r285 r287 r288 r286 r289 r290) = some (R, c', s')) : LawF L xs n_ou n_m15 b_m15 n_m2 b_m2 (fu + 1) (nI i) s = some (R, c0 + (c1 + (c')), s0 + (s1 + (s'))) := by
  unfold LawF at hgo ⊢
  have e0 : Int32.toNatClampNeg (nI i) = i := nI_clamp' (by omega)
  have e1 : nI i + 1 = nI (i + 1) := nI_add' i 1
  have d1 : Int32.toNatClampNeg (nI (i + 1)) = i + 1 := nI_clamp' (by omega)
  have b1 : ∀ {α : Type} (m : Option α), inb (nI (i + 1)) L m = m := fun m => inb_ok (by omega) (by omega)
  have e2 : nI i + 2 = nI (i + 2) := nI_add' i 2
  have d2 : Int32.toNatClampNeg (nI (i + 2)) = i + 2 := nI_clamp' (by omega)
  have b2 : ∀ {α : Type} (m : Option α), inb (nI (i + 2)) L m = m := fun m => inb_ok (by omega) (by omega)
  have e3 : nI i + 3 = nI (i + 3) := nI_add' i 3
  have d3 : Int32.toNatClampNeg (nI (i + 3)) = i + 3 := nI_clamp' (by omega)
  have b3 : ∀ {α : Type} (m : Option α), inb (nI (i + 3)) L m = m := fun m => inb_ok (by omega) (by omega)
  have e4 : nI i + 4 = nI (i + 4) := nI_add' i 4
  have d4 : Int32.toNatClampNeg (nI (i + 4)) = i + 4 := nI_clamp' (by omega)
  have b4 : ∀ {α : Type} (m : Option α), inb (nI (i + 4)) L m = m := fun m => inb_ok (by omega) (by omega)
  have e5 : nI i + 5 = nI (i + 5) := nI_add' i 5
  have d5 : Int32.toNatClampNeg (nI (i + 5)) = i + 5 := nI_clamp' (by omega)
  have b5 : ∀ {α : Type} (m : Option α), inb (nI (i + 5)) L m = m := fun m => inb_ok (by omega) (by omega)
  have e6 : nI i + 6 = nI (i + 6) := nI_add' i 6
  rw [F_La_law_23, if_neg (nlt_sub6 hL hL2), inb_ok (by omega) (by omega), e0, if_neg (show ¬ xs i &&& 15 = 0 by rw [hop]; decide), if_neg (show ¬ xs i &&& 15 = 1 by rw [hop]; decide), if_neg (show ¬ xs i &&& 15 = 2 by rw [hop]; decide), if_neg (show ¬ xs i &&& 15 = 3 by rw [hop]; decide), if_neg (show ¬ xs i &&& 15 = 4 by rw [hop]; decide), if_neg (show ¬ xs i &&& 15 = 5 by rw [hop]; decide), if_neg (show ¬ xs i &&& 15 = 6 by rw [hop]; decide), if_neg (show ¬ xs i &&& 15 = 7 by rw [hop]; decide), if_pos hop]
  refine bw_ok h0 ?_
  dsimp only
  refine bw_ok h1 ?_
  dsimp only
  rw [if_pos he, e6]
  exact hgo
theorem law_written {r301 : Int32} {r304 : Int32} {R : Int32} {c' s'  : Nat} (hL : i + 6 ≤ L) (hL2 : L ≤ 4000) (hop : xs i &&& 15 = 9) (h0 : F_Eq_written (xs ((i + 1))) s.f0_7 s.f70_1 s.n71 s.b71 = some r301) (h1 : F_Mo_written (xs ((i + 1))) s.f3_8 s.f3_13 s.f3_14 s.f3_16 s.f3_17 s.f3_18 s.f3_19 s.f3_23 s.f3_36 s.f77_1 s.n78 s.b78 = some r304) (he : r301 = r304) (hgo : LawF L xs n_ou n_m15 b_m15 n_m2 b_m2 fu (nI (i + 6)) (s.do_written) = some (R, c', s')) : LawF L xs n_ou n_m15 b_m15 n_m2 b_m2 (fu + 1) (nI i) s = some (R, c', s') := by
  unfold LawF at hgo ⊢
  have e0 : Int32.toNatClampNeg (nI i) = i := nI_clamp' (by omega)
  have e1 : nI i + 1 = nI (i + 1) := nI_add' i 1
  have d1 : Int32.toNatClampNeg (nI (i + 1)) = i + 1 := nI_clamp' (by omega)
  have b1 : ∀ {α : Type} (m : Option α), inb (nI (i + 1)) L m = m := fun m => inb_ok (by omega) (by omega)
  have e2 : nI i + 2 = nI (i + 2) := nI_add' i 2
  have d2 : Int32.toNatClampNeg (nI (i + 2)) = i + 2 := nI_clamp' (by omega)
  have b2 : ∀ {α : Type} (m : Option α), inb (nI (i + 2)) L m = m := fun m => inb_ok (by omega) (by omega)
  have e3 : nI i + 3 = nI (i + 3) := nI_add' i 3
  have d3 : Int32.toNatClampNeg (nI (i + 3)) = i + 3 := nI_clamp' (by omega)
  have b3 : ∀ {α : Type} (m : Option α), inb (nI (i + 3)) L m = m := fun m => inb_ok (by omega) (by omega)
  have e4 : nI i + 4 = nI (i + 4) := nI_add' i 4
  have d4 : Int32.toNatClampNeg (nI (i + 4)) = i + 4 := nI_clamp' (by omega)
  have b4 : ∀ {α : Type} (m : Option α), inb (nI (i + 4)) L m = m := fun m => inb_ok (by omega) (by omega)
  have e5 : nI i + 5 = nI (i + 5) := nI_add' i 5
  have d5 : Int32.toNatClampNeg (nI (i + 5)) = i + 5 := nI_clamp' (by omega)
  have b5 : ∀ {α : Type} (m : Option α), inb (nI (i + 5)) L m = m := fun m => inb_ok (by omega) (by omega)
  have e6 : nI i + 6 = nI (i + 6) := nI_add' i 6
  rw [F_La_law_23, if_neg (nlt_sub6 hL hL2), inb_ok (by omega) (by omega), e0, if_neg (show ¬ xs i &&& 15 = 0 by rw [hop]; decide), if_neg (show ¬ xs i &&& 15 = 1 by rw [hop]; decide), if_neg (show ¬ xs i &&& 15 = 2 by rw [hop]; decide), if_neg (show ¬ xs i &&& 15 = 3 by rw [hop]; decide), if_neg (show ¬ xs i &&& 15 = 4 by rw [hop]; decide), if_neg (show ¬ xs i &&& 15 = 5 by rw [hop]; decide), if_neg (show ¬ xs i &&& 15 = 6 by rw [hop]; decide), if_neg (show ¬ xs i &&& 15 = 7 by rw [hop]; decide), if_neg (show ¬ xs i &&& 15 = 8 by rw [hop]; decide), if_pos hop]
  simp only [e1, e2, e3, e4, e5, d1, d2, d3, d4, d5, b1, b2, b3, b4, b5]
  rw [h0, Option.bind_some]
  rw [h1, Option.bind_some]
  rw [if_pos he, e6]
  exact hgo
theorem law_rewind {r308 : Int32} {r309 : Int32} {r310 : Nat} {r311 : (Nat → Int32)} {r318 : Int32} {r319 : Int32} {r320 : Nat} {r321 : (Nat → Int32)} {R : Int32} {c' s' c0 s0 c1 s1 : Nat} (hL : i + 6 ≤ L) (hL2 : L ≤ 4000) (hop : xs i &&& 15 = 10) (h0 : F_Eq_rewind s.f0_7 s.f1_1 s.f70_1 s.n71 s.b71 s.n2 s.b2 = some ((r308, r309, r310, r311), c0, s0)) (h1 : F_Mo_rewind s.f3_8 s.f3_13 s.f3_14 s.f3_16 s.f3_17 s.f3_18 s.f3_19 s.f3_23 s.f3_36 s.f4_1 s.f77_1 s.n78 s.b78 s.n5 s.b5 = some ((r318, r319, r320, r321), c1, s1)) (he : r308 = r318) (hgo : LawF L xs n_ou n_m15 b_m15 n_m2 b_m2 fu (nI (i + 6)) (s.do_rewind r309 r310 r311 r319 r320 r321) = some (R, c', s')) : LawF L xs n_ou n_m15 b_m15 n_m2 b_m2 (fu + 1) (nI i) s = some (R, c0 + (c1 + (c')), s0 + (s1 + (s'))) := by
  unfold LawF at hgo ⊢
  have e0 : Int32.toNatClampNeg (nI i) = i := nI_clamp' (by omega)
  have e1 : nI i + 1 = nI (i + 1) := nI_add' i 1
  have d1 : Int32.toNatClampNeg (nI (i + 1)) = i + 1 := nI_clamp' (by omega)
  have b1 : ∀ {α : Type} (m : Option α), inb (nI (i + 1)) L m = m := fun m => inb_ok (by omega) (by omega)
  have e2 : nI i + 2 = nI (i + 2) := nI_add' i 2
  have d2 : Int32.toNatClampNeg (nI (i + 2)) = i + 2 := nI_clamp' (by omega)
  have b2 : ∀ {α : Type} (m : Option α), inb (nI (i + 2)) L m = m := fun m => inb_ok (by omega) (by omega)
  have e3 : nI i + 3 = nI (i + 3) := nI_add' i 3
  have d3 : Int32.toNatClampNeg (nI (i + 3)) = i + 3 := nI_clamp' (by omega)
  have b3 : ∀ {α : Type} (m : Option α), inb (nI (i + 3)) L m = m := fun m => inb_ok (by omega) (by omega)
  have e4 : nI i + 4 = nI (i + 4) := nI_add' i 4
  have d4 : Int32.toNatClampNeg (nI (i + 4)) = i + 4 := nI_clamp' (by omega)
  have b4 : ∀ {α : Type} (m : Option α), inb (nI (i + 4)) L m = m := fun m => inb_ok (by omega) (by omega)
  have e5 : nI i + 5 = nI (i + 5) := nI_add' i 5
  have d5 : Int32.toNatClampNeg (nI (i + 5)) = i + 5 := nI_clamp' (by omega)
  have b5 : ∀ {α : Type} (m : Option α), inb (nI (i + 5)) L m = m := fun m => inb_ok (by omega) (by omega)
  have e6 : nI i + 6 = nI (i + 6) := nI_add' i 6
  rw [F_La_law_23, if_neg (nlt_sub6 hL hL2), inb_ok (by omega) (by omega), e0, if_neg (show ¬ xs i &&& 15 = 0 by rw [hop]; decide), if_neg (show ¬ xs i &&& 15 = 1 by rw [hop]; decide), if_neg (show ¬ xs i &&& 15 = 2 by rw [hop]; decide), if_neg (show ¬ xs i &&& 15 = 3 by rw [hop]; decide), if_neg (show ¬ xs i &&& 15 = 4 by rw [hop]; decide), if_neg (show ¬ xs i &&& 15 = 5 by rw [hop]; decide), if_neg (show ¬ xs i &&& 15 = 6 by rw [hop]; decide), if_neg (show ¬ xs i &&& 15 = 7 by rw [hop]; decide), if_neg (show ¬ xs i &&& 15 = 8 by rw [hop]; decide), if_neg (show ¬ xs i &&& 15 = 9 by rw [hop]; decide), if_pos hop]
  refine bw_ok h0 ?_
  dsimp only
  refine bw_ok h1 ?_
  dsimp only
  rw [if_pos he, e6]
  exact hgo
theorem law_end0 {R r38 r46 r48 : Int32} {r39 : Nat → Int64} {c' s' c0 s0 : Nat} (hL : i + 6 ≤ L) (hL2 : L ≤ 4000) (hop : xs i &&& 15 = 1) (h0 : F_La_end (xs ((i + 1))) s.f0_7 s.f1_1 n_ou s.b6 = some ((0, r38, r39), c0, s0)) (h1 : F_Mo_end (xs ((i + 1))) s.f3_8 s.f3_13 s.f3_14 s.f3_16 s.f3_17 s.f3_18 s.f3_19 s.f3_23 s.f3_36 s.f4_1 = (r46, 0, r48)) (hou : 0 < n_ou) (hv : lg_cmp (r39 0) r46.toInt64 = 0) (hgo : LawF L xs n_ou n_m15 b_m15 n_m2 b_m2 fu (nI (i + 6)) (s.do_end r38 0 r48 r39) = some (R, c', s')) : LawF L xs n_ou n_m15 b_m15 n_m2 b_m2 (fu + 1) (nI i) s = some (R, c0 + c', s0 + s') := by
  unfold LawF at hgo ⊢
  have e0 : Int32.toNatClampNeg (nI i) = i := nI_clamp' (by omega)
  have e1 : nI i + 1 = nI (i + 1) := nI_add' i 1
  have d1 : Int32.toNatClampNeg (nI (i + 1)) = i + 1 := nI_clamp' (by omega)
  have b1 : ∀ {α : Type} (m : Option α), inb (nI (i + 1)) L m = m := fun m => inb_ok (by omega) (by omega)
  have e6 : nI i + 6 = nI (i + 6) := nI_add' i 6
  rw [F_La_law_23, if_neg (nlt_sub6 hL hL2), inb_ok (by omega) (by omega), e0, if_neg (show ¬ xs i &&& 15 = 0 by rw [hop]; decide), if_pos hop]
  simp only [e1, d1, b1]
  refine bw_ok h0 ?_
  dsimp only
  try simp only [e1, d1, b1]
  unfold nm
  rw [h1]
  dsimp only
  rw [if_pos rfl, if_pos trivial, show (inb (0 : Int32) n_ou : Option (Int32 × Nat × Nat) → Option (Int32 × Nat × Nat)) = inb (nI 0) n_ou from rfl, inb_ok hou (by omega), show Int32.toNatClampNeg 0 = 0 from rfl, if_pos hv, e6]
  exact hgo
theorem law_end1 {R r38 r46 r48 : Int32} {r39 : Nat → Int64} {c' s' c0 s0 : Nat} (hL : i + 6 ≤ L) (hL2 : L ≤ 4000) (hop : xs i &&& 15 = 1) (h0 : F_La_end (xs ((i + 1))) s.f0_7 s.f1_1 n_ou s.b6 = some ((1, r38, r39), c0, s0)) (h1 : F_Mo_end (xs ((i + 1))) s.f3_8 s.f3_13 s.f3_14 s.f3_16 s.f3_17 s.f3_18 s.f3_19 s.f3_23 s.f3_36 s.f4_1 = (r46, 1, r48)) (hgo : LawF L xs n_ou n_m15 b_m15 n_m2 b_m2 fu (nI (i + 6)) (s.do_end r38 1 r48 r39) = some (R, c', s')) : LawF L xs n_ou n_m15 b_m15 n_m2 b_m2 (fu + 1) (nI i) s = some (R, c0 + c', s0 + s') := by
  unfold LawF at hgo ⊢
  have e0 : Int32.toNatClampNeg (nI i) = i := nI_clamp' (by omega)
  have e1 : nI i + 1 = nI (i + 1) := nI_add' i 1
  have d1 : Int32.toNatClampNeg (nI (i + 1)) = i + 1 := nI_clamp' (by omega)
  have b1 : ∀ {α : Type} (m : Option α), inb (nI (i + 1)) L m = m := fun m => inb_ok (by omega) (by omega)
  have e6 : nI i + 6 = nI (i + 6) := nI_add' i 6
  rw [F_La_law_23, if_neg (nlt_sub6 hL hL2), inb_ok (by omega) (by omega), e0, if_neg (show ¬ xs i &&& 15 = 0 by rw [hop]; decide), if_pos hop]
  simp only [e1, d1, b1]
  refine bw_ok h0 ?_
  dsimp only
  try simp only [e1, d1, b1]
  unfold nm
  rw [h1]
  dsimp only
  rw [if_pos rfl, if_neg (by decide), e6]
  exact hgo
theorem law_other {R : Int32} {c' s' : Nat} (hL : i + 6 ≤ L) (hL2 : L ≤ 4000) (hop : ∀ k : Nat, k ≤ 10 → ¬ xs i &&& 15 = nI k) (hgo : LawF L xs n_ou n_m15 b_m15 n_m2 b_m2 fu (nI (i + 6)) s = some (R, c', s')) : LawF L xs n_ou n_m15 b_m15 n_m2 b_m2 (fu + 1) (nI i) s = some (R, c', s') := by
  unfold LawF at hgo ⊢
  have e0 : Int32.toNatClampNeg (nI i) = i := nI_clamp' (by omega)
  have e6 : nI i + 6 = nI (i + 6) := nI_add' i 6
  rw [F_La_law_23, if_neg (nlt_sub6 hL hL2), inb_ok (by omega) (by omega), e0, if_neg (show ¬ xs i &&& 15 = 0 from hop 0 (by omega)), if_neg (show ¬ xs i &&& 15 = 1 from hop 1 (by omega)), if_neg (show ¬ xs i &&& 15 = 2 from hop 2 (by omega)), if_neg (show ¬ xs i &&& 15 = 3 from hop 3 (by omega)), if_neg (show ¬ xs i &&& 15 = 4 from hop 4 (by omega)), if_neg (show ¬ xs i &&& 15 = 5 from hop 5 (by omega)), if_neg (show ¬ xs i &&& 15 = 6 from hop 6 (by omega)), if_neg (show ¬ xs i &&& 15 = 7 from hop 7 (by omega)), if_neg (show ¬ xs i &&& 15 = 8 from hop 8 (by omega)), if_neg (show ¬ xs i &&& 15 = 9 from hop 9 (by omega)), if_neg (show ¬ xs i &&& 15 = 10 from hop 10 (by omega)), e6]
  exact hgo
end Law
end
