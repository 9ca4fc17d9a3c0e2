set_option maxRecDepth 20000 in
theorem ig_Fr : ∀ w ∈ u_ws R_Fr T_Fr 15, w ∈ gG := in_g in_Fr (by decide +kernel)
theorem df_Fr : ∀ j, j < 15 → defaultValue (ty_Fr j) = vp_V [.null, .null, .int 0, .int 0, .int 0, .int 0, .int 0, .int 0, .int 0, .int 0, .int 0, .int 0, .int 0, .int 0, .int 0] j := by decide +kernel
set_option maxRecDepth 20000 in
theorem ig_Nd : ∀ w ∈ u_ws R_Nd T_Nd 2, w ∈ gG := in_g in_Nd (by decide +kernel)
theorem df_Nd : ∀ j, j < 2 → defaultValue (ty_Nd j) = vp_V [.null, .int 0] j := by decide +kernel
set_option maxRecDepth 20000 in
theorem ig_Rd : ∀ w ∈ u_ws R_Rd T_Rd 13, w ∈ gG := in_g in_Rd (by decide +kernel)
theorem df_Rd : ∀ j, j < 13 → defaultValue (ty_Rd j) = vp_V [.null, .null, .null, .null, .null, .null, .null, .int 0, .int 0, .int 0, .int 0, .int 0, .int 0] j := by decide +kernel
set_option maxRecDepth 20000 in
theorem ig_Rw : ∀ w ∈ u_ws R_Rw T_Rw 2, w ∈ gG := in_g in_Rw (by decide +kernel)
theorem df_Rw : ∀ j, j < 2 → defaultValue (ty_Rw j) = vp_V [.null, .int 0] j := by decide +kernel
set_option maxRecDepth 20000 in
theorem ig_Sc : ∀ w ∈ u_ws R_Sc T_Sc 5, w ∈ gG := in_g in_Sc (by decide +kernel)
theorem df_Sc : ∀ j, j < 5 → defaultValue (ty_Sc j) = vp_V [.null, .int 0, .int 0, .int 0, .int 0] j := by decide +kernel
set_option maxRecDepth 20000 in
theorem ig_Tk : ∀ w ∈ u_ws R_Tk T_Tk 2, w ∈ gG := in_g in_Tk (by decide +kernel)
theorem df_Tk : ∀ j, j < 2 → defaultValue (ty_Tk j) = vp_V [.null, .int 0] j := by decide +kernel
set_option maxRecDepth 20000 in
theorem ig_Wr : ∀ w ∈ u_ws R_Wr T_Wr 5, w ∈ gG := in_g in_Wr (by decide +kernel)
theorem df_Wr : ∀ j, j < 5 → defaultValue (ty_Wr j) = vp_V [.null, .null, .null, .int 0, .int 0] j := by decide +kernel
set_option maxRecDepth 20000 in
theorem ig_Eq : ∀ w ∈ u_ws R_Eq T_Eq 8, w ∈ gG := in_g in_Eq (by decide +kernel)
theorem df_Eq : ∀ j, j < 8 → defaultValue (ty_Eq j) = vp_V [.null, .null, .null, .null, .null, .null, .null, .int 0] j := by decide +kernel
set_option maxRecDepth 20000 in
theorem ig_Nm : ∀ w ∈ u_ws R_Nm T_Nm 2, w ∈ gG := in_g in_Nm (by decide +kernel)
theorem df_Nm : ∀ j, j < 2 → defaultValue (ty_Nm j) = vp_V [.null, .int 0] j := by decide +kernel
set_option maxRecDepth 20000 in
theorem ig_Mo : ∀ w ∈ u_ws R_Mo T_Mo 39, w ∈ gG := in_g in_Mo (by decide +kernel)
theorem df_Mo : ∀ j, j < 39 → defaultValue (ty_Mo j) = vp_V [.null, .null, .null, .null, .null, .null, .null, .null, .int 0, .null, .null, .null, .null, .int 0, .int 0, .null, .int 0, .int 0, .int 0, .int 0, .null, .null, .null, .int 0, .null, .null, .null, .null, .null, .null, .null, .null, .null, .null, .null, .null, .int 0, .null, .null] j := by decide +kernel
theorem mc_obj : Cond.code objectInit ⟨#[0xb1]⟩ 1 none ∈ gG := gG_in (List.mem_append_right _ (List.mem_of_getElem? (i := 30) rfl)) rfl
theorem mc_min : Cond.code Lib.Math.min.name Lib.Math.min.code 2 (some .int) ∈ gG := gG_in (List.mem_append_right _ (List.mem_of_getElem? (i := 294) (by decide +kernel))) rfl
abbrev moF (am : Nat → Nat) (i8 i13 i14 i16 i17 i18 i19 i23 i36 : Int32) : List Value := [.ref (am 0), .ref (am 1), .ref (am 2), .ref (am 3), .ref (am 4), .ref (am 5), .ref (am 6), .ref (am 7), .int i8, .ref (am 9), .ref (am 10), .ref (am 11), .ref (am 12), .int i13, .int i14, .ref (am 15), .int i16, .int i17, .int i18, .int i19, .ref (am 20), .ref (am 21), .ref (am 22), .int i23, .ref (am 24), .ref (am 25), .ref (am 26), .ref (am 27), .ref (am 28), .ref (am 29), .ref (am 30), .ref (am 31), .ref (am 32), .ref (am 33), .ref (am 34), .ref (am 35), .int i36, .ref (am 37), .ref (am 38)]
def nm {α β : Type} (a : α) (k : α → β) : β := k a
theorem nm_at {α β : Type} {a z : α} {k : α → β} {r : β} (h0 : a = z) (h : nm a k = r) : k z = r := by subst h0; exact h
