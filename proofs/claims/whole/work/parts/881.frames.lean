section
/-! the frames of the Reader -/
def OutC {α : Type} (P : α → Prop) (X : Option (α × Nat × Nat)) : Prop := ∀ r k s, X = some (r, k, s) → P r
def OutN {α : Type} (P : α → Prop) (X : Option α) : Prop := ∀ r, X = some r → P r
/-- at most one frame more, and one deeper -/
def Gp (fn fd : Nat) {β : Type} (r : Nat × Nat × β) : Prop := (r.1 ≤ fn ∨ r.1 ≤ fd + 2) ∧ r.2.1 ≤ fd + 1
/-- no frame more, and no deeper -/
def Gn (fn fd : Nat) {β : Type} (r : Nat × Nat × β) : Prop := r.1 = fn ∧ r.2.1 ≤ fd
theorem Gp.mk' {fn fd a b : Nat} {β : Type} {c : β} (h1 : a ≤ fn ∨ a ≤ fd + 2) (h2 : b ≤ fd + 1) : Gp fn fd (a, b, c) := ⟨h1, h2⟩
theorem Gn.mk' {fn fd a b : Nat} {β : Type} {c : β} (h1 : a = fn) (h2 : b ≤ fd) : Gn fn fd (a, b, c) := ⟨h1, h2⟩
theorem OutC.none {α : Type} {P : α → Prop} : OutC P none := fun _ _ _ h => by cases h
theorem OutN.none {α : Type} {P : α → Prop} : OutN P none := fun _ h => by cases h
theorem OutC.ret {α : Type} {P : α → Prop} {r : α} {k s : Nat} (h : P r) : OutC P (some (r, k, s)) := fun r' k' s' e => by cases e; exact h
theorem OutN.ret {α : Type} {P : α → Prop} {r : α} (h : P r) : OutN P (some r) := fun r' e => by cases e; exact h
theorem OutC.ite {α : Type} {P : α → Prop} {c : Prop} [Decidable c] {A B : Option (α × Nat × Nat)} (h : c → OutC P A) (g : ¬ c → OutC P B) : OutC P (if c then A else B) := by
  by_cases e : c
  · rw [if_pos e]; exact h e
  · rw [if_neg e]; exact g e
theorem OutN.ite {α : Type} {P : α → Prop} {c : Prop} [Decidable c] {A B : Option α} (h : c → OutN P A) (g : ¬ c → OutN P B) : OutN P (if c then A else B) := by
  by_cases e : c
  · rw [if_pos e]; exact h e
  · rw [if_neg e]; exact g e
theorem OutC.bw {α β : Type} {Q : α → Prop} {P : β → Prop} {X : Option (α × Nat × Nat)} {k : α → Option (β × Nat × Nat)} (h : OutC Q X) (g : ∀ r, Q r → OutC P (k r)) : OutC P (bw X k) := by
  intro r c s e
  match X, h, e with
  | some (a, c1, s1), h, e =>
    have e : (al c1 s1 (k a)) = some (r, c, s) := e
    unfold al at e
    cases hk : k a with
    | none => rw [hk] at e; cases e
    | some y =>
      obtain ⟨y, c2, s2⟩ := y
      rw [hk] at e
      cases e
      exact g a (h a c1 s1 rfl) y c2 s2 hk
theorem OutC.bind {α β : Type} {Q : α → Prop} {P : β → Prop} {X : Option α} {k : α → Option (β × Nat × Nat)} (h : OutN Q X) (g : ∀ r, Q r → OutC P (k r)) : OutC P (Option.bind X k) := by
  intro r c s e
  match X, h, e with
  | some a, h, e => exact g a (h a rfl) r c s e
theorem OutN.bind {α β : Type} {Q : α → Prop} {P : β → Prop} {X : Option α} {k : α → Option β} (h : OutN Q X) (g : ∀ r, Q r → OutN P (k r)) : OutN P (Option.bind X k) := by
  intro r e
  match X, h, e with
  | some a, h, e => exact g a (h a rfl) r e
theorem OutC.alc {α : Type} {P : α → Prop} {a b : Nat} {X : Option (α × Nat × Nat)} (h : OutC P X) : OutC P (al a b X) := by
  intro r c s e
  unfold al at e
  cases X with
  | none => cases e
  | some y =>
    obtain ⟨y, c2, s2⟩ := y
    cases e
    exact h y c2 s2 rfl
theorem OutC.nm {α β : Type} {P : β → Prop} {a : α} {k : α → Option (β × Nat × Nat)} (h : OutC P (k a)) : OutC P (nm a k) := h
theorem OutN.nm {α β : Type} {P : β → Prop} {a : α} {k : α → Option β} (h : OutN P (k a)) : OutN P (nm a k) := h
theorem OutC.grd {α : Type} {P : α → Prop} {c : Prop} [Decidable c] {X : Option (α × Nat × Nat)} (h : OutC P X) : OutC P (grd c X) := OutC.ite (fun _ => h) (fun _ => OutC.none)
theorem OutN.grd {α : Type} {P : α → Prop} {c : Prop} [Decidable c] {X : Option α} (h : OutN P X) : OutN P (grd c X) := OutN.ite (fun _ => h) (fun _ => OutN.none)
theorem OutC.mono {α : Type} {P Q : α → Prop} {X : Option (α × Nat × Nat)} (h : OutC Q X) (g : ∀ r, Q r → P r) : OutC P X := fun r k s e => g r (h r k s e)
theorem OutN.mono {α : Type} {P Q : α → Prop} {X : Option α} (h : OutN Q X) (g : ∀ r, Q r → P r) : OutN P X := fun r e => g r (h r e)
theorem OutC.any {α : Type} {X : Option (α × Nat × Nat)} : OutC (fun _ => True) X := fun _ _ _ _ => trivial
theorem OutN.any {α : Type} {X : Option α} : OutN (fun _ => True) X := fun _ _ => trivial
theorem g_Rd_pop {fn : Nat} {fd : Nat} {fcf : Nat → FrC} {mode_h0 : Int32} {levels_h0 : Int32} {signs_h0 : Int32} {loops_h0 : Int32} {token_h0 : Int32} {fault_h0 : Int32} {kind_t : Int32} {place_t : Int32} {width_t : Int32} {second_t : Int32} {parts_t : Int32} {innerParts_t : Int32} {innerPlace_t : Int32} {innerWidth_t : Int32} {signs_t : Int32} {waitingBelow_t : Int32} {limited_t : Int32} {targets_t : Int32} {lastBlock_t : Int32} : OutN (Gn fn fd) (F_Rd_pop fn fd fcf mode_h0 levels_h0 signs_h0 loops_h0 token_h0 fault_h0 kind_t place_t width_t second_t parts_t innerParts_t innerPlace_t innerWidth_t signs_t waitingBelow_t limited_t targets_t lastBlock_t) := by
  unfold F_Rd_pop
  repeat' first
    | with_reducible exact OutN.none
    | ((with_reducible refine OutN.ret ?_); exact Gn.mk' (by first | omega | exact hr1 | exact Or.inl (Nat.le_of_eq hr1)) (by first | omega | exact hr2 | exact Nat.le_succ_of_le hr2))
    | with_reducible refine OutN.ite (fun _ => ?_) (fun _ => ?_)
    | ((with_reducible refine OutN.nm ?_); try dsimp only)
    | with_reducible refine OutN.grd ?_
    | ((with_reducible refine OutN.bind OutN.any (fun r _ => ?_)); try dsimp only)
theorem g_Rd_becomeTargets {p1 : Int32} {fn : Nat} {fd : Nat} {fcf : Nat → FrC} {mode_h0 : Int32} {levels_h0 : Int32} {signs_h0 : Int32} {loops_h0 : Int32} {token_h0 : Int32} {fault_h0 : Int32} {kind_t : Int32} {place_t : Int32} {width_t : Int32} {second_t : Int32} {parts_t : Int32} {innerParts_t : Int32} {innerPlace_t : Int32} {innerWidth_t : Int32} {signs_t : Int32} {waitingBelow_t : Int32} {limited_t : Int32} {targets_t : Int32} {lastBlock_t : Int32} {count_a_draft_h0 : Int32} {n_a_cells_a_draft_h0 : Nat} {b_a_cells_a_draft_h0 : Nat → Int32} : OutC (Gn fn fd) (F_Rd_becomeTargets p1 fn fd fcf mode_h0 levels_h0 signs_h0 loops_h0 token_h0 fault_h0 kind_t place_t width_t second_t parts_t innerParts_t innerPlace_t innerWidth_t signs_t waitingBelow_t limited_t targets_t lastBlock_t count_a_draft_h0 n_a_cells_a_draft_h0 b_a_cells_a_draft_h0) := by
  unfold F_Rd_becomeTargets
  repeat' first
    | with_reducible exact OutC.none
    | ((with_reducible refine OutC.ret ?_); exact Gn.mk' (by first | omega | exact hr1 | exact Or.inl (Nat.le_of_eq hr1)) (by first | omega | exact hr2 | exact Nat.le_succ_of_le hr2))
    | with_reducible refine OutC.ite (fun _ => ?_) (fun _ => ?_)
    | ((with_reducible refine OutC.nm ?_); try dsimp only)
    | with_reducible refine OutC.grd ?_
    | with_reducible refine OutC.alc ?_
    | ((with_reducible refine OutC.bind g_Rd_pop (fun r hr => ?_)); obtain ⟨hr1, hr2⟩ := hr; try dsimp only at hr1 hr2 ⊢)
    | ((with_reducible refine OutC.bw OutC.any (fun r _ => ?_)); try dsimp only)
    | ((with_reducible refine OutC.bind OutN.any (fun r _ => ?_)); try dsimp only)
theorem g_Rd_begin {fn : Nat} {fd : Nat} {fcf : Nat → FrC} {mode_h0 : Int32} {levels_h0 : Int32} {signs_h0 : Int32} {loops_h0 : Int32} {token_h0 : Int32} {fault_h0 : Int32} {kind_t : Int32} {place_t : Int32} {width_t : Int32} {second_t : Int32} {parts_t : Int32} {innerParts_t : Int32} {innerPlace_t : Int32} {innerWidth_t : Int32} {signs_t : Int32} {waitingBelow_t : Int32} {limited_t : Int32} {targets_t : Int32} {lastBlock_t : Int32} {next_a_scanner_h0 : Int32} {kind_a_scanner_h0 : Int32} {start_a_scanner_h0 : Int32} {width_a_scanner_h0 : Int32} {count_a_draft_h0 : Int32} {count_a_waiting_h0 : Int32} {count_a_functions_h0 : Int32} : OutN (Gn fn fd) (F_Rd_begin fn fd fcf mode_h0 levels_h0 signs_h0 loops_h0 token_h0 fault_h0 kind_t place_t width_t second_t parts_t innerParts_t innerPlace_t innerWidth_t signs_t waitingBelow_t limited_t targets_t lastBlock_t next_a_scanner_h0 kind_a_scanner_h0 start_a_scanner_h0 width_a_scanner_h0 count_a_draft_h0 count_a_waiting_h0 count_a_functions_h0) := by
  unfold F_Rd_begin
  repeat' first
    | with_reducible exact OutN.none
    | ((with_reducible refine OutN.ret ?_); exact Gn.mk' (by first | omega | exact hr1 | exact Or.inl (Nat.le_of_eq hr1)) (by first | omega | exact hr2 | exact Nat.le_succ_of_le hr2))
    | with_reducible refine OutN.ite (fun _ => ?_) (fun _ => ?_)
    | ((with_reducible refine OutN.nm ?_); try dsimp only)
    | with_reducible refine OutN.grd ?_
    | ((with_reducible refine OutN.bind OutN.any (fun r _ => ?_)); try dsimp only)
theorem g_Rd_push {p1 : Int32} {fn : Nat} {fd : Nat} {fcf : Nat → FrC} {mode_h0 : Int32} {levels_h0 : Int32} {signs_h0 : Int32} {loops_h0 : Int32} {token_h0 : Int32} {fault_h0 : Int32} {kind_t : Int32} {place_t : Int32} {width_t : Int32} {second_t : Int32} {parts_t : Int32} {innerParts_t : Int32} {innerPlace_t : Int32} {innerWidth_t : Int32} {signs_t : Int32} {waitingBelow_t : Int32} {limited_t : Int32} {targets_t : Int32} {lastBlock_t : Int32} {next_a_scanner_h0 : Int32} {kind_a_scanner_h0 : Int32} {start_a_scanner_h0 : Int32} {width_a_scanner_h0 : Int32} {count_a_waiting_h0 : Int32} : OutC (Gp fn fd) (F_Rd_push p1 fn fd fcf mode_h0 levels_h0 signs_h0 loops_h0 token_h0 fault_h0 kind_t place_t width_t second_t parts_t innerParts_t innerPlace_t innerWidth_t signs_t waitingBelow_t limited_t targets_t lastBlock_t next_a_scanner_h0 kind_a_scanner_h0 start_a_scanner_h0 width_a_scanner_h0 count_a_waiting_h0) := by
  unfold F_Rd_push
  repeat' first
    | with_reducible exact OutC.none
    | ((with_reducible refine OutC.ret ?_); exact Gp.mk' (by first | omega | exact hr1 | exact Or.inl (Nat.le_of_eq hr1)) (by first | omega | exact hr2 | exact Nat.le_succ_of_le hr2))
    | with_reducible refine OutC.ite (fun _ => ?_) (fun _ => ?_)
    | ((with_reducible refine OutC.nm ?_); try dsimp only)
    | with_reducible refine OutC.grd ?_
    | with_reducible refine OutC.alc ?_
    | ((with_reducible refine OutC.bw OutC.any (fun r _ => ?_)); try dsimp only)
    | ((with_reducible refine OutC.bind OutN.any (fun r _ => ?_)); try dsimp only)
theorem g_Rd_beginCall {fn : Nat} {fd : Nat} {fcf : Nat → FrC} {mode_h0 : Int32} {levels_h0 : Int32} {signs_h0 : Int32} {loops_h0 : Int32} {token_h0 : Int32} {fault_h0 : Int32} {kind_t : Int32} {place_t : Int32} {width_t : Int32} {second_t : Int32} {parts_t : Int32} {innerParts_t : Int32} {innerPlace_t : Int32} {innerWidth_t : Int32} {signs_t : Int32} {waitingBelow_t : Int32} {limited_t : Int32} {targets_t : Int32} {lastBlock_t : Int32} {next_a_scanner_h0 : Int32} {kind_a_scanner_h0 : Int32} {start_a_scanner_h0 : Int32} {width_a_scanner_h0 : Int32} {count_a_waiting_h0 : Int32} : OutC (Gp fn fd) (F_Rd_beginCall fn fd fcf mode_h0 levels_h0 signs_h0 loops_h0 token_h0 fault_h0 kind_t place_t width_t second_t parts_t innerParts_t innerPlace_t innerWidth_t signs_t waitingBelow_t limited_t targets_t lastBlock_t next_a_scanner_h0 kind_a_scanner_h0 start_a_scanner_h0 width_a_scanner_h0 count_a_waiting_h0) := by
  unfold F_Rd_beginCall
  repeat' first
    | with_reducible exact OutC.none
    | ((with_reducible refine OutC.ret ?_); exact Gp.mk' (by first | omega | exact hr1 | exact Or.inl (Nat.le_of_eq hr1)) (by first | omega | exact hr2 | exact Nat.le_succ_of_le hr2))
    | with_reducible refine OutC.ite (fun _ => ?_) (fun _ => ?_)
    | ((with_reducible refine OutC.nm ?_); try dsimp only)
    | with_reducible refine OutC.grd ?_
    | with_reducible refine OutC.alc ?_
    | ((with_reducible refine OutC.mono g_Rd_push ?_); intro r hr; obtain ⟨h1, h2⟩ := hr; exact ⟨by first | omega | (rw [h1]; exact hr1), by first | omega | exact Nat.le_trans h2 hr2⟩)
    | ((with_reducible refine OutC.bw g_Rd_push (fun r hr => ?_)); obtain ⟨hr1, hr2⟩ := hr; try dsimp only at hr1 hr2 ⊢)
    | ((with_reducible refine OutC.bw OutC.any (fun r _ => ?_)); try dsimp only)
    | ((with_reducible refine OutC.bind OutN.any (fun r _ => ?_)); try dsimp only)
theorem g_Rd_endBlocks_97 {mode_h0 : Int32} {levels_h0 : Int32} {signs_h0 : Int32} {loops_h0 : Int32} {token_h0 : Int32} {fault_h0 : Int32} {kind_t : Int32} {place_t : Int32} {width_t : Int32} {second_t : Int32} {parts_t : Int32} {innerParts_t : Int32} {innerPlace_t : Int32} {innerWidth_t : Int32} {signs_t : Int32} {waitingBelow_t : Int32} {limited_t : Int32} {targets_t : Int32} {lastBlock_t : Int32} {t0_97 : Int32} {n9_97 : Nat} {d9_97 : Nat} {c9_97 : Nat → FrC} {f2_1_97 : Int32} {n3_97 : Nat} {b3_97 : Nat → Int32} : OutC (Gn n9_97 d9_97) (F_Rd_endBlocks_97 mode_h0 levels_h0 signs_h0 loops_h0 token_h0 fault_h0 kind_t place_t width_t second_t parts_t innerParts_t innerPlace_t innerWidth_t signs_t waitingBelow_t limited_t targets_t lastBlock_t t0_97 n9_97 d9_97 c9_97 f2_1_97 n3_97 b3_97) := by
  unfold F_Rd_endBlocks_97
  repeat' first
    | with_reducible exact OutC.none
    | ((with_reducible refine OutC.ret ?_); exact Gn.mk' (by first | omega | exact hr1 | exact Or.inl (Nat.le_of_eq hr1)) (by first | omega | exact hr2 | exact Nat.le_succ_of_le hr2))
    | with_reducible refine OutC.ite (fun _ => ?_) (fun _ => ?_)
    | ((with_reducible refine OutC.nm ?_); try dsimp only)
    | with_reducible refine OutC.grd ?_
    | with_reducible refine OutC.alc ?_
    | ((with_reducible refine OutC.bind g_Rd_pop (fun r hr => ?_)); obtain ⟨hr1, hr2⟩ := hr; try dsimp only at hr1 hr2 ⊢)
    | ((with_reducible refine OutC.bw OutC.any (fun r _ => ?_)); try dsimp only)
    | ((with_reducible refine OutC.bind OutN.any (fun r _ => ?_)); try dsimp only)
theorem g_Rd_endBlocks_34 {mode_h0 : Int32} {levels_h0 : Int32} {signs_h0 : Int32} {loops_h0 : Int32} {token_h0 : Int32} {fault_h0 : Int32} {kind_t : Int32} {place_t : Int32} {width_t : Int32} {second_t : Int32} {parts_t : Int32} {innerParts_t : Int32} {innerPlace_t : Int32} {innerWidth_t : Int32} {signs_t : Int32} {waitingBelow_t : Int32} {limited_t : Int32} {targets_t : Int32} {lastBlock_t : Int32} {count_a_draft_h0 : Int32} {n_a_cells_a_draft_h0 : Nat} {b_a_cells_a_draft_h0 : Nat → Int32} {n9_34 : Nat} {d9_34 : Nat} {c9_34 : Nat → FrC} : OutC (Gn n9_34 d9_34) (F_Rd_endBlocks_34 mode_h0 levels_h0 signs_h0 loops_h0 token_h0 fault_h0 kind_t place_t width_t second_t parts_t innerParts_t innerPlace_t innerWidth_t signs_t waitingBelow_t limited_t targets_t lastBlock_t count_a_draft_h0 n_a_cells_a_draft_h0 b_a_cells_a_draft_h0 n9_34 d9_34 c9_34) := by
  unfold F_Rd_endBlocks_34
  repeat' first
    | with_reducible exact OutC.none
    | ((with_reducible refine OutC.ret ?_); exact Gn.mk' (by first | omega | exact hr1 | exact Or.inl (Nat.le_of_eq hr1)) (by first | omega | exact hr2 | exact Nat.le_succ_of_le hr2))
    | with_reducible refine OutC.ite (fun _ => ?_) (fun _ => ?_)
    | ((with_reducible refine OutC.nm ?_); try dsimp only)
    | with_reducible refine OutC.grd ?_
    | with_reducible refine OutC.alc ?_
    | ((with_reducible refine OutC.mono g_Rd_endBlocks_97 ?_); intro r hr; obtain ⟨h1, h2⟩ := hr; exact ⟨by first | omega | (rw [h1]; exact hr1), by first | omega | exact Nat.le_trans h2 hr2⟩)
    | ((with_reducible refine OutC.bw g_Rd_endBlocks_97 (fun r hr => ?_)); obtain ⟨hr1, hr2⟩ := hr; try dsimp only at hr1 hr2 ⊢)
    | ((with_reducible refine OutC.bw OutC.any (fun r _ => ?_)); try dsimp only)
    | ((with_reducible refine OutC.bind OutN.any (fun r _ => ?_)); try dsimp only)
theorem g_Rd_endBlocks {fn : Nat} {fd : Nat} {fcf : Nat → FrC} {mode_h0 : Int32} {levels_h0 : Int32} {signs_h0 : Int32} {loops_h0 : Int32} {token_h0 : Int32} {fault_h0 : Int32} {kind_t : Int32} {place_t : Int32} {width_t : Int32} {second_t : Int32} {parts_t : Int32} {innerParts_t : Int32} {innerPlace_t : Int32} {innerWidth_t : Int32} {signs_t : Int32} {waitingBelow_t : Int32} {limited_t : Int32} {targets_t : Int32} {lastBlock_t : Int32} {count_a_draft_h0 : Int32} {n_a_cells_a_draft_h0 : Nat} {b_a_cells_a_draft_h0 : Nat → Int32} : OutC (Gn fn fd) (F_Rd_endBlocks fn fd fcf mode_h0 levels_h0 signs_h0 loops_h0 token_h0 fault_h0 kind_t place_t width_t second_t parts_t innerParts_t innerPlace_t innerWidth_t signs_t waitingBelow_t limited_t targets_t lastBlock_t count_a_draft_h0 n_a_cells_a_draft_h0 b_a_cells_a_draft_h0) := by
  unfold F_Rd_endBlocks
  repeat' first
    | with_reducible exact OutC.none
    | ((with_reducible refine OutC.ret ?_); exact Gn.mk' (by first | omega | exact hr1 | exact Or.inl (Nat.le_of_eq hr1)) (by first | omega | exact hr2 | exact Nat.le_succ_of_le hr2))
    | with_reducible refine OutC.ite (fun _ => ?_) (fun _ => ?_)
    | ((with_reducible refine OutC.nm ?_); try dsimp only)
    | with_reducible refine OutC.grd ?_
    | with_reducible refine OutC.alc ?_
    | ((with_reducible refine OutC.mono g_Rd_endBlocks_34 ?_); intro r hr; obtain ⟨h1, h2⟩ := hr; exact ⟨by first | omega | (rw [h1]; exact hr1), by first | omega | exact Nat.le_trans h2 hr2⟩)
    | ((with_reducible refine OutC.bw g_Rd_endBlocks_34 (fun r hr => ?_)); obtain ⟨hr1, hr2⟩ := hr; try dsimp only at hr1 hr2 ⊢)
    | ((with_reducible refine OutC.bw OutC.any (fun r _ => ?_)); try dsimp only)
    | ((with_reducible refine OutC.bind OutN.any (fun r _ => ?_)); try dsimp only)
theorem g_Rd_openValues {p1 : Int32} {fn : Nat} {fd : Nat} {fcf : Nat → FrC} {mode_h0 : Int32} {levels_h0 : Int32} {signs_h0 : Int32} {loops_h0 : Int32} {token_h0 : Int32} {fault_h0 : Int32} {kind_t : Int32} {place_t : Int32} {width_t : Int32} {second_t : Int32} {parts_t : Int32} {innerParts_t : Int32} {innerPlace_t : Int32} {innerWidth_t : Int32} {signs_t : Int32} {waitingBelow_t : Int32} {limited_t : Int32} {targets_t : Int32} {lastBlock_t : Int32} {next_a_scanner_h0 : Int32} {kind_a_scanner_h0 : Int32} {start_a_scanner_h0 : Int32} {width_a_scanner_h0 : Int32} {count_a_waiting_h0 : Int32} : OutC (Gp fn fd) (F_Rd_openValues p1 fn fd fcf mode_h0 levels_h0 signs_h0 loops_h0 token_h0 fault_h0 kind_t place_t width_t second_t parts_t innerParts_t innerPlace_t innerWidth_t signs_t waitingBelow_t limited_t targets_t lastBlock_t next_a_scanner_h0 kind_a_scanner_h0 start_a_scanner_h0 width_a_scanner_h0 count_a_waiting_h0) := by
  unfold F_Rd_openValues
  repeat' first
    | with_reducible exact OutC.none
    | ((with_reducible refine OutC.ret ?_); exact Gp.mk' (by first | omega | exact hr1 | exact Or.inl (Nat.le_of_eq hr1)) (by first | omega | exact hr2 | exact Nat.le_succ_of_le hr2))
    | with_reducible refine OutC.ite (fun _ => ?_) (fun _ => ?_)
    | ((with_reducible refine OutC.nm ?_); try dsimp only)
    | with_reducible refine OutC.grd ?_
    | with_reducible refine OutC.alc ?_
    | ((with_reducible refine OutC.mono g_Rd_push ?_); intro r hr; obtain ⟨h1, h2⟩ := hr; exact ⟨by first | omega | (rw [h1]; exact hr1), by first | omega | exact Nat.le_trans h2 hr2⟩)
    | ((with_reducible refine OutC.bw g_Rd_push (fun r hr => ?_)); obtain ⟨hr1, hr2⟩ := hr; try dsimp only at hr1 hr2 ⊢)
    | ((with_reducible refine OutC.bw OutC.any (fun r _ => ?_)); try dsimp only)
    | ((with_reducible refine OutC.bind OutN.any (fun r _ => ?_)); try dsimp only)
theorem g_Rd_openBlocks {p1 : Int32} {p2 : Int32} {fn : Nat} {fd : Nat} {fcf : Nat → FrC} {mode_h0 : Int32} {levels_h0 : Int32} {signs_h0 : Int32} {loops_h0 : Int32} {token_h0 : Int32} {fault_h0 : Int32} {kind_t : Int32} {place_t : Int32} {width_t : Int32} {second_t : Int32} {parts_t : Int32} {innerParts_t : Int32} {innerPlace_t : Int32} {innerWidth_t : Int32} {signs_t : Int32} {waitingBelow_t : Int32} {limited_t : Int32} {targets_t : Int32} {lastBlock_t : Int32} {next_a_scanner_h0 : Int32} {kind_a_scanner_h0 : Int32} {start_a_scanner_h0 : Int32} {width_a_scanner_h0 : Int32} {count_a_waiting_h0 : Int32} : OutC (Gp fn fd) (F_Rd_openBlocks p1 p2 fn fd fcf mode_h0 levels_h0 signs_h0 loops_h0 token_h0 fault_h0 kind_t place_t width_t second_t parts_t innerParts_t innerPlace_t innerWidth_t signs_t waitingBelow_t limited_t targets_t lastBlock_t next_a_scanner_h0 kind_a_scanner_h0 start_a_scanner_h0 width_a_scanner_h0 count_a_waiting_h0) := by
  unfold F_Rd_openBlocks
  repeat' first
    | with_reducible exact OutC.none
    | ((with_reducible refine OutC.ret ?_); exact Gp.mk' (by first | omega | exact hr1 | exact Or.inl (Nat.le_of_eq hr1)) (by first | omega | exact hr2 | exact Nat.le_succ_of_le hr2))
    | with_reducible refine OutC.ite (fun _ => ?_) (fun _ => ?_)
    | ((with_reducible refine OutC.nm ?_); try dsimp only)
    | with_reducible refine OutC.grd ?_
    | with_reducible refine OutC.alc ?_
    | ((with_reducible refine OutC.mono g_Rd_push ?_); intro r hr; obtain ⟨h1, h2⟩ := hr; exact ⟨by first | omega | (rw [h1]; exact hr1), by first | omega | exact Nat.le_trans h2 hr2⟩)
    | ((with_reducible refine OutC.bw g_Rd_push (fun r hr => ?_)); obtain ⟨hr1, hr2⟩ := hr; try dsimp only at hr1 hr2 ⊢)
    | ((with_reducible refine OutC.bw OutC.any (fun r _ => ?_)); try dsimp only)
    | ((with_reducible refine OutC.bind OutN.any (fun r _ => ?_)); try dsimp only)
theorem g_Rd_beginStatement {fn : Nat} {fd : Nat} {fcf : Nat → FrC} {mode_h0 : Int32} {levels_h0 : Int32} {signs_h0 : Int32} {loops_h0 : Int32} {token_h0 : Int32} {fault_h0 : Int32} {kind_t : Int32} {place_t : Int32} {width_t : Int32} {second_t : Int32} {parts_t : Int32} {innerParts_t : Int32} {innerPlace_t : Int32} {innerWidth_t : Int32} {signs_t : Int32} {waitingBelow_t : Int32} {limited_t : Int32} {targets_t : Int32} {lastBlock_t : Int32} {next_a_scanner_h0 : Int32} {kind_a_scanner_h0 : Int32} {start_a_scanner_h0 : Int32} {width_a_scanner_h0 : Int32} {count_a_waiting_h0 : Int32} {count_a_draft_h0 : Int32} {n_a_cells_a_draft_h0 : Nat} {b_a_cells_a_draft_h0 : Nat → Int32} : OutC (Gp fn fd) (F_Rd_beginStatement fn fd fcf mode_h0 levels_h0 signs_h0 loops_h0 token_h0 fault_h0 kind_t place_t width_t second_t parts_t innerParts_t innerPlace_t innerWidth_t signs_t waitingBelow_t limited_t targets_t lastBlock_t next_a_scanner_h0 kind_a_scanner_h0 start_a_scanner_h0 width_a_scanner_h0 count_a_waiting_h0 count_a_draft_h0 n_a_cells_a_draft_h0 b_a_cells_a_draft_h0) := by
  unfold F_Rd_beginStatement
  repeat' first
    | with_reducible exact OutC.none
    | ((with_reducible refine OutC.ret ?_); exact Gp.mk' (by first | omega | exact hr1 | exact Or.inl (Nat.le_of_eq hr1)) (by first | omega | exact hr2 | exact Nat.le_succ_of_le hr2))
    | with_reducible refine OutC.ite (fun _ => ?_) (fun _ => ?_)
    | ((with_reducible refine OutC.nm ?_); try dsimp only)
    | with_reducible refine OutC.grd ?_
    | with_reducible refine OutC.alc ?_
    | ((with_reducible refine OutC.mono g_Rd_endBlocks ?_); intro r hr; obtain ⟨h1, h2⟩ := hr; exact ⟨by first | omega | (rw [h1]; exact hr1), by first | omega | exact Nat.le_trans h2 hr2⟩)
    | ((with_reducible refine OutC.bw g_Rd_endBlocks (fun r hr => ?_)); obtain ⟨hr1, hr2⟩ := hr; try dsimp only at hr1 hr2 ⊢)
    | ((with_reducible refine OutC.mono g_Rd_openValues ?_); intro r hr; obtain ⟨h1, h2⟩ := hr; exact ⟨by first | omega | (rw [h1]; exact hr1), by first | omega | exact Nat.le_trans h2 hr2⟩)
    | ((with_reducible refine OutC.bw g_Rd_openValues (fun r hr => ?_)); obtain ⟨hr1, hr2⟩ := hr; try dsimp only at hr1 hr2 ⊢)
    | ((with_reducible refine OutC.mono g_Rd_openBlocks ?_); intro r hr; obtain ⟨h1, h2⟩ := hr; exact ⟨by first | omega | (rw [h1]; exact hr1), by first | omega | exact Nat.le_trans h2 hr2⟩)
    | ((with_reducible refine OutC.bw g_Rd_openBlocks (fun r hr => ?_)); obtain ⟨hr1, hr2⟩ := hr; try dsimp only at hr1 hr2 ⊢)
    | ((with_reducible refine OutC.bw OutC.any (fun r _ => ?_)); try dsimp only)
    | ((with_reducible refine OutC.bind OutN.any (fun r _ => ?_)); try dsimp only)
theorem g_Rd_closeItem {fn : Nat} {fd : Nat} {fcf : Nat → FrC} {mode_h0 : Int32} {levels_h0 : Int32} {signs_h0 : Int32} {loops_h0 : Int32} {token_h0 : Int32} {fault_h0 : Int32} {kind_t : Int32} {place_t : Int32} {width_t : Int32} {second_t : Int32} {parts_t : Int32} {innerParts_t : Int32} {innerPlace_t : Int32} {innerWidth_t : Int32} {signs_t : Int32} {waitingBelow_t : Int32} {limited_t : Int32} {targets_t : Int32} {lastBlock_t : Int32} : OutN (Gn fn fd) (F_Rd_closeItem fn fd fcf mode_h0 levels_h0 signs_h0 loops_h0 token_h0 fault_h0 kind_t place_t width_t second_t parts_t innerParts_t innerPlace_t innerWidth_t signs_t waitingBelow_t limited_t targets_t lastBlock_t) := by
  unfold F_Rd_closeItem
  repeat' first
    | with_reducible exact OutN.none
    | ((with_reducible refine OutN.ret ?_); exact Gn.mk' (by first | omega | exact hr1 | exact Or.inl (Nat.le_of_eq hr1)) (by first | omega | exact hr2 | exact Nat.le_succ_of_le hr2))
    | with_reducible refine OutN.ite (fun _ => ?_) (fun _ => ?_)
    | ((with_reducible refine OutN.nm ?_); try dsimp only)
    | with_reducible refine OutN.grd ?_
    | ((with_reducible refine OutN.mono g_Rd_pop ?_); intro r hr; obtain ⟨h1, h2⟩ := hr; exact ⟨by first | omega | (rw [h1]; exact hr1), by first | omega | exact Nat.le_trans h2 hr2⟩)
    | ((with_reducible refine OutN.bind g_Rd_pop (fun r hr => ?_)); obtain ⟨hr1, hr2⟩ := hr; try dsimp only at hr1 hr2 ⊢)
    | ((with_reducible refine OutN.bind OutN.any (fun r _ => ?_)); try dsimp only)
theorem g_Rd_closeCall_17 {mode_h0 : Int32} {levels_h0 : Int32} {signs_h0 : Int32} {loops_h0 : Int32} {token_h0 : Int32} {fault_h0 : Int32} {kind_t : Int32} {place_t : Int32} {width_t : Int32} {second_t : Int32} {parts_t : Int32} {innerParts_t : Int32} {innerPlace_t : Int32} {innerWidth_t : Int32} {signs_t : Int32} {waitingBelow_t : Int32} {limited_t : Int32} {targets_t : Int32} {lastBlock_t : Int32} {count_a_draft_h0 : Int32} {n_a_cells_a_draft_h0 : Nat} {b_a_cells_a_draft_h0 : Nat → Int32} {t0_17 : Int32} {n9_17 : Nat} {d9_17 : Nat} {c9_17 : Nat → FrC} : OutC (Gn n9_17 d9_17) (F_Rd_closeCall_17 mode_h0 levels_h0 signs_h0 loops_h0 token_h0 fault_h0 kind_t place_t width_t second_t parts_t innerParts_t innerPlace_t innerWidth_t signs_t waitingBelow_t limited_t targets_t lastBlock_t count_a_draft_h0 n_a_cells_a_draft_h0 b_a_cells_a_draft_h0 t0_17 n9_17 d9_17 c9_17) := by
  unfold F_Rd_closeCall_17
  repeat' first
    | with_reducible exact OutC.none
    | ((with_reducible refine OutC.ret ?_); exact Gn.mk' (by first | omega | exact hr1 | exact Or.inl (Nat.le_of_eq hr1)) (by first | omega | exact hr2 | exact Nat.le_succ_of_le hr2))
    | with_reducible refine OutC.ite (fun _ => ?_) (fun _ => ?_)
    | ((with_reducible refine OutC.nm ?_); try dsimp only)
    | with_reducible refine OutC.grd ?_
    | with_reducible refine OutC.alc ?_
    | ((with_reducible refine OutC.bind g_Rd_closeItem (fun r hr => ?_)); obtain ⟨hr1, hr2⟩ := hr; try dsimp only at hr1 hr2 ⊢)
    | ((with_reducible refine OutC.bw OutC.any (fun r _ => ?_)); try dsimp only)
    | ((with_reducible refine OutC.bind OutN.any (fun r _ => ?_)); try dsimp only)
theorem g_Rd_closeCall {fn : Nat} {fd : Nat} {fcf : Nat → FrC} {mode_h0 : Int32} {levels_h0 : Int32} {signs_h0 : Int32} {loops_h0 : Int32} {token_h0 : Int32} {fault_h0 : Int32} {kind_t : Int32} {place_t : Int32} {width_t : Int32} {second_t : Int32} {parts_t : Int32} {innerParts_t : Int32} {innerPlace_t : Int32} {innerWidth_t : Int32} {signs_t : Int32} {waitingBelow_t : Int32} {limited_t : Int32} {targets_t : Int32} {lastBlock_t : Int32} {count_a_draft_h0 : Int32} {n_a_cells_a_draft_h0 : Nat} {b_a_cells_a_draft_h0 : Nat → Int32} : OutC (Gn fn fd) (F_Rd_closeCall fn fd fcf mode_h0 levels_h0 signs_h0 loops_h0 token_h0 fault_h0 kind_t place_t width_t second_t parts_t innerParts_t innerPlace_t innerWidth_t signs_t waitingBelow_t limited_t targets_t lastBlock_t count_a_draft_h0 n_a_cells_a_draft_h0 b_a_cells_a_draft_h0) := by
  unfold F_Rd_closeCall
  repeat' first
    | with_reducible exact OutC.none
    | ((with_reducible refine OutC.ret ?_); exact Gn.mk' (by first | omega | exact hr1 | exact Or.inl (Nat.le_of_eq hr1)) (by first | omega | exact hr2 | exact Nat.le_succ_of_le hr2))
    | with_reducible refine OutC.ite (fun _ => ?_) (fun _ => ?_)
    | ((with_reducible refine OutC.nm ?_); try dsimp only)
    | with_reducible refine OutC.grd ?_
    | with_reducible refine OutC.alc ?_
    | ((with_reducible refine OutC.mono g_Rd_closeCall_17 ?_); intro r hr; obtain ⟨h1, h2⟩ := hr; exact ⟨by first | omega | (rw [h1]; exact hr1), by first | omega | exact Nat.le_trans h2 hr2⟩)
    | ((with_reducible refine OutC.bw g_Rd_closeCall_17 (fun r hr => ?_)); obtain ⟨hr1, hr2⟩ := hr; try dsimp only at hr1 hr2 ⊢)
    | ((with_reducible refine OutC.bw OutC.any (fun r _ => ?_)); try dsimp only)
    | ((with_reducible refine OutC.bind OutN.any (fun r _ => ?_)); try dsimp only)
theorem g_Rd_endHead {fn : Nat} {fd : Nat} {fcf : Nat → FrC} {mode_h0 : Int32} {levels_h0 : Int32} {signs_h0 : Int32} {loops_h0 : Int32} {token_h0 : Int32} {fault_h0 : Int32} {kind_t : Int32} {place_t : Int32} {width_t : Int32} {second_t : Int32} {parts_t : Int32} {innerParts_t : Int32} {innerPlace_t : Int32} {innerWidth_t : Int32} {signs_t : Int32} {waitingBelow_t : Int32} {limited_t : Int32} {targets_t : Int32} {lastBlock_t : Int32} {next_a_scanner_h0 : Int32} {kind_a_scanner_h0 : Int32} {start_a_scanner_h0 : Int32} {width_a_scanner_h0 : Int32} : OutN (Gn fn fd) (F_Rd_endHead fn fd fcf mode_h0 levels_h0 signs_h0 loops_h0 token_h0 fault_h0 kind_t place_t width_t second_t parts_t innerParts_t innerPlace_t innerWidth_t signs_t waitingBelow_t limited_t targets_t lastBlock_t next_a_scanner_h0 kind_a_scanner_h0 start_a_scanner_h0 width_a_scanner_h0) := by
  unfold F_Rd_endHead
  repeat' first
    | with_reducible exact OutN.none
    | ((with_reducible refine OutN.ret ?_); exact Gn.mk' (by first | omega | exact hr1 | exact Or.inl (Nat.le_of_eq hr1)) (by first | omega | exact hr2 | exact Nat.le_succ_of_le hr2))
    | with_reducible refine OutN.ite (fun _ => ?_) (fun _ => ?_)
    | ((with_reducible refine OutN.nm ?_); try dsimp only)
    | with_reducible refine OutN.grd ?_
    | ((with_reducible refine OutN.mono g_Rd_pop ?_); intro r hr; obtain ⟨h1, h2⟩ := hr; exact ⟨by first | omega | (rw [h1]; exact hr1), by first | omega | exact Nat.le_trans h2 hr2⟩)
    | ((with_reducible refine OutN.bind g_Rd_pop (fun r hr => ?_)); obtain ⟨hr1, hr2⟩ := hr; try dsimp only at hr1 hr2 ⊢)
    | ((with_reducible refine OutN.bind OutN.any (fun r _ => ?_)); try dsimp only)
theorem g_Rd_closeBracket {fn : Nat} {fd : Nat} {fcf : Nat → FrC} {mode_h0 : Int32} {levels_h0 : Int32} {signs_h0 : Int32} {loops_h0 : Int32} {token_h0 : Int32} {fault_h0 : Int32} {kind_t : Int32} {place_t : Int32} {width_t : Int32} {second_t : Int32} {parts_t : Int32} {innerParts_t : Int32} {innerPlace_t : Int32} {innerWidth_t : Int32} {signs_t : Int32} {waitingBelow_t : Int32} {limited_t : Int32} {targets_t : Int32} {lastBlock_t : Int32} {count_a_draft_h0 : Int32} {n_a_cells_a_draft_h0 : Nat} {b_a_cells_a_draft_h0 : Nat → Int32} {next_a_scanner_h0 : Int32} {kind_a_scanner_h0 : Int32} {start_a_scanner_h0 : Int32} {width_a_scanner_h0 : Int32} : OutC (Gn fn fd) (F_Rd_closeBracket fn fd fcf mode_h0 levels_h0 signs_h0 loops_h0 token_h0 fault_h0 kind_t place_t width_t second_t parts_t innerParts_t innerPlace_t innerWidth_t signs_t waitingBelow_t limited_t targets_t lastBlock_t count_a_draft_h0 n_a_cells_a_draft_h0 b_a_cells_a_draft_h0 next_a_scanner_h0 kind_a_scanner_h0 start_a_scanner_h0 width_a_scanner_h0) := by
  unfold F_Rd_closeBracket
  repeat' first
    | with_reducible exact OutC.none
    | ((with_reducible refine OutC.ret ?_); exact Gn.mk' (by first | omega | exact hr1 | exact Or.inl (Nat.le_of_eq hr1)) (by first | omega | exact hr2 | exact Nat.le_succ_of_le hr2))
    | with_reducible refine OutC.ite (fun _ => ?_) (fun _ => ?_)
    | ((with_reducible refine OutC.nm ?_); try dsimp only)
    | with_reducible refine OutC.grd ?_
    | with_reducible refine OutC.alc ?_
    | ((with_reducible refine OutC.mono g_Rd_closeCall ?_); intro r hr; obtain ⟨h1, h2⟩ := hr; exact ⟨by first | omega | (rw [h1]; exact hr1), by first | omega | exact Nat.le_trans h2 hr2⟩)
    | ((with_reducible refine OutC.bw g_Rd_closeCall (fun r hr => ?_)); obtain ⟨hr1, hr2⟩ := hr; try dsimp only at hr1 hr2 ⊢)
    | ((with_reducible refine OutC.bind g_Rd_endHead (fun r hr => ?_)); obtain ⟨hr1, hr2⟩ := hr; try dsimp only at hr1 hr2 ⊢)
    | ((with_reducible refine OutC.bind g_Rd_closeItem (fun r hr => ?_)); obtain ⟨hr1, hr2⟩ := hr; try dsimp only at hr1 hr2 ⊢)
    | ((with_reducible refine OutC.bw OutC.any (fun r _ => ?_)); try dsimp only)
    | ((with_reducible refine OutC.bind OutN.any (fun r _ => ?_)); try dsimp only)
theorem g_Rd_closeRows {fn : Nat} {fd : Nat} {fcf : Nat → FrC} {mode_h0 : Int32} {levels_h0 : Int32} {signs_h0 : Int32} {loops_h0 : Int32} {token_h0 : Int32} {fault_h0 : Int32} {kind_t : Int32} {place_t : Int32} {width_t : Int32} {second_t : Int32} {parts_t : Int32} {innerParts_t : Int32} {innerPlace_t : Int32} {innerWidth_t : Int32} {signs_t : Int32} {waitingBelow_t : Int32} {limited_t : Int32} {targets_t : Int32} {lastBlock_t : Int32} {count_a_draft_h0 : Int32} {n_a_cells_a_draft_h0 : Nat} {b_a_cells_a_draft_h0 : Nat → Int32} : OutC (Gn fn fd) (F_Rd_closeRows fn fd fcf mode_h0 levels_h0 signs_h0 loops_h0 token_h0 fault_h0 kind_t place_t width_t second_t parts_t innerParts_t innerPlace_t innerWidth_t signs_t waitingBelow_t limited_t targets_t lastBlock_t count_a_draft_h0 n_a_cells_a_draft_h0 b_a_cells_a_draft_h0) := by
  unfold F_Rd_closeRows
  repeat' first
    | with_reducible exact OutC.none
    | ((with_reducible refine OutC.ret ?_); exact Gn.mk' (by first | omega | exact hr1 | exact Or.inl (Nat.le_of_eq hr1)) (by first | omega | exact hr2 | exact Nat.le_succ_of_le hr2))
    | with_reducible refine OutC.ite (fun _ => ?_) (fun _ => ?_)
    | ((with_reducible refine OutC.nm ?_); try dsimp only)
    | with_reducible refine OutC.grd ?_
    | with_reducible refine OutC.alc ?_
    | ((with_reducible refine OutC.bind g_Rd_closeItem (fun r hr => ?_)); obtain ⟨hr1, hr2⟩ := hr; try dsimp only at hr1 hr2 ⊢)
    | ((with_reducible refine OutC.bw OutC.any (fun r _ => ?_)); try dsimp only)
    | ((with_reducible refine OutC.bind OutN.any (fun r _ => ?_)); try dsimp only)
theorem g_Rd_endPlain {p1 : Int32} {fn : Nat} {fd : Nat} {fcf : Nat → FrC} {mode_h0 : Int32} {levels_h0 : Int32} {signs_h0 : Int32} {loops_h0 : Int32} {token_h0 : Int32} {fault_h0 : Int32} {kind_t : Int32} {place_t : Int32} {width_t : Int32} {second_t : Int32} {parts_t : Int32} {innerParts_t : Int32} {innerPlace_t : Int32} {innerWidth_t : Int32} {signs_t : Int32} {waitingBelow_t : Int32} {limited_t : Int32} {targets_t : Int32} {lastBlock_t : Int32} {count_a_draft_h0 : Int32} {n_a_cells_a_draft_h0 : Nat} {b_a_cells_a_draft_h0 : Nat → Int32} : OutC (Gn fn fd) (F_Rd_endPlain p1 fn fd fcf mode_h0 levels_h0 signs_h0 loops_h0 token_h0 fault_h0 kind_t place_t width_t second_t parts_t innerParts_t innerPlace_t innerWidth_t signs_t waitingBelow_t limited_t targets_t lastBlock_t count_a_draft_h0 n_a_cells_a_draft_h0 b_a_cells_a_draft_h0) := by
  unfold F_Rd_endPlain
  repeat' first
    | with_reducible exact OutC.none
    | ((with_reducible refine OutC.ret ?_); exact Gn.mk' (by first | omega | exact hr1 | exact Or.inl (Nat.le_of_eq hr1)) (by first | omega | exact hr2 | exact Nat.le_succ_of_le hr2))
    | with_reducible refine OutC.ite (fun _ => ?_) (fun _ => ?_)
    | ((with_reducible refine OutC.nm ?_); try dsimp only)
    | with_reducible refine OutC.grd ?_
    | with_reducible refine OutC.alc ?_
    | ((with_reducible refine OutC.bind g_Rd_pop (fun r hr => ?_)); obtain ⟨hr1, hr2⟩ := hr; try dsimp only at hr1 hr2 ⊢)
    | ((with_reducible refine OutC.bw OutC.any (fun r _ => ?_)); try dsimp only)
    | ((with_reducible refine OutC.bind OutN.any (fun r _ => ?_)); try dsimp only)
theorem g_Rd_endSeveral {fn : Nat} {fd : Nat} {fcf : Nat → FrC} {mode_h0 : Int32} {levels_h0 : Int32} {signs_h0 : Int32} {loops_h0 : Int32} {token_h0 : Int32} {fault_h0 : Int32} {kind_t : Int32} {place_t : Int32} {width_t : Int32} {second_t : Int32} {parts_t : Int32} {innerParts_t : Int32} {innerPlace_t : Int32} {innerWidth_t : Int32} {signs_t : Int32} {waitingBelow_t : Int32} {limited_t : Int32} {targets_t : Int32} {lastBlock_t : Int32} {count_a_draft_h0 : Int32} {n_a_cells_a_draft_h0 : Nat} {b_a_cells_a_draft_h0 : Nat → Int32} : OutC (Gn fn fd) (F_Rd_endSeveral fn fd fcf mode_h0 levels_h0 signs_h0 loops_h0 token_h0 fault_h0 kind_t place_t width_t second_t parts_t innerParts_t innerPlace_t innerWidth_t signs_t waitingBelow_t limited_t targets_t lastBlock_t count_a_draft_h0 n_a_cells_a_draft_h0 b_a_cells_a_draft_h0) := by
  unfold F_Rd_endSeveral
  repeat' first
    | with_reducible exact OutC.none
    | ((with_reducible refine OutC.ret ?_); exact Gn.mk' (by first | omega | exact hr1 | exact Or.inl (Nat.le_of_eq hr1)) (by first | omega | exact hr2 | exact Nat.le_succ_of_le hr2))
    | with_reducible refine OutC.ite (fun _ => ?_) (fun _ => ?_)
    | ((with_reducible refine OutC.nm ?_); try dsimp only)
    | with_reducible refine OutC.grd ?_
    | with_reducible refine OutC.alc ?_
    | ((with_reducible refine OutC.bind g_Rd_pop (fun r hr => ?_)); obtain ⟨hr1, hr2⟩ := hr; try dsimp only at hr1 hr2 ⊢)
    | ((with_reducible refine OutC.bw OutC.any (fun r _ => ?_)); try dsimp only)
    | ((with_reducible refine OutC.bind OutN.any (fun r _ => ?_)); try dsimp only)
theorem g_Rd_openArguments {fn : Nat} {fd : Nat} {fcf : Nat → FrC} {mode_h0 : Int32} {levels_h0 : Int32} {signs_h0 : Int32} {loops_h0 : Int32} {token_h0 : Int32} {fault_h0 : Int32} {kind_t : Int32} {place_t : Int32} {width_t : Int32} {second_t : Int32} {parts_t : Int32} {innerParts_t : Int32} {innerPlace_t : Int32} {innerWidth_t : Int32} {signs_t : Int32} {waitingBelow_t : Int32} {limited_t : Int32} {targets_t : Int32} {lastBlock_t : Int32} {count_a_draft_h0 : Int32} {n_a_cells_a_draft_h0 : Nat} {b_a_cells_a_draft_h0 : Nat → Int32} {next_a_scanner_h0 : Int32} {kind_a_scanner_h0 : Int32} {start_a_scanner_h0 : Int32} {width_a_scanner_h0 : Int32} {count_a_waiting_h0 : Int32} : OutC (Gp fn fd) (F_Rd_openArguments fn fd fcf mode_h0 levels_h0 signs_h0 loops_h0 token_h0 fault_h0 kind_t place_t width_t second_t parts_t innerParts_t innerPlace_t innerWidth_t signs_t waitingBelow_t limited_t targets_t lastBlock_t count_a_draft_h0 n_a_cells_a_draft_h0 b_a_cells_a_draft_h0 next_a_scanner_h0 kind_a_scanner_h0 start_a_scanner_h0 width_a_scanner_h0 count_a_waiting_h0) := by
  unfold F_Rd_openArguments
  repeat' first
    | with_reducible exact OutC.none
    | ((with_reducible refine OutC.ret ?_); exact Gp.mk' (by first | omega | exact hr1 | exact Or.inl (Nat.le_of_eq hr1)) (by first | omega | exact hr2 | exact Nat.le_succ_of_le hr2))
    | with_reducible refine OutC.ite (fun _ => ?_) (fun _ => ?_)
    | ((with_reducible refine OutC.nm ?_); try dsimp only)
    | with_reducible refine OutC.grd ?_
    | with_reducible refine OutC.alc ?_
    | ((with_reducible refine OutC.mono g_Rd_push ?_); intro r hr; obtain ⟨h1, h2⟩ := hr; exact ⟨by first | omega | (rw [h1]; exact hr1), by first | omega | exact Nat.le_trans h2 hr2⟩)
    | ((with_reducible refine OutC.bw g_Rd_push (fun r hr => ?_)); obtain ⟨hr1, hr2⟩ := hr; try dsimp only at hr1 hr2 ⊢)
    | ((with_reducible refine OutC.bw OutC.any (fun r _ => ?_)); try dsimp only)
    | ((with_reducible refine OutC.bind OutN.any (fun r _ => ?_)); try dsimp only)
theorem g_Rd_openHead_17 {mode_h0 : Int32} {levels_h0 : Int32} {signs_h0 : Int32} {loops_h0 : Int32} {token_h0 : Int32} {fault_h0 : Int32} {kind_t : Int32} {place_t : Int32} {width_t : Int32} {second_t : Int32} {parts_t : Int32} {innerParts_t : Int32} {innerPlace_t : Int32} {innerWidth_t : Int32} {signs_t : Int32} {waitingBelow_t : Int32} {limited_t : Int32} {targets_t : Int32} {lastBlock_t : Int32} {next_a_scanner_h0 : Int32} {kind_a_scanner_h0 : Int32} {start_a_scanner_h0 : Int32} {width_a_scanner_h0 : Int32} {count_a_waiting_h0 : Int32} {t0_17 : Int32} {n9_17 : Nat} {d9_17 : Nat} {c9_17 : Nat → FrC} : OutC (Gp n9_17 d9_17) (F_Rd_openHead_17 mode_h0 levels_h0 signs_h0 loops_h0 token_h0 fault_h0 kind_t place_t width_t second_t parts_t innerParts_t innerPlace_t innerWidth_t signs_t waitingBelow_t limited_t targets_t lastBlock_t next_a_scanner_h0 kind_a_scanner_h0 start_a_scanner_h0 width_a_scanner_h0 count_a_waiting_h0 t0_17 n9_17 d9_17 c9_17) := by
  unfold F_Rd_openHead_17
  repeat' first
    | with_reducible exact OutC.none
    | ((with_reducible refine OutC.ret ?_); exact Gp.mk' (by first | omega | exact hr1 | exact Or.inl (Nat.le_of_eq hr1)) (by first | omega | exact hr2 | exact Nat.le_succ_of_le hr2))
    | with_reducible refine OutC.ite (fun _ => ?_) (fun _ => ?_)
    | ((with_reducible refine OutC.nm ?_); try dsimp only)
    | with_reducible refine OutC.grd ?_
    | with_reducible refine OutC.alc ?_
    | ((with_reducible refine OutC.mono g_Rd_push ?_); intro r hr; obtain ⟨h1, h2⟩ := hr; exact ⟨by first | omega | (rw [h1]; exact hr1), by first | omega | exact Nat.le_trans h2 hr2⟩)
    | ((with_reducible refine OutC.bw g_Rd_push (fun r hr => ?_)); obtain ⟨hr1, hr2⟩ := hr; try dsimp only at hr1 hr2 ⊢)
    | ((with_reducible refine OutC.bw OutC.any (fun r _ => ?_)); try dsimp only)
    | ((with_reducible refine OutC.bind OutN.any (fun r _ => ?_)); try dsimp only)
theorem g_Rd_openHead {fn : Nat} {fd : Nat} {fcf : Nat → FrC} {mode_h0 : Int32} {levels_h0 : Int32} {signs_h0 : Int32} {loops_h0 : Int32} {token_h0 : Int32} {fault_h0 : Int32} {kind_t : Int32} {place_t : Int32} {width_t : Int32} {second_t : Int32} {parts_t : Int32} {innerParts_t : Int32} {innerPlace_t : Int32} {innerWidth_t : Int32} {signs_t : Int32} {waitingBelow_t : Int32} {limited_t : Int32} {targets_t : Int32} {lastBlock_t : Int32} {next_a_scanner_h0 : Int32} {kind_a_scanner_h0 : Int32} {start_a_scanner_h0 : Int32} {width_a_scanner_h0 : Int32} {count_a_waiting_h0 : Int32} : OutC (Gp fn fd) (F_Rd_openHead fn fd fcf mode_h0 levels_h0 signs_h0 loops_h0 token_h0 fault_h0 kind_t place_t width_t second_t parts_t innerParts_t innerPlace_t innerWidth_t signs_t waitingBelow_t limited_t targets_t lastBlock_t next_a_scanner_h0 kind_a_scanner_h0 start_a_scanner_h0 width_a_scanner_h0 count_a_waiting_h0) := by
  unfold F_Rd_openHead
  repeat' first
    | with_reducible exact OutC.none
    | ((with_reducible refine OutC.ret ?_); exact Gp.mk' (by first | omega | exact hr1 | exact Or.inl (Nat.le_of_eq hr1)) (by first | omega | exact hr2 | exact Nat.le_succ_of_le hr2))
    | with_reducible refine OutC.ite (fun _ => ?_) (fun _ => ?_)
    | ((with_reducible refine OutC.nm ?_); try dsimp only)
    | with_reducible refine OutC.grd ?_
    | with_reducible refine OutC.alc ?_
    | ((with_reducible refine OutC.mono g_Rd_openHead_17 ?_); intro r hr; obtain ⟨h1, h2⟩ := hr; exact ⟨by first | omega | (rw [h1]; exact hr1), by first | omega | exact Nat.le_trans h2 hr2⟩)
    | ((with_reducible refine OutC.bw g_Rd_openHead_17 (fun r hr => ?_)); obtain ⟨hr1, hr2⟩ := hr; try dsimp only at hr1 hr2 ⊢)
    | ((with_reducible refine OutC.bw OutC.any (fun r _ => ?_)); try dsimp only)
    | ((with_reducible refine OutC.bind OutN.any (fun r _ => ?_)); try dsimp only)
theorem g_Rd_openItem_34 {p1 : Int32} {mode_h0 : Int32} {levels_h0 : Int32} {signs_h0 : Int32} {loops_h0 : Int32} {token_h0 : Int32} {fault_h0 : Int32} {kind_t : Int32} {place_t : Int32} {width_t : Int32} {second_t : Int32} {parts_t : Int32} {innerParts_t : Int32} {innerPlace_t : Int32} {innerWidth_t : Int32} {signs_t : Int32} {waitingBelow_t : Int32} {limited_t : Int32} {targets_t : Int32} {lastBlock_t : Int32} {next_a_scanner_h0 : Int32} {kind_a_scanner_h0 : Int32} {start_a_scanner_h0 : Int32} {width_a_scanner_h0 : Int32} {count_a_waiting_h0 : Int32} {t0_34 : Int32} {n9_34 : Nat} {d9_34 : Nat} {c9_34 : Nat → FrC} : OutC (Gp n9_34 d9_34) (F_Rd_openItem_34 p1 mode_h0 levels_h0 signs_h0 loops_h0 token_h0 fault_h0 kind_t place_t width_t second_t parts_t innerParts_t innerPlace_t innerWidth_t signs_t waitingBelow_t limited_t targets_t lastBlock_t next_a_scanner_h0 kind_a_scanner_h0 start_a_scanner_h0 width_a_scanner_h0 count_a_waiting_h0 t0_34 n9_34 d9_34 c9_34) := by
  unfold F_Rd_openItem_34
  repeat' first
    | with_reducible exact OutC.none
    | ((with_reducible refine OutC.ret ?_); exact Gp.mk' (by first | omega | exact hr1 | exact Or.inl (Nat.le_of_eq hr1)) (by first | omega | exact hr2 | exact Nat.le_succ_of_le hr2))
    | with_reducible refine OutC.ite (fun _ => ?_) (fun _ => ?_)
    | ((with_reducible refine OutC.nm ?_); try dsimp only)
    | with_reducible refine OutC.grd ?_
    | with_reducible refine OutC.alc ?_
    | ((with_reducible refine OutC.mono g_Rd_push ?_); intro r hr; obtain ⟨h1, h2⟩ := hr; exact ⟨by first | omega | (rw [h1]; exact hr1), by first | omega | exact Nat.le_trans h2 hr2⟩)
    | ((with_reducible refine OutC.bw g_Rd_push (fun r hr => ?_)); obtain ⟨hr1, hr2⟩ := hr; try dsimp only at hr1 hr2 ⊢)
    | ((with_reducible refine OutC.bw OutC.any (fun r _ => ?_)); try dsimp only)
    | ((with_reducible refine OutC.bind OutN.any (fun r _ => ?_)); try dsimp only)
theorem g_Rd_openItem {p1 : Int32} {fn : Nat} {fd : Nat} {fcf : Nat → FrC} {mode_h0 : Int32} {levels_h0 : Int32} {signs_h0 : Int32} {loops_h0 : Int32} {token_h0 : Int32} {fault_h0 : Int32} {kind_t : Int32} {place_t : Int32} {width_t : Int32} {second_t : Int32} {parts_t : Int32} {innerParts_t : Int32} {innerPlace_t : Int32} {innerWidth_t : Int32} {signs_t : Int32} {waitingBelow_t : Int32} {limited_t : Int32} {targets_t : Int32} {lastBlock_t : Int32} {next_a_scanner_h0 : Int32} {kind_a_scanner_h0 : Int32} {start_a_scanner_h0 : Int32} {width_a_scanner_h0 : Int32} {count_a_waiting_h0 : Int32} : OutC (Gp fn fd) (F_Rd_openItem p1 fn fd fcf mode_h0 levels_h0 signs_h0 loops_h0 token_h0 fault_h0 kind_t place_t width_t second_t parts_t innerParts_t innerPlace_t innerWidth_t signs_t waitingBelow_t limited_t targets_t lastBlock_t next_a_scanner_h0 kind_a_scanner_h0 start_a_scanner_h0 width_a_scanner_h0 count_a_waiting_h0) := by
  unfold F_Rd_openItem
  repeat' first
    | with_reducible exact OutC.none
    | ((with_reducible refine OutC.ret ?_); exact Gp.mk' (by first | omega | exact hr1 | exact Or.inl (Nat.le_of_eq hr1)) (by first | omega | exact hr2 | exact Nat.le_succ_of_le hr2))
    | with_reducible refine OutC.ite (fun _ => ?_) (fun _ => ?_)
    | ((with_reducible refine OutC.nm ?_); try dsimp only)
    | with_reducible refine OutC.grd ?_
    | with_reducible refine OutC.alc ?_
    | ((with_reducible refine OutC.mono g_Rd_openItem_34 ?_); intro r hr; obtain ⟨h1, h2⟩ := hr; exact ⟨by first | omega | (rw [h1]; exact hr1), by first | omega | exact Nat.le_trans h2 hr2⟩)
    | ((with_reducible refine OutC.bw g_Rd_openItem_34 (fun r hr => ?_)); obtain ⟨hr1, hr2⟩ := hr; try dsimp only at hr1 hr2 ⊢)
    | ((with_reducible refine OutC.bw OutC.any (fun r _ => ?_)); try dsimp only)
    | ((with_reducible refine OutC.bind OutN.any (fun r _ => ?_)); try dsimp only)
theorem g_Rd_settle_142 {levels_h0 : Int32} {loops_h0 : Int32} {token_h0 : Int32} {fault_h0 : Int32} {count_a_waiting_h0 : Int32} {n_a_cells_a_waiting_h0 : Nat} {b_a_cells_a_waiting_h0 : Nat → Int32} {count_a_draft_h0 : Int32} {n_a_cells_a_draft_h0 : Nat} {b_a_cells_a_draft_h0 : Nat → Int32} {n9_142 : Nat} {d9_142 : Nat} {c9_142 : Nat → FrC} {f0_7_142 : Int32} {f0_9_142 : Int32} {f1_2_142 : Int32} {f1_3_142 : Int32} {f1_4_142 : Int32} {f1_5_142 : Int32} {f1_6_142 : Int32} {f1_7_142 : Int32} {f1_8_142 : Int32} {f1_9_142 : Int32} {f1_10_142 : Int32} {f1_11_142 : Int32} {f1_12_142 : Int32} {f1_13_142 : Int32} {f1_14_142 : Int32} : OutC (Gn n9_142 d9_142) (F_Rd_settle_142 levels_h0 loops_h0 token_h0 fault_h0 count_a_waiting_h0 n_a_cells_a_waiting_h0 b_a_cells_a_waiting_h0 count_a_draft_h0 n_a_cells_a_draft_h0 b_a_cells_a_draft_h0 n9_142 d9_142 c9_142 f0_7_142 f0_9_142 f1_2_142 f1_3_142 f1_4_142 f1_5_142 f1_6_142 f1_7_142 f1_8_142 f1_9_142 f1_10_142 f1_11_142 f1_12_142 f1_13_142 f1_14_142) := by
  unfold F_Rd_settle_142
  repeat' first
    | with_reducible exact OutC.none
    | ((with_reducible refine OutC.ret ?_); exact Gn.mk' (by first | omega | exact hr1 | exact Or.inl (Nat.le_of_eq hr1)) (by first | omega | exact hr2 | exact Nat.le_succ_of_le hr2))
    | with_reducible refine OutC.ite (fun _ => ?_) (fun _ => ?_)
    | ((with_reducible refine OutC.nm ?_); try dsimp only)
    | with_reducible refine OutC.grd ?_
    | with_reducible refine OutC.alc ?_
    | ((with_reducible refine OutC.mono g_Rd_becomeTargets ?_); intro r hr; obtain ⟨h1, h2⟩ := hr; exact ⟨by first | omega | (rw [h1]; exact hr1), by first | omega | exact Nat.le_trans h2 hr2⟩)
    | ((with_reducible refine OutC.bw g_Rd_becomeTargets (fun r hr => ?_)); obtain ⟨hr1, hr2⟩ := hr; try dsimp only at hr1 hr2 ⊢)
    | ((with_reducible refine OutC.bw OutC.any (fun r _ => ?_)); try dsimp only)
    | ((with_reducible refine OutC.bind OutN.any (fun r _ => ?_)); try dsimp only)
theorem g_Rd_settle_98 {levels_h0 : Int32} {loops_h0 : Int32} {token_h0 : Int32} {fault_h0 : Int32} {count_a_waiting_h0 : Int32} {n_a_cells_a_waiting_h0 : Nat} {b_a_cells_a_waiting_h0 : Nat → Int32} {count_a_draft_h0 : Int32} {n_a_cells_a_draft_h0 : Nat} {b_a_cells_a_draft_h0 : Nat → Int32} {n9_98 : Nat} {d9_98 : Nat} {c9_98 : Nat → FrC} {f0_7_98 : Int32} {f0_9_98 : Int32} {f1_2_98 : Int32} {f1_3_98 : Int32} {f1_4_98 : Int32} {f1_5_98 : Int32} {f1_6_98 : Int32} {f1_7_98 : Int32} {f1_8_98 : Int32} {f1_9_98 : Int32} {f1_10_98 : Int32} {f1_11_98 : Int32} {f1_12_98 : Int32} {f1_13_98 : Int32} {f1_14_98 : Int32} : OutC (Gn n9_98 d9_98) (F_Rd_settle_98 levels_h0 loops_h0 token_h0 fault_h0 count_a_waiting_h0 n_a_cells_a_waiting_h0 b_a_cells_a_waiting_h0 count_a_draft_h0 n_a_cells_a_draft_h0 b_a_cells_a_draft_h0 n9_98 d9_98 c9_98 f0_7_98 f0_9_98 f1_2_98 f1_3_98 f1_4_98 f1_5_98 f1_6_98 f1_7_98 f1_8_98 f1_9_98 f1_10_98 f1_11_98 f1_12_98 f1_13_98 f1_14_98) := by
  unfold F_Rd_settle_98
  repeat' first
    | with_reducible exact OutC.none
    | ((with_reducible refine OutC.ret ?_); exact Gn.mk' (by first | omega | exact hr1 | exact Or.inl (Nat.le_of_eq hr1)) (by first | omega | exact hr2 | exact Nat.le_succ_of_le hr2))
    | with_reducible refine OutC.ite (fun _ => ?_) (fun _ => ?_)
    | ((with_reducible refine OutC.nm ?_); try dsimp only)
    | with_reducible refine OutC.grd ?_
    | with_reducible refine OutC.alc ?_
    | ((with_reducible refine OutC.mono g_Rd_settle_142 ?_); intro r hr; obtain ⟨h1, h2⟩ := hr; exact ⟨by first | omega | (rw [h1]; exact hr1), by first | omega | exact Nat.le_trans h2 hr2⟩)
    | ((with_reducible refine OutC.bw g_Rd_settle_142 (fun r hr => ?_)); obtain ⟨hr1, hr2⟩ := hr; try dsimp only at hr1 hr2 ⊢)
    | ((with_reducible refine OutC.bw OutC.any (fun r _ => ?_)); try dsimp only)
    | ((with_reducible refine OutC.bind OutN.any (fun r _ => ?_)); try dsimp only)
theorem g_Rd_settle_71 {levels_h0 : Int32} {loops_h0 : Int32} {token_h0 : Int32} {fault_h0 : Int32} {count_a_waiting_h0 : Int32} {n_a_cells_a_waiting_h0 : Nat} {b_a_cells_a_waiting_h0 : Nat → Int32} {count_a_draft_h0 : Int32} {n_a_cells_a_draft_h0 : Nat} {b_a_cells_a_draft_h0 : Nat → Int32} {n9_71 : Nat} {d9_71 : Nat} {c9_71 : Nat → FrC} {f0_7_71 : Int32} {f0_9_71 : Int32} {f1_2_71 : Int32} {f1_3_71 : Int32} {f1_4_71 : Int32} {f1_5_71 : Int32} {f1_6_71 : Int32} {f1_7_71 : Int32} {f1_8_71 : Int32} {f1_9_71 : Int32} {f1_10_71 : Int32} {f1_11_71 : Int32} {f1_12_71 : Int32} {f1_13_71 : Int32} {f1_14_71 : Int32} : OutC (Gn n9_71 d9_71) (F_Rd_settle_71 levels_h0 loops_h0 token_h0 fault_h0 count_a_waiting_h0 n_a_cells_a_waiting_h0 b_a_cells_a_waiting_h0 count_a_draft_h0 n_a_cells_a_draft_h0 b_a_cells_a_draft_h0 n9_71 d9_71 c9_71 f0_7_71 f0_9_71 f1_2_71 f1_3_71 f1_4_71 f1_5_71 f1_6_71 f1_7_71 f1_8_71 f1_9_71 f1_10_71 f1_11_71 f1_12_71 f1_13_71 f1_14_71) := by
  unfold F_Rd_settle_71
  repeat' first
    | with_reducible exact OutC.none
    | ((with_reducible refine OutC.ret ?_); exact Gn.mk' (by first | omega | exact hr1 | exact Or.inl (Nat.le_of_eq hr1)) (by first | omega | exact hr2 | exact Nat.le_succ_of_le hr2))
    | with_reducible refine OutC.ite (fun _ => ?_) (fun _ => ?_)
    | ((with_reducible refine OutC.nm ?_); try dsimp only)
    | with_reducible refine OutC.grd ?_
    | with_reducible refine OutC.alc ?_
    | ((with_reducible refine OutC.mono g_Rd_settle_98 ?_); intro r hr; obtain ⟨h1, h2⟩ := hr; exact ⟨by first | omega | (rw [h1]; exact hr1), by first | omega | exact Nat.le_trans h2 hr2⟩)
    | ((with_reducible refine OutC.bw g_Rd_settle_98 (fun r hr => ?_)); obtain ⟨hr1, hr2⟩ := hr; try dsimp only at hr1 hr2 ⊢)
    | ((with_reducible refine OutC.bw OutC.any (fun r _ => ?_)); try dsimp only)
    | ((with_reducible refine OutC.bind OutN.any (fun r _ => ?_)); try dsimp only)
theorem g_Rd_settle_29 {levels_h0 : Int32} {loops_h0 : Int32} {token_h0 : Int32} {fault_h0 : Int32} {next_a_scanner_h0 : Int32} {kind_a_scanner_h0 : Int32} {start_a_scanner_h0 : Int32} {width_a_scanner_h0 : Int32} {count_a_waiting_h0 : Int32} {n_a_cells_a_waiting_h0 : Nat} {b_a_cells_a_waiting_h0 : Nat → Int32} {count_a_draft_h0 : Int32} {n_a_cells_a_draft_h0 : Nat} {b_a_cells_a_draft_h0 : Nat → Int32} {n9_29 : Nat} {d9_29 : Nat} {c9_29 : Nat → FrC} {f0_7_29 : Int32} {f0_9_29 : Int32} {f1_2_29 : Int32} {f1_3_29 : Int32} {f1_4_29 : Int32} {f1_5_29 : Int32} {f1_6_29 : Int32} {f1_7_29 : Int32} {f1_8_29 : Int32} {f1_9_29 : Int32} {f1_10_29 : Int32} {f1_11_29 : Int32} {f1_12_29 : Int32} {f1_13_29 : Int32} {f1_14_29 : Int32} : OutC (Gn n9_29 d9_29) (F_Rd_settle_29 levels_h0 loops_h0 token_h0 fault_h0 next_a_scanner_h0 kind_a_scanner_h0 start_a_scanner_h0 width_a_scanner_h0 count_a_waiting_h0 n_a_cells_a_waiting_h0 b_a_cells_a_waiting_h0 count_a_draft_h0 n_a_cells_a_draft_h0 b_a_cells_a_draft_h0 n9_29 d9_29 c9_29 f0_7_29 f0_9_29 f1_2_29 f1_3_29 f1_4_29 f1_5_29 f1_6_29 f1_7_29 f1_8_29 f1_9_29 f1_10_29 f1_11_29 f1_12_29 f1_13_29 f1_14_29) := by
  unfold F_Rd_settle_29
  repeat' first
    | with_reducible exact OutC.none
    | ((with_reducible refine OutC.ret ?_); exact Gn.mk' (by first | omega | exact hr1 | exact Or.inl (Nat.le_of_eq hr1)) (by first | omega | exact hr2 | exact Nat.le_succ_of_le hr2))
    | with_reducible refine OutC.ite (fun _ => ?_) (fun _ => ?_)
    | ((with_reducible refine OutC.nm ?_); try dsimp only)
    | with_reducible refine OutC.grd ?_
    | with_reducible refine OutC.alc ?_
    | ((with_reducible refine OutC.mono g_Rd_settle_71 ?_); intro r hr; obtain ⟨h1, h2⟩ := hr; exact ⟨by first | omega | (rw [h1]; exact hr1), by first | omega | exact Nat.le_trans h2 hr2⟩)
    | ((with_reducible refine OutC.bw g_Rd_settle_71 (fun r hr => ?_)); obtain ⟨hr1, hr2⟩ := hr; try dsimp only at hr1 hr2 ⊢)
    | ((with_reducible refine OutC.bw OutC.any (fun r _ => ?_)); try dsimp only)
    | ((with_reducible refine OutC.bind OutN.any (fun r _ => ?_)); try dsimp only)
theorem g_Rd_settle {fn : Nat} {fd : Nat} {fcf : Nat → FrC} {mode_h0 : Int32} {levels_h0 : Int32} {signs_h0 : Int32} {loops_h0 : Int32} {token_h0 : Int32} {fault_h0 : Int32} {kind_t : Int32} {place_t : Int32} {width_t : Int32} {second_t : Int32} {parts_t : Int32} {innerParts_t : Int32} {innerPlace_t : Int32} {innerWidth_t : Int32} {signs_t : Int32} {waitingBelow_t : Int32} {limited_t : Int32} {targets_t : Int32} {lastBlock_t : Int32} {next_a_scanner_h0 : Int32} {kind_a_scanner_h0 : Int32} {start_a_scanner_h0 : Int32} {width_a_scanner_h0 : Int32} {count_a_waiting_h0 : Int32} {n_a_cells_a_waiting_h0 : Nat} {b_a_cells_a_waiting_h0 : Nat → Int32} {count_a_draft_h0 : Int32} {n_a_cells_a_draft_h0 : Nat} {b_a_cells_a_draft_h0 : Nat → Int32} : OutC (Gp fn fd) (F_Rd_settle fn fd fcf mode_h0 levels_h0 signs_h0 loops_h0 token_h0 fault_h0 kind_t place_t width_t second_t parts_t innerParts_t innerPlace_t innerWidth_t signs_t waitingBelow_t limited_t targets_t lastBlock_t next_a_scanner_h0 kind_a_scanner_h0 start_a_scanner_h0 width_a_scanner_h0 count_a_waiting_h0 n_a_cells_a_waiting_h0 b_a_cells_a_waiting_h0 count_a_draft_h0 n_a_cells_a_draft_h0 b_a_cells_a_draft_h0) := by
  unfold F_Rd_settle
  repeat' first
    | with_reducible exact OutC.none
    | ((with_reducible refine OutC.ret ?_); exact Gp.mk' (by first | omega | exact hr1 | exact Or.inl (Nat.le_of_eq hr1)) (by first | omega | exact hr2 | exact Nat.le_succ_of_le hr2))
    | with_reducible refine OutC.ite (fun _ => ?_) (fun _ => ?_)
    | ((with_reducible refine OutC.nm ?_); try dsimp only)
    | with_reducible refine OutC.grd ?_
    | with_reducible refine OutC.alc ?_
    | ((with_reducible refine OutC.mono g_Rd_push ?_); intro r hr; obtain ⟨h1, h2⟩ := hr; exact ⟨by first | omega | (rw [h1]; exact hr1), by first | omega | exact Nat.le_trans h2 hr2⟩)
    | ((with_reducible refine OutC.bw g_Rd_push (fun r hr => ?_)); obtain ⟨hr1, hr2⟩ := hr; try dsimp only at hr1 hr2 ⊢)
    | ((with_reducible refine OutC.mono g_Rd_settle_29 ?_); intro r hr; obtain ⟨h1, h2⟩ := hr; exact ⟨by first | omega | (rw [h1]; exact hr1), by first | omega | exact Nat.le_trans h2 hr2⟩)
    | ((with_reducible refine OutC.bw g_Rd_settle_29 (fun r hr => ?_)); obtain ⟨hr1, hr2⟩ := hr; try dsimp only at hr1 hr2 ⊢)
    | ((with_reducible refine OutC.bw OutC.any (fun r _ => ?_)); try dsimp only)
    | ((with_reducible refine OutC.bind OutN.any (fun r _ => ?_)); try dsimp only)
theorem g_Rd_takeOperand {fn : Nat} {fd : Nat} {fcf : Nat → FrC} {mode_h0 : Int32} {levels_h0 : Int32} {signs_h0 : Int32} {loops_h0 : Int32} {token_h0 : Int32} {fault_h0 : Int32} {kind_t : Int32} {place_t : Int32} {width_t : Int32} {second_t : Int32} {parts_t : Int32} {innerParts_t : Int32} {innerPlace_t : Int32} {innerWidth_t : Int32} {signs_t : Int32} {waitingBelow_t : Int32} {limited_t : Int32} {targets_t : Int32} {lastBlock_t : Int32} {next_a_scanner_h0 : Int32} {kind_a_scanner_h0 : Int32} {start_a_scanner_h0 : Int32} {width_a_scanner_h0 : Int32} {count_a_draft_h0 : Int32} {n_a_cells_a_draft_h0 : Nat} {b_a_cells_a_draft_h0 : Nat → Int32} {count_a_waiting_h0 : Int32} {n_a_cells_a_waiting_h0 : Nat} {b_a_cells_a_waiting_h0 : Nat → Int32} : OutC (Gp fn fd) (F_Rd_takeOperand fn fd fcf mode_h0 levels_h0 signs_h0 loops_h0 token_h0 fault_h0 kind_t place_t width_t second_t parts_t innerParts_t innerPlace_t innerWidth_t signs_t waitingBelow_t limited_t targets_t lastBlock_t next_a_scanner_h0 kind_a_scanner_h0 start_a_scanner_h0 width_a_scanner_h0 count_a_draft_h0 n_a_cells_a_draft_h0 b_a_cells_a_draft_h0 count_a_waiting_h0 n_a_cells_a_waiting_h0 b_a_cells_a_waiting_h0) := by
  unfold F_Rd_takeOperand
  repeat' first
    | with_reducible exact OutC.none
    | ((with_reducible refine OutC.ret ?_); exact Gp.mk' (by first | omega | exact hr1 | exact Or.inl (Nat.le_of_eq hr1)) (by first | omega | exact hr2 | exact Nat.le_succ_of_le hr2))
    | with_reducible refine OutC.ite (fun _ => ?_) (fun _ => ?_)
    | ((with_reducible refine OutC.nm ?_); try dsimp only)
    | with_reducible refine OutC.grd ?_
    | with_reducible refine OutC.alc ?_
    | ((with_reducible refine OutC.mono g_Rd_openItem ?_); intro r hr; obtain ⟨h1, h2⟩ := hr; exact ⟨by first | omega | (rw [h1]; exact hr1), by first | omega | exact Nat.le_trans h2 hr2⟩)
    | ((with_reducible refine OutC.bw g_Rd_openItem (fun r hr => ?_)); obtain ⟨hr1, hr2⟩ := hr; try dsimp only at hr1 hr2 ⊢)
    | ((with_reducible refine OutC.bw OutC.any (fun r _ => ?_)); try dsimp only)
    | ((with_reducible refine OutC.bind OutN.any (fun r _ => ?_)); try dsimp only)
theorem g_Rd_takeSemicolon {fn : Nat} {fd : Nat} {fcf : Nat → FrC} {mode_h0 : Int32} {levels_h0 : Int32} {signs_h0 : Int32} {loops_h0 : Int32} {token_h0 : Int32} {fault_h0 : Int32} {kind_t : Int32} {place_t : Int32} {width_t : Int32} {second_t : Int32} {parts_t : Int32} {innerParts_t : Int32} {innerPlace_t : Int32} {innerWidth_t : Int32} {signs_t : Int32} {waitingBelow_t : Int32} {limited_t : Int32} {targets_t : Int32} {lastBlock_t : Int32} {count_a_draft_h0 : Int32} {n_a_cells_a_draft_h0 : Nat} {b_a_cells_a_draft_h0 : Nat → Int32} : OutC (Gn fn fd) (F_Rd_takeSemicolon fn fd fcf mode_h0 levels_h0 signs_h0 loops_h0 token_h0 fault_h0 kind_t place_t width_t second_t parts_t innerParts_t innerPlace_t innerWidth_t signs_t waitingBelow_t limited_t targets_t lastBlock_t count_a_draft_h0 n_a_cells_a_draft_h0 b_a_cells_a_draft_h0) := by
  unfold F_Rd_takeSemicolon
  repeat' first
    | with_reducible exact OutC.none
    | ((with_reducible refine OutC.ret ?_); exact Gn.mk' (by first | omega | exact hr1 | exact Or.inl (Nat.le_of_eq hr1)) (by first | omega | exact hr2 | exact Nat.le_succ_of_le hr2))
    | with_reducible refine OutC.ite (fun _ => ?_) (fun _ => ?_)
    | ((with_reducible refine OutC.nm ?_); try dsimp only)
    | with_reducible refine OutC.grd ?_
    | with_reducible refine OutC.alc ?_
    | ((with_reducible refine OutC.mono g_Rd_endPlain ?_); intro r hr; obtain ⟨h1, h2⟩ := hr; exact ⟨by first | omega | (rw [h1]; exact hr1), by first | omega | exact Nat.le_trans h2 hr2⟩)
    | ((with_reducible refine OutC.bw g_Rd_endPlain (fun r hr => ?_)); obtain ⟨hr1, hr2⟩ := hr; try dsimp only at hr1 hr2 ⊢)
    | ((with_reducible refine OutC.bw OutC.any (fun r _ => ?_)); try dsimp only)
    | ((with_reducible refine OutC.bind OutN.any (fun r _ => ?_)); try dsimp only)
theorem g_Rd_takeOperator_81 {mode_h0 : Int32} {levels_h0 : Int32} {signs_h0 : Int32} {loops_h0 : Int32} {token_h0 : Int32} {fault_h0 : Int32} {kind_t : Int32} {place_t : Int32} {width_t : Int32} {second_t : Int32} {parts_t : Int32} {innerParts_t : Int32} {innerPlace_t : Int32} {innerWidth_t : Int32} {signs_t : Int32} {waitingBelow_t : Int32} {limited_t : Int32} {lastBlock_t : Int32} {next_a_scanner_h0 : Int32} {kind_a_scanner_h0 : Int32} {start_a_scanner_h0 : Int32} {width_a_scanner_h0 : Int32} {count_a_draft_h0 : Int32} {n_a_cells_a_draft_h0 : Nat} {b_a_cells_a_draft_h0 : Nat → Int32} {count_a_waiting_h0 : Int32} {n_a_cells_a_waiting_h0 : Nat} {b_a_cells_a_waiting_h0 : Nat → Int32} {v1_81 : Int32} {t0_81 : Int32} {n9_81 : Nat} {d9_81 : Nat} {c9_81 : Nat → FrC} {f1_13_81 : Int32} : OutC (Gn n9_81 d9_81) (F_Rd_takeOperator_81 mode_h0 levels_h0 signs_h0 loops_h0 token_h0 fault_h0 kind_t place_t width_t second_t parts_t innerParts_t innerPlace_t innerWidth_t signs_t waitingBelow_t limited_t lastBlock_t next_a_scanner_h0 kind_a_scanner_h0 start_a_scanner_h0 width_a_scanner_h0 count_a_draft_h0 n_a_cells_a_draft_h0 b_a_cells_a_draft_h0 count_a_waiting_h0 n_a_cells_a_waiting_h0 b_a_cells_a_waiting_h0 v1_81 t0_81 n9_81 d9_81 c9_81 f1_13_81) := by
  unfold F_Rd_takeOperator_81
  repeat' first
    | with_reducible exact OutC.none
    | ((with_reducible refine OutC.ret ?_); exact Gn.mk' (by first | omega | exact hr1 | exact Or.inl (Nat.le_of_eq hr1)) (by first | omega | exact hr2 | exact Nat.le_succ_of_le hr2))
    | with_reducible refine OutC.ite (fun _ => ?_) (fun _ => ?_)
    | ((with_reducible refine OutC.nm ?_); try dsimp only)
    | with_reducible refine OutC.grd ?_
    | with_reducible refine OutC.alc ?_
    | ((with_reducible refine OutC.mono g_Rd_closeRows ?_); intro r hr; obtain ⟨h1, h2⟩ := hr; exact ⟨by first | omega | (rw [h1]; exact hr1), by first | omega | exact Nat.le_trans h2 hr2⟩)
    | ((with_reducible refine OutC.bw g_Rd_closeRows (fun r hr => ?_)); obtain ⟨hr1, hr2⟩ := hr; try dsimp only at hr1 hr2 ⊢)
    | ((with_reducible refine OutC.mono g_Rd_closeBracket ?_); intro r hr; obtain ⟨h1, h2⟩ := hr; exact ⟨by first | omega | (rw [h1]; exact hr1), by first | omega | exact Nat.le_trans h2 hr2⟩)
    | ((with_reducible refine OutC.bw g_Rd_closeBracket (fun r hr => ?_)); obtain ⟨hr1, hr2⟩ := hr; try dsimp only at hr1 hr2 ⊢)
    | ((with_reducible refine OutC.mono g_Rd_takeSemicolon ?_); intro r hr; obtain ⟨h1, h2⟩ := hr; exact ⟨by first | omega | (rw [h1]; exact hr1), by first | omega | exact Nat.le_trans h2 hr2⟩)
    | ((with_reducible refine OutC.bw g_Rd_takeSemicolon (fun r hr => ?_)); obtain ⟨hr1, hr2⟩ := hr; try dsimp only at hr1 hr2 ⊢)
    | ((with_reducible refine OutC.bw OutC.any (fun r _ => ?_)); try dsimp only)
    | ((with_reducible refine OutC.bind OutN.any (fun r _ => ?_)); try dsimp only)
theorem g_Rd_takeOperator_26 {mode_h0 : Int32} {levels_h0 : Int32} {signs_h0 : Int32} {loops_h0 : Int32} {token_h0 : Int32} {fault_h0 : Int32} {kind_t : Int32} {place_t : Int32} {width_t : Int32} {second_t : Int32} {parts_t : Int32} {innerParts_t : Int32} {innerPlace_t : Int32} {innerWidth_t : Int32} {signs_t : Int32} {waitingBelow_t : Int32} {limited_t : Int32} {lastBlock_t : Int32} {next_a_scanner_h0 : Int32} {kind_a_scanner_h0 : Int32} {start_a_scanner_h0 : Int32} {width_a_scanner_h0 : Int32} {count_a_draft_h0 : Int32} {n_a_cells_a_draft_h0 : Nat} {b_a_cells_a_draft_h0 : Nat → Int32} {count_a_waiting_h0 : Int32} {n_a_cells_a_waiting_h0 : Nat} {b_a_cells_a_waiting_h0 : Nat → Int32} {n9_26 : Nat} {d9_26 : Nat} {c9_26 : Nat → FrC} {f1_13_26 : Int32} : OutC (Gn n9_26 d9_26) (F_Rd_takeOperator_26 mode_h0 levels_h0 signs_h0 loops_h0 token_h0 fault_h0 kind_t place_t width_t second_t parts_t innerParts_t innerPlace_t innerWidth_t signs_t waitingBelow_t limited_t lastBlock_t next_a_scanner_h0 kind_a_scanner_h0 start_a_scanner_h0 width_a_scanner_h0 count_a_draft_h0 n_a_cells_a_draft_h0 b_a_cells_a_draft_h0 count_a_waiting_h0 n_a_cells_a_waiting_h0 b_a_cells_a_waiting_h0 n9_26 d9_26 c9_26 f1_13_26) := by
  unfold F_Rd_takeOperator_26
  repeat' first
    | with_reducible exact OutC.none
    | ((with_reducible refine OutC.ret ?_); exact Gn.mk' (by first | omega | exact hr1 | exact Or.inl (Nat.le_of_eq hr1)) (by first | omega | exact hr2 | exact Nat.le_succ_of_le hr2))
    | with_reducible refine OutC.ite (fun _ => ?_) (fun _ => ?_)
    | ((with_reducible refine OutC.nm ?_); try dsimp only)
    | with_reducible refine OutC.grd ?_
    | with_reducible refine OutC.alc ?_
    | ((with_reducible refine OutC.mono g_Rd_takeOperator_81 ?_); intro r hr; obtain ⟨h1, h2⟩ := hr; exact ⟨by first | omega | (rw [h1]; exact hr1), by first | omega | exact Nat.le_trans h2 hr2⟩)
    | ((with_reducible refine OutC.bw g_Rd_takeOperator_81 (fun r hr => ?_)); obtain ⟨hr1, hr2⟩ := hr; try dsimp only at hr1 hr2 ⊢)
    | ((with_reducible refine OutC.bw OutC.any (fun r _ => ?_)); try dsimp only)
    | ((with_reducible refine OutC.bind OutN.any (fun r _ => ?_)); try dsimp only)
theorem g_Rd_takeOperator {fn : Nat} {fd : Nat} {fcf : Nat → FrC} {mode_h0 : Int32} {levels_h0 : Int32} {signs_h0 : Int32} {loops_h0 : Int32} {token_h0 : Int32} {fault_h0 : Int32} {kind_t : Int32} {place_t : Int32} {width_t : Int32} {second_t : Int32} {parts_t : Int32} {innerParts_t : Int32} {innerPlace_t : Int32} {innerWidth_t : Int32} {signs_t : Int32} {waitingBelow_t : Int32} {limited_t : Int32} {targets_t : Int32} {lastBlock_t : Int32} {next_a_scanner_h0 : Int32} {kind_a_scanner_h0 : Int32} {start_a_scanner_h0 : Int32} {width_a_scanner_h0 : Int32} {count_a_draft_h0 : Int32} {n_a_cells_a_draft_h0 : Nat} {b_a_cells_a_draft_h0 : Nat → Int32} {count_a_waiting_h0 : Int32} {n_a_cells_a_waiting_h0 : Nat} {b_a_cells_a_waiting_h0 : Nat → Int32} : OutC (Gn fn fd) (F_Rd_takeOperator fn fd fcf mode_h0 levels_h0 signs_h0 loops_h0 token_h0 fault_h0 kind_t place_t width_t second_t parts_t innerParts_t innerPlace_t innerWidth_t signs_t waitingBelow_t limited_t targets_t lastBlock_t next_a_scanner_h0 kind_a_scanner_h0 start_a_scanner_h0 width_a_scanner_h0 count_a_draft_h0 n_a_cells_a_draft_h0 b_a_cells_a_draft_h0 count_a_waiting_h0 n_a_cells_a_waiting_h0 b_a_cells_a_waiting_h0) := by
  unfold F_Rd_takeOperator
  repeat' first
    | with_reducible exact OutC.none
    | ((with_reducible refine OutC.ret ?_); exact Gn.mk' (by first | omega | exact hr1 | exact Or.inl (Nat.le_of_eq hr1)) (by first | omega | exact hr2 | exact Nat.le_succ_of_le hr2))
    | with_reducible refine OutC.ite (fun _ => ?_) (fun _ => ?_)
    | ((with_reducible refine OutC.nm ?_); try dsimp only)
    | with_reducible refine OutC.grd ?_
    | with_reducible refine OutC.alc ?_
    | ((with_reducible refine OutC.mono g_Rd_takeOperator_26 ?_); intro r hr; obtain ⟨h1, h2⟩ := hr; exact ⟨by first | omega | (rw [h1]; exact hr1), by first | omega | exact Nat.le_trans h2 hr2⟩)
    | ((with_reducible refine OutC.bw g_Rd_takeOperator_26 (fun r hr => ?_)); obtain ⟨hr1, hr2⟩ := hr; try dsimp only at hr1 hr2 ⊢)
    | ((with_reducible refine OutC.bw OutC.any (fun r _ => ?_)); try dsimp only)
    | ((with_reducible refine OutC.bind OutN.any (fun r _ => ?_)); try dsimp only)
theorem g_Rd_takeAtStart {fn : Nat} {fd : Nat} {fcf : Nat → FrC} {mode_h0 : Int32} {levels_h0 : Int32} {signs_h0 : Int32} {loops_h0 : Int32} {token_h0 : Int32} {fault_h0 : Int32} {kind_t : Int32} {place_t : Int32} {width_t : Int32} {second_t : Int32} {parts_t : Int32} {innerParts_t : Int32} {innerPlace_t : Int32} {innerWidth_t : Int32} {signs_t : Int32} {waitingBelow_t : Int32} {limited_t : Int32} {targets_t : Int32} {lastBlock_t : Int32} {count_a_draft_h0 : Int32} {n_a_cells_a_draft_h0 : Nat} {b_a_cells_a_draft_h0 : Nat → Int32} {next_a_scanner_h0 : Int32} {kind_a_scanner_h0 : Int32} {start_a_scanner_h0 : Int32} {width_a_scanner_h0 : Int32} {count_a_waiting_h0 : Int32} {n_a_cells_a_waiting_h0 : Nat} {b_a_cells_a_waiting_h0 : Nat → Int32} : OutC (Gn fn fd) (F_Rd_takeAtStart fn fd fcf mode_h0 levels_h0 signs_h0 loops_h0 token_h0 fault_h0 kind_t place_t width_t second_t parts_t innerParts_t innerPlace_t innerWidth_t signs_t waitingBelow_t limited_t targets_t lastBlock_t count_a_draft_h0 n_a_cells_a_draft_h0 b_a_cells_a_draft_h0 next_a_scanner_h0 kind_a_scanner_h0 start_a_scanner_h0 width_a_scanner_h0 count_a_waiting_h0 n_a_cells_a_waiting_h0 b_a_cells_a_waiting_h0) := by
  unfold F_Rd_takeAtStart
  repeat' first
    | with_reducible exact OutC.none
    | ((with_reducible refine OutC.ret ?_); exact Gn.mk' (by first | omega | exact hr1 | exact Or.inl (Nat.le_of_eq hr1)) (by first | omega | exact hr2 | exact Nat.le_succ_of_le hr2))
    | with_reducible refine OutC.ite (fun _ => ?_) (fun _ => ?_)
    | ((with_reducible refine OutC.nm ?_); try dsimp only)
    | with_reducible refine OutC.grd ?_
    | with_reducible refine OutC.alc ?_
    | ((with_reducible refine OutC.mono g_Rd_closeRows ?_); intro r hr; obtain ⟨h1, h2⟩ := hr; exact ⟨by first | omega | (rw [h1]; exact hr1), by first | omega | exact Nat.le_trans h2 hr2⟩)
    | ((with_reducible refine OutC.bw g_Rd_closeRows (fun r hr => ?_)); obtain ⟨hr1, hr2⟩ := hr; try dsimp only at hr1 hr2 ⊢)
    | ((with_reducible refine OutC.mono g_Rd_becomeTargets ?_); intro r hr; obtain ⟨h1, h2⟩ := hr; exact ⟨by first | omega | (rw [h1]; exact hr1), by first | omega | exact Nat.le_trans h2 hr2⟩)
    | ((with_reducible refine OutC.bw g_Rd_becomeTargets (fun r hr => ?_)); obtain ⟨hr1, hr2⟩ := hr; try dsimp only at hr1 hr2 ⊢)
    | ((with_reducible refine OutC.mono g_Rd_closeCall ?_); intro r hr; obtain ⟨h1, h2⟩ := hr; exact ⟨by first | omega | (rw [h1]; exact hr1), by first | omega | exact Nat.le_trans h2 hr2⟩)
    | ((with_reducible refine OutC.bw g_Rd_closeCall (fun r hr => ?_)); obtain ⟨hr1, hr2⟩ := hr; try dsimp only at hr1 hr2 ⊢)
    | ((with_reducible refine OutC.bw OutC.any (fun r _ => ?_)); try dsimp only)
    | ((with_reducible refine OutC.bind OutN.any (fun r _ => ?_)); try dsimp only)
theorem g_Rd_standsInExpression {fn : Nat} {fd : Nat} {fcf : Nat → FrC} {mode_h0 : Int32} {levels_h0 : Int32} {signs_h0 : Int32} {loops_h0 : Int32} {token_h0 : Int32} {fault_h0 : Int32} {kind_t : Int32} {place_t : Int32} {width_t : Int32} {second_t : Int32} {parts_t : Int32} {innerParts_t : Int32} {innerPlace_t : Int32} {innerWidth_t : Int32} {signs_t : Int32} {waitingBelow_t : Int32} {limited_t : Int32} {targets_t : Int32} {lastBlock_t : Int32} {count_a_draft_h0 : Int32} {n_a_cells_a_draft_h0 : Nat} {b_a_cells_a_draft_h0 : Nat → Int32} {next_a_scanner_h0 : Int32} {kind_a_scanner_h0 : Int32} {start_a_scanner_h0 : Int32} {width_a_scanner_h0 : Int32} {count_a_waiting_h0 : Int32} {n_a_cells_a_waiting_h0 : Nat} {b_a_cells_a_waiting_h0 : Nat → Int32} : OutC (Gp fn fd) (F_Rd_standsInExpression fn fd fcf mode_h0 levels_h0 signs_h0 loops_h0 token_h0 fault_h0 kind_t place_t width_t second_t parts_t innerParts_t innerPlace_t innerWidth_t signs_t waitingBelow_t limited_t targets_t lastBlock_t count_a_draft_h0 n_a_cells_a_draft_h0 b_a_cells_a_draft_h0 next_a_scanner_h0 kind_a_scanner_h0 start_a_scanner_h0 width_a_scanner_h0 count_a_waiting_h0 n_a_cells_a_waiting_h0 b_a_cells_a_waiting_h0) := by
  unfold F_Rd_standsInExpression
  repeat' first
    | with_reducible exact OutC.none
    | ((with_reducible refine OutC.ret ?_); exact Gp.mk' (by first | omega | exact hr1 | exact Or.inl (Nat.le_of_eq hr1)) (by first | omega | exact hr2 | exact Nat.le_succ_of_le hr2))
    | with_reducible refine OutC.ite (fun _ => ?_) (fun _ => ?_)
    | ((with_reducible refine OutC.nm ?_); try dsimp only)
    | with_reducible refine OutC.grd ?_
    | with_reducible refine OutC.alc ?_
    | ((with_reducible refine OutC.mono g_Rd_takeOperand ?_); intro r hr; obtain ⟨h1, h2⟩ := hr; exact ⟨by first | omega | (rw [h1]; exact hr1), by first | omega | exact Nat.le_trans h2 hr2⟩)
    | ((with_reducible refine OutC.bw g_Rd_takeOperand (fun r hr => ?_)); obtain ⟨hr1, hr2⟩ := hr; try dsimp only at hr1 hr2 ⊢)
    | ((with_reducible refine OutC.mono g_Rd_takeOperator ?_); intro r hr; obtain ⟨h1, h2⟩ := hr; exact ⟨by first | omega | (rw [h1]; exact hr1), by first | omega | exact Nat.le_trans h2 hr2⟩)
    | ((with_reducible refine OutC.bw g_Rd_takeOperator (fun r hr => ?_)); obtain ⟨hr1, hr2⟩ := hr; try dsimp only at hr1 hr2 ⊢)
    | ((with_reducible refine OutC.mono g_Rd_takeAtStart ?_); intro r hr; obtain ⟨h1, h2⟩ := hr; exact ⟨by first | omega | (rw [h1]; exact hr1), by first | omega | exact Nat.le_trans h2 hr2⟩)
    | ((with_reducible refine OutC.bw g_Rd_takeAtStart (fun r hr => ?_)); obtain ⟨hr1, hr2⟩ := hr; try dsimp only at hr1 hr2 ⊢)
    | ((with_reducible refine OutC.mono g_Rd_openArguments ?_); intro r hr; obtain ⟨h1, h2⟩ := hr; exact ⟨by first | omega | (rw [h1]; exact hr1), by first | omega | exact Nat.le_trans h2 hr2⟩)
    | ((with_reducible refine OutC.bw g_Rd_openArguments (fun r hr => ?_)); obtain ⟨hr1, hr2⟩ := hr; try dsimp only at hr1 hr2 ⊢)
    | ((with_reducible refine OutC.bw OutC.any (fun r _ => ?_)); try dsimp only)
    | ((with_reducible refine OutC.bind OutN.any (fun r _ => ?_)); try dsimp only)
theorem g_Rd_standsInSeveral {fn : Nat} {fd : Nat} {fcf : Nat → FrC} {mode_h0 : Int32} {levels_h0 : Int32} {signs_h0 : Int32} {loops_h0 : Int32} {token_h0 : Int32} {fault_h0 : Int32} {kind_t : Int32} {place_t : Int32} {width_t : Int32} {second_t : Int32} {parts_t : Int32} {innerParts_t : Int32} {innerPlace_t : Int32} {innerWidth_t : Int32} {signs_t : Int32} {waitingBelow_t : Int32} {limited_t : Int32} {targets_t : Int32} {lastBlock_t : Int32} {next_a_scanner_h0 : Int32} {kind_a_scanner_h0 : Int32} {start_a_scanner_h0 : Int32} {width_a_scanner_h0 : Int32} {count_a_draft_h0 : Int32} {n_a_cells_a_draft_h0 : Nat} {b_a_cells_a_draft_h0 : Nat → Int32} {count_a_waiting_h0 : Int32} : OutC (Gp fn fd) (F_Rd_standsInSeveral fn fd fcf mode_h0 levels_h0 signs_h0 loops_h0 token_h0 fault_h0 kind_t place_t width_t second_t parts_t innerParts_t innerPlace_t innerWidth_t signs_t waitingBelow_t limited_t targets_t lastBlock_t next_a_scanner_h0 kind_a_scanner_h0 start_a_scanner_h0 width_a_scanner_h0 count_a_draft_h0 n_a_cells_a_draft_h0 b_a_cells_a_draft_h0 count_a_waiting_h0) := by
  unfold F_Rd_standsInSeveral
  repeat' first
    | with_reducible exact OutC.none
    | ((with_reducible refine OutC.ret ?_); exact Gp.mk' (by first | omega | exact hr1 | exact Or.inl (Nat.le_of_eq hr1)) (by first | omega | exact hr2 | exact Nat.le_succ_of_le hr2))
    | with_reducible refine OutC.ite (fun _ => ?_) (fun _ => ?_)
    | ((with_reducible refine OutC.nm ?_); try dsimp only)
    | with_reducible refine OutC.grd ?_
    | with_reducible refine OutC.alc ?_
    | ((with_reducible refine OutC.mono g_Rd_endSeveral ?_); intro r hr; obtain ⟨h1, h2⟩ := hr; exact ⟨by first | omega | (rw [h1]; exact hr1), by first | omega | exact Nat.le_trans h2 hr2⟩)
    | ((with_reducible refine OutC.bw g_Rd_endSeveral (fun r hr => ?_)); obtain ⟨hr1, hr2⟩ := hr; try dsimp only at hr1 hr2 ⊢)
    | ((with_reducible refine OutC.mono g_Rd_beginCall ?_); intro r hr; obtain ⟨h1, h2⟩ := hr; exact ⟨by first | omega | (rw [h1]; exact hr1), by first | omega | exact Nat.le_trans h2 hr2⟩)
    | ((with_reducible refine OutC.bw g_Rd_beginCall (fun r hr => ?_)); obtain ⟨hr1, hr2⟩ := hr; try dsimp only at hr1 hr2 ⊢)
    | ((with_reducible refine OutC.bw OutC.any (fun r _ => ?_)); try dsimp only)
    | ((with_reducible refine OutC.bind OutN.any (fun r _ => ?_)); try dsimp only)
theorem g_Rd_standsInStatement {fn : Nat} {fd : Nat} {fcf : Nat → FrC} {mode_h0 : Int32} {levels_h0 : Int32} {signs_h0 : Int32} {loops_h0 : Int32} {token_h0 : Int32} {fault_h0 : Int32} {kind_t : Int32} {place_t : Int32} {width_t : Int32} {second_t : Int32} {parts_t : Int32} {innerParts_t : Int32} {innerPlace_t : Int32} {innerWidth_t : Int32} {signs_t : Int32} {waitingBelow_t : Int32} {limited_t : Int32} {targets_t : Int32} {lastBlock_t : Int32} {next_a_scanner_h0 : Int32} {kind_a_scanner_h0 : Int32} {start_a_scanner_h0 : Int32} {width_a_scanner_h0 : Int32} {count_a_waiting_h0 : Int32} {count_a_draft_h0 : Int32} {n_a_cells_a_draft_h0 : Nat} {b_a_cells_a_draft_h0 : Nat → Int32} : OutC (Gp fn fd) (F_Rd_standsInStatement fn fd fcf mode_h0 levels_h0 signs_h0 loops_h0 token_h0 fault_h0 kind_t place_t width_t second_t parts_t innerParts_t innerPlace_t innerWidth_t signs_t waitingBelow_t limited_t targets_t lastBlock_t next_a_scanner_h0 kind_a_scanner_h0 start_a_scanner_h0 width_a_scanner_h0 count_a_waiting_h0 count_a_draft_h0 n_a_cells_a_draft_h0 b_a_cells_a_draft_h0) := by
  unfold F_Rd_standsInStatement
  repeat' first
    | with_reducible exact OutC.none
    | ((with_reducible refine OutC.ret ?_); exact Gp.mk' (by first | omega | exact hr1 | exact Or.inl (Nat.le_of_eq hr1)) (by first | omega | exact hr2 | exact Nat.le_succ_of_le hr2))
    | with_reducible refine OutC.ite (fun _ => ?_) (fun _ => ?_)
    | ((with_reducible refine OutC.nm ?_); try dsimp only)
    | with_reducible refine OutC.grd ?_
    | with_reducible refine OutC.alc ?_
    | ((with_reducible refine OutC.mono g_Rd_beginStatement ?_); intro r hr; obtain ⟨h1, h2⟩ := hr; exact ⟨by first | omega | (rw [h1]; exact hr1), by first | omega | exact Nat.le_trans h2 hr2⟩)
    | ((with_reducible refine OutC.bw g_Rd_beginStatement (fun r hr => ?_)); obtain ⟨hr1, hr2⟩ := hr; try dsimp only at hr1 hr2 ⊢)
    | ((with_reducible refine OutC.mono g_Rd_openHead ?_); intro r hr; obtain ⟨h1, h2⟩ := hr; exact ⟨by first | omega | (rw [h1]; exact hr1), by first | omega | exact Nat.le_trans h2 hr2⟩)
    | ((with_reducible refine OutC.bw g_Rd_openHead (fun r hr => ?_)); obtain ⟨hr1, hr2⟩ := hr; try dsimp only at hr1 hr2 ⊢)
    | ((with_reducible refine OutC.bw OutC.any (fun r _ => ?_)); try dsimp only)
    | ((with_reducible refine OutC.bind OutN.any (fun r _ => ?_)); try dsimp only)
end

section
/-- the frames that a reading makes -/
theorem g_take_7 {sz : Int32} {nb : Nat} {bb : Nat → Int32} : ∀ (fu v : Nat) (n9_7 : Nat) (d9_7 : Nat) (c9_7 : (Nat → FrC)) (n2_7 : Nat) (b2_7 : (Nat → Int32)) (n3_7 : Nat) (b3_7 : (Nat → Int32)) (n4_7 : Nat) (b4_7 : (Nat → Int32)) (f5_7_7 : Int32) (f5_8_7 : Int32) (f5_9_7 : Int32) (f5_10_7 : Int32) (f5_11_7 : Int32) (f6_2_7 : Int32) (f6_3_7 : Int32) (f6_4_7 : Int32) (f6_5_7 : Int32) (f6_6_7 : Int32) (f6_7_7 : Int32) (f6_8_7 : Int32) (f6_9_7 : Int32) (f6_10_7 : Int32) (f6_11_7 : Int32) (f6_12_7 : Int32) (f6_13_7 : Int32) (f6_14_7 : Int32) (f7_1_7 : Int32) (f7_2_7 : Int32) (f7_3_7 : Int32) (f7_4_7 : Int32) (f8_1_7 : Int32) (f9_1_7 : Int32) (f10_1_7 : Int32), v ≤ 16384 → OutC (fun r => r.1 ≤ n9_7 ∨ r.1 ≤ d9_7 + 2 * (16385 - v) + 2) (F_Rd_take_7 sz nb bb fu (nI v) n9_7 d9_7 c9_7 n2_7 b2_7 n3_7 b3_7 n4_7 b4_7 f5_7_7 f5_8_7 f5_9_7 f5_10_7 f5_11_7 f6_2_7 f6_3_7 f6_4_7 f6_5_7 f6_6_7 f6_7_7 f6_8_7 f6_9_7 f6_10_7 f6_11_7 f6_12_7 f6_13_7 f6_14_7 f7_1_7 f7_2_7 f7_3_7 f7_4_7 f8_1_7 f9_1_7 f10_1_7) := by
  intro fu
  induction fu with
  | zero =>
    intro v n9_7 d9_7 c9_7 n2_7 b2_7 n3_7 b3_7 n4_7 b4_7 f5_7_7 f5_8_7 f5_9_7 f5_10_7 f5_11_7 f6_2_7 f6_3_7 f6_4_7 f6_5_7 f6_6_7 f6_7_7 f6_8_7 f6_9_7 f6_10_7 f6_11_7 f6_12_7 f6_13_7 f6_14_7 f7_1_7 f7_2_7 f7_3_7 f7_4_7 f8_1_7 f9_1_7 f10_1_7 _
    rw [F_Rd_take_7]
    exact OutC.none
  | succ fu ih =>
    intro v n9_7 d9_7 c9_7 n2_7 b2_7 n3_7 b3_7 n4_7 b4_7 f5_7_7 f5_8_7 f5_9_7 f5_10_7 f5_11_7 f6_2_7 f6_3_7 f6_4_7 f6_5_7 f6_6_7 f6_7_7 f6_8_7 f6_9_7 f6_10_7 f6_11_7 f6_12_7 f6_13_7 f6_14_7 f7_1_7 f7_2_7 f7_3_7 f7_4_7 f8_1_7 f9_1_7 f10_1_7 hv
    have hv1 : nI v + 1 = nI (v + 1) := nI_add' v 1
    have hv2 : ¬ nI v = 16384 → v + 1 ≤ 16384 := fun h => by
      have : v ≠ 16384 := fun e => h (by rw [e]; rfl)
      omega
    rw [F_Rd_take_7]
    unfold F_Rd_take_76 F_Rd_take_132
    simp only [hv1]
    repeat' first
      | with_reducible exact OutC.none
      | ((with_reducible refine OutC.ret ?_); dsimp only; omega)
      | (with_reducible refine OutC.ite (fun h => ?_) (fun h => ?_))
      | ((with_reducible refine OutC.mono (ih (v + 1) _ _ _ _ _ _ _ _ _ _ _ _ _ _ _ _ _ _ _ _ _ _ _ _ _ _ _ _ _ _ _ _ _ _ (hv2 h)) ?_); intro r hk; (try dsimp only at hk); (try dsimp only); omega)
      | ((with_reducible refine OutC.bw g_Rd_settle (fun r hr => ?_)); obtain ⟨x1, x2, x3⟩ := r; obtain ⟨hr1, hr2⟩ := hr; dsimp only at hr1 hr2 ⊢)
      | ((with_reducible refine OutC.bw g_Rd_standsInStatement (fun r hr => ?_)); obtain ⟨x1, x2, x3⟩ := r; obtain ⟨hr1, hr2⟩ := hr; dsimp only at hr1 hr2 ⊢)
      | ((with_reducible refine OutC.bw g_Rd_standsInSeveral (fun r hr => ?_)); obtain ⟨x1, x2, x3⟩ := r; obtain ⟨hr1, hr2⟩ := hr; dsimp only at hr1 hr2 ⊢)
      | ((with_reducible refine OutC.bw g_Rd_standsInExpression (fun r hr => ?_)); obtain ⟨x1, x2, x3⟩ := r; obtain ⟨hr1, hr2⟩ := hr; dsimp only at hr1 hr2 ⊢)
      | ((with_reducible refine OutC.bw OutC.any (fun r _ => ?_)); try dsimp only)
      | ((with_reducible refine OutC.bind OutN.any (fun r _ => ?_)); try dsimp only)
/-- **at most 32772 frames, or as many as there were** -/
theorem g_take {fn : Nat} {fd : Nat} {fcf : Nat → FrC} {mode_h0 : Int32} {levels_h0 : Int32} {signs_h0 : Int32} {loops_h0 : Int32} {token_h0 : Int32} {fault_h0 : Int32} {kind_t : Int32} {place_t : Int32} {width_t : Int32} {second_t : Int32} {parts_t : Int32} {innerParts_t : Int32} {innerPlace_t : Int32} {innerWidth_t : Int32} {signs_t : Int32} {waitingBelow_t : Int32} {limited_t : Int32} {targets_t : Int32} {lastBlock_t : Int32} {next_a_scanner_h0 : Int32} {kind_a_scanner_h0 : Int32} {start_a_scanner_h0 : Int32} {width_a_scanner_h0 : Int32} {count_a_draft_h0 : Int32} {count_a_waiting_h0 : Int32} {count_a_functions_h0 : Int32} {size_g1 : Int32} {n_a_bytes_g1 : Nat} {b_a_bytes_g1 : Nat → Int32} {n_a_cells_a_draft_h0 : Nat} {b_a_cells_a_draft_h0 : Nat → Int32} {n_a_cells_a_waiting_h0 : Nat} {b_a_cells_a_waiting_h0 : Nat → Int32} {n_a_cells_a_functions_h0 : Nat} {b_a_cells_a_functions_h0 : Nat → Int32} : OutC (fun r => r.1 ≤ fn ∨ r.1 ≤ 32772) (F_Rd_take fn fd fcf mode_h0 levels_h0 signs_h0 loops_h0 token_h0 fault_h0 kind_t place_t width_t second_t parts_t innerParts_t innerPlace_t innerWidth_t signs_t waitingBelow_t limited_t targets_t lastBlock_t next_a_scanner_h0 kind_a_scanner_h0 start_a_scanner_h0 width_a_scanner_h0 count_a_draft_h0 count_a_waiting_h0 count_a_functions_h0 size_g1 n_a_bytes_g1 b_a_bytes_g1 n_a_cells_a_draft_h0 b_a_cells_a_draft_h0 n_a_cells_a_waiting_h0 b_a_cells_a_waiting_h0 n_a_cells_a_functions_h0 b_a_cells_a_functions_h0) := by
  unfold F_Rd_take F_Rd_begin
  refine OutC.bind (Q := fun r => r.1 = fn ∧ r.2.1 = 0) (OutN.grd (OutN.ret ⟨rfl, rfl⟩)) (fun r hr => ?_)
  obtain ⟨x1, x2, x3⟩ := r
  obtain ⟨h1, h2⟩ := hr
  dsimp only at h1 h2 ⊢
  subst h1 h2
  exact OutC.mono (g_take_7 FU 0 _ _ _ _ _ _ _ _ _ _ _ _ _ _ _ _ _ _ _ _ _ _ _ _ _ _ _ _ _ _ _ _ _ _ (by omega)) (fun r h => h)
end
