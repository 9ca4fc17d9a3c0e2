/-! ===== worlds up to order; the chain of frames by index ===== -/
theorem P_perm {D : va_G} {ws ws' : va_W} {H : Heap} (h : ws.Perm ws') (hP : va_P D gCl ws H) : va_P D gCl ws' H := by
  intro k q hk
  have hm : q ∈ ws := h.mem_iff.mpr (List.mem_of_getElem? hk)
  obtain ⟨i, hi⟩ := List.getElem?_of_mem hm
  exact hP i q hi
theorem D_nodup {A : Nat → Prop} {ws : va_W} (hD : va_D A ws) : (ws.map Prod.fst).Nodup := by
  rw [List.nodup_iff_pairwise_ne, List.pairwise_iff_getElem]
  intro i j hi hj hij e
  rw [List.length_map] at hi hj
  rw [List.getElem_map, List.getElem_map] at e
  have := hD.1 i j ws[i] ws[j] (List.getElem?_eq_getElem hi) (List.getElem?_eq_getElem hj) e
  omega
theorem D_of {A : Nat → Prop} {ws : va_W} (h1 : (ws.map Prod.fst).Nodup) (h2 : ∀ q ∈ ws, A q.1) : va_D A ws := by
  refine ⟨fun i j p q hp hq e => ?_, fun k q hk => h2 q (List.mem_of_getElem? hk)⟩
  obtain ⟨hi, rfl⟩ := List.getElem?_eq_some_iff.mp hp
  obtain ⟨hj, rfl⟩ := List.getElem?_eq_some_iff.mp hq
  rw [List.nodup_iff_pairwise_ne, List.pairwise_iff_getElem] at h1
  rcases Nat.lt_trichotomy i j with h | h | h
  · exact absurd (by rw [List.getElem_map, List.getElem_map]; exact e) (h1 i j (by rw [List.length_map]; exact hi) (by rw [List.length_map]; exact hj) h)
  · exact h
  · exact absurd (by rw [List.getElem_map, List.getElem_map]; exact e.symm) (h1 j i (by rw [List.length_map]; exact hj) (by rw [List.length_map]; exact hi) h)
theorem D_perm {A : Nat → Prop} {ws ws' : va_W} (h : ws.Perm ws') (hD : va_D A ws) : va_D A ws' :=
  D_of ((h.map Prod.fst).nodup (D_nodup hD)) (fun q hq => by
    obtain ⟨k, hk⟩ := List.getElem?_of_mem (h.mem_iff.mpr hq)
    exact hD.2 k q hk)
theorem j_perm {κ : Kx} {cc : ByteArray} {nL : Nat} {own : String} {pc cl sl : Nat} {lv : List (Nat × Value)} {st : List Value} {ws ws' : va_W} (h : ws.Perm ws') (k : J κ cc nL own pc lv st ws' cl sl) : J κ cc nL own pc lv st ws cl sl := by
  obtain ⟨p, l, e, R, s, m, args, below, meth, c, D, T, A, Q⟩ := κ
  intro C H locs ls hP hD hS hl
  exact k C H locs ls (P_perm h hP) (D_perm h hD) hS hl
theorem fm_take {α : Type} (ws : List α) : ∀ k : Nat, (List.range k).filterMap (fun i => ws[i]?) = ws.take k
  | 0 => by simp
  | k + 1 => by
    rw [List.range_succ, List.filterMap_append, fm_take ws k, List.take_add_one]
    congr 1
theorem fm_some {α : Type} {f : Nat → Option α} : ∀ {is : List Nat} {w : List α}, is.map f = w.map some → is.filterMap f = w
  | [], [], _ => rfl
  | [], a :: w, h => by simp at h
  | i :: is, [], h => by simp at h
  | i :: is, a :: w, h => by
    simp only [List.map_cons, List.cons.injEq] at h
    rw [List.filterMap_cons, h.1, fm_some h.2]
theorem pkw_sub {α : Type} {ws w pl : List α} (is js : List Nat) (k : Nat) (hs : is.map (fun i => ws[i]?) = w.map some) (hd : ws.drop k = pl) (hp : (is ++ js).isPerm (List.range k) = true) : ws.Perm ((w ++ pl) ++ js.filterMap (fun i => ws[i]?)) := by
  have h1 : (is ++ js).Perm (List.range k) := List.isPerm_iff.mp hp
  have h2 := h1.filterMap (fun i => ws[i]?)
  rw [List.filterMap_append, fm_some hs, fm_take] at h2
  have h3 : ws.Perm ((w ++ js.filterMap (fun i => ws[i]?)) ++ pl) := by
    have := (h2.append_right pl).symm
    rw [← hd] at this ⊢
    rwa [List.take_append_drop] at this
  refine h3.trans ?_
  rw [List.append_assoc, List.append_assoc]
  exact List.Perm.append_left _ List.perm_append_comm
theorem pk_perm {ws w pl : va_W} (is : List Nat) (k : Nat) (hs : is.map (fun i => ws[i]?) = w.map some) (hd : ws.drop k = pl) (hp : is.isPerm (List.range k) = true) : ws.Perm (w ++ pl) := by
  have h := pkw_sub is [] k hs hd (by rw [List.append_nil]; exact hp)
  rwa [List.filterMap_nil, List.append_nil] at h
theorem pm_mid {a b c : va_W} : ((a ++ b) ++ c).Perm ((a ++ c) ++ b) := by
  rw [List.append_assoc, List.append_assoc]
  exact List.Perm.append_left _ List.perm_append_comm
theorem rng_map {α : Type} (ws : List α) : (List.range ws.length).map (fun i => ws[i]?) = ws.map some := by
  apply List.ext_getElem?
  intro i
  simp only [List.getElem?_map]
  by_cases h : i < ws.length
  · simp [List.getElem?_range h, h]
  · simp [h]
theorem rng_app {α : Type} (a b : List α) : (List.range a.length).map (fun i => (a ++ b)[i]?) = a.map some := by
  apply List.ext_getElem?
  intro i
  simp only [List.getElem?_map]
  by_cases h : i < a.length
  · simp [List.getElem?_range h, h, List.getElem?_append_left h]
  · simp [h]
theorem rng_app2 {α : Type} (a b : List α) : (List.range' a.length b.length).map (fun i => (a ++ b)[i]?) = b.map some := by
  apply List.ext_getElem?
  intro i
  simp only [List.getElem?_map]
  by_cases h : i < b.length
  · simp [List.getElem?_range' h, h, List.getElem?_append_right]
  · simp [h]
abbrev FrC : Type := Int32 × Int32 × Int32 × Int32 × Int32 × Int32 × Int32 × Int32 × Int32 × Int32 × Int32 × Int32 × Int32
abbrev frc (c : FrC) : List Value := [.int c.1, .int c.2.1, .int c.2.2.1, .int c.2.2.2.1, .int c.2.2.2.2.1, .int c.2.2.2.2.2.1, .int c.2.2.2.2.2.2.1, .int c.2.2.2.2.2.2.2.1, .int c.2.2.2.2.2.2.2.2.1, .int c.2.2.2.2.2.2.2.2.2.1, .int c.2.2.2.2.2.2.2.2.2.2.1, .int c.2.2.2.2.2.2.2.2.2.2.2.1, .int c.2.2.2.2.2.2.2.2.2.2.2.2]
def frB (ad : Nat → Nat) (i : Nat) : Value := if i = 0 then .null else .ref (ad (i - 1))
def frA (ad : Nat → Nat) (n i : Nat) : Value := if i + 1 < n then .ref (ad (i + 1)) else .null
abbrev frv (ad : Nat → Nat) (n i : Nat) (c : FrC) : List Value := frB ad i :: frA ad n i :: frc c
def fcell (ad : Nat → Nat) (n : Nat) (cf : Nat → FrC) (i : Nat) : Nat × va_E := (ad i, .inr (0, frv ad n i (cf i)))
def fpa (ad : Nat → Nat) (n : Nat) (cf : Nat → FrC) : va_W := (List.range n).map (fcell ad n cf)
def fpo (ad : Nat → Nat) (n d : Nat) (cf : Nat → FrC) : va_W := ((List.range n).erase d).map (fcell ad n cf)
theorem vu_self {α : Type} {f : Nat → α} {q : Nat} {b : α} : va_up f q b q = b := if_pos rfl
theorem vu_ne {α : Type} {f : Nat → α} {q i : Nat} {b : α} (h : i ≠ q) : va_up f q b i = f i := if_neg h
theorem vu_id {α : Type} {f : Nat → α} {q : Nat} : va_up f q (f q) = f := by
  funext i
  by_cases h : i = q
  · subst h; exact vu_self
  · exact vu_ne h
theorem fp_focus {ad : Nat → Nat} {n d : Nat} {cf : Nat → FrC} (h : d < n) : (fpa ad n cf).Perm (fcell ad n cf d :: fpo ad n d cf) := by
  have h1 : (List.range n).Perm (d :: (List.range n).erase d) := List.perm_cons_erase (List.mem_range.mpr h)
  exact (h1.map (fcell ad n cf))
theorem fpo_up {ad : Nat → Nat} {n d : Nat} {cf : Nat → FrC} {c : FrC} : fpo ad n d (va_up cf d c) = fpo ad n d cf := by
  unfold fpo
  refine List.map_congr_left (fun i hi => ?_)
  have hne : i ≠ d := fun e => by
    subst e
    exact absurd hi (List.Nodup.not_mem_erase List.nodup_range)
  unfold fcell
  rw [vu_ne hne]
theorem fp_unfocus {ad : Nat → Nat} {n d : Nat} {cf : Nat → FrC} {c : FrC} (h : d < n) : ((ad d, .inr (0, frv ad n d c)) :: fpo ad n d cf).Perm (fpa ad n (va_up cf d c)) := by
  have h1 := (fp_focus (ad := ad) (cf := va_up cf d c) h).symm
  rw [fpo_up] at h1
  have h2 : fcell ad n (va_up cf d c) d = (ad d, .inr (0, frv ad n d c)) := by unfold fcell; rw [vu_self]
  rw [h2] at h1
  exact h1
theorem fp_refoc {ad : Nat → Nat} {n d e : Nat} {cf : Nat → FrC} {c x : FrC} (hd : d < n) (he : e < n) (hx : va_up cf d c e = x) : ((ad d, .inr (0, frv ad n d c)) :: fpo ad n d cf).Perm ((ad e, .inr (0, frv ad n e x)) :: fpo ad n e (va_up cf d c)) := by
  subst hx
  exact (fp_unfocus hd).trans (fp_focus he)
theorem fp_ref2 {ad : Nat → Nat} {n d e : Nat} {cf : Nat → FrC} (hd : d < n) (he : e < n) : ((ad d, .inr (0, frv ad n d (cf d))) :: fpo ad n d cf).Perm ((ad e, .inr (0, frv ad n e (cf e))) :: fpo ad n e cf) := by
  have h := fp_refoc (ad := ad) (cf := cf) (c := cf d) hd he rfl
  rwa [vu_id] at h
theorem fp_lim {ad : Nat → Nat} {n d : Nat} {cf : Nat → FrC} {c : FrC} : ((ad d, .inr (0, frv ad n d c)) :: fpo ad n d cf : va_W).Perm ((ad d, .inr (0, frv ad n d (va_up cf d c d))) :: fpo ad n d (va_up cf d c)) := by
  rw [fpo_up, vu_self]
theorem frA_t {ad : Nat → Nat} {n i : Nat} (h : i + 1 < n) : frA ad n i = .ref (ad (i + 1)) := if_pos h
theorem frA_f {ad : Nat → Nat} {n i : Nat} (h : ¬ i + 1 < n) : frA ad n i = .null := if_neg h
theorem frB_z {ad : Nat → Nat} {i : Nat} (h : i = 0) : frB ad i = .null := if_pos h
theorem frB_s {ad : Nat → Nat} {i : Nat} (h : ¬ i = 0) : frB ad i = .ref (ad (i - 1)) := if_neg h
theorem frB_0 {ad : Nat → Nat} : frB ad 0 = .null := rfl
theorem frB_1 {ad : Nat → Nat} {i : Nat} : frB ad (i + 1) = .ref (ad i) := if_neg (by omega)
theorem fq_0 {ad ad1 : Nat → Nat} {n d q : Nat} (ha : ad1 = va_up ad n q) (hd : d < n) (hn : d + 1 = n) : ad1 0 = ad 0 := by rw [ha]; exact vu_ne (by omega)
theorem fq_1 {ad ad1 : Nat → Nat} {n d q : Nat} (ha : ad1 = va_up ad n q) (hd : d < n) (hn : d + 1 = n) : ad1 (d + 1) = q := by rw [ha, hn]; exact vu_self
theorem fq_B {ad ad1 : Nat → Nat} {n d q : Nat} (ha : ad1 = va_up ad n q) (hd : d < n) (hn : d + 1 = n) : frB ad1 (d + 1) = .ref (ad d) := by rw [frB_1, ha]; rw [vu_ne (by omega)]
theorem fq_A {ad ad1 : Nat → Nat} {n d q : Nat} (ha : ad1 = va_up ad n q) (hd : d < n) (hn : d + 1 = n) : frA ad1 (n + 1) (d + 1) = .null := frA_f (by omega)
theorem fq_perm {ad ad1 : Nat → Nat} {n d q : Nat} (ha : ad1 = va_up ad n q) (hd : d < n) (hn : d + 1 = n) {X : va_E} {cf : Nat → FrC} {c : FrC} : ((ad d, .inr (0, frB ad d :: .ref q :: frc c)) :: (q, X) :: fpo ad n d cf).Perm ((q, X) :: fpo ad1 (n + 1) (d + 1) (va_up cf d c)) := by
  refine (List.Perm.swap _ _ _).trans (List.Perm.cons _ ?_)
  have h1 : fpo ad1 (n + 1) (d + 1) (va_up cf d c) = (List.range n).map (fcell ad1 (n + 1) (va_up cf d c)) := by
    unfold fpo
    rw [hn, List.range_succ, List.erase_append_right _ (by simp)]
    simp
  rw [h1]
  have h2 : (List.range n).Perm (d :: (List.range n).erase d) := List.perm_cons_erase (List.mem_range.mpr hd)
  have h3 := (h2.map (fcell ad1 (n + 1) (va_up cf d c))).symm
  refine List.Perm.trans ?_ h3
  rw [List.map_cons]
  have h4 : fcell ad1 (n + 1) (va_up cf d c) d = (ad d, .inr (0, frB ad d :: .ref q :: frc c)) := by
    unfold fcell
    rw [vu_self]
    have e1 : ad1 d = ad d := by rw [ha]; exact vu_ne (by omega)
    have e2 : frB ad1 d = frB ad d := by
      unfold frB
      split
      · rfl
      · rw [ha, vu_ne (by omega)]
    have e3 : frA ad1 (n + 1) d = .ref q := by rw [frA_t (by omega), fq_1 ha hd hn]
    rw [e1]
    show _ = _
    unfold frv
    rw [e2, e3]
  rw [h4]
  refine List.Perm.cons _ ?_
  unfold fpo
  rw [List.map_congr_left (g := fcell ad1 (n + 1) (va_up cf d c))]
  intro i hi
  have hne : i ≠ d := fun e => by
    subst e
    exact absurd hi (List.Nodup.not_mem_erase List.nodup_range)
  have hlt : i < n := List.mem_range.mp (List.mem_of_mem_erase hi)
  unfold fcell
  rw [vu_ne hne]
  have e1 : ad1 i = ad i := by rw [ha]; exact vu_ne (by omega)
  have e2 : frB ad1 i = frB ad i := by
    unfold frB
    split
    · rfl
    · rw [ha, vu_ne (by omega)]
  have e3 : frA ad1 (n + 1) i = frA ad n i := by
    rw [frA_t (by omega), frA_t (by omega), ha, vu_ne (by omega)]
  unfold frv
  rw [e1, e2, e3]

/-! the nearest call -/
abbrev slim (c : FrC) (b : Int32) : FrC := (c.1, c.2.1, c.2.2.1, c.2.2.2.1, c.2.2.2.2.1, c.2.2.2.2.2.1, c.2.2.2.2.2.2.1, c.2.2.2.2.2.2.2.1, c.2.2.2.2.2.2.2.2.1, c.2.2.2.2.2.2.2.2.2.1, b, c.2.2.2.2.2.2.2.2.2.2.2.1, c.2.2.2.2.2.2.2.2.2.2.2.2)
def limG (cf : Nat → FrC) : Nat → Int32 × (Nat → FrC)
  | 0 => if (cf 0).1 = 33 then (if 2 ≤ (cf 0).2.2.2.2.1 then 0 else 1, va_up cf 0 (slim (cf 0) 1)) else (0, cf)
  | i + 1 => if (cf (i + 1)).1 = 33 then (if 2 ≤ (cf (i + 1)).2.2.2.2.1 then 0 else 1, va_up cf (i + 1) (slim (cf (i + 1)) 1)) else if (cf (i + 1)).1 = 50 ∨ (cf (i + 1)).1 = 36 then limG cf i else (0, cf)
theorem limG_down0 {cf : Nat → FrC} (c1 : ¬ (cf 0).1 = 33) (c2 : (cf 0).1 = 50 ∨ (cf 0).1 = 36) : limG cf 0 = (0, cf) := by rw [limG, if_neg c1]
theorem limG_down {cf : Nat → FrC} {i : Nat} (c1 : ¬ (cf (i + 1)).1 = 33) (c2 : (cf (i + 1)).1 = 50 ∨ (cf (i + 1)).1 = 36) : limG cf (i + 1) = limG cf i := by rw [limG, if_neg c1, if_pos c2]
theorem limG_no {cf : Nat → FrC} {i : Nat} (c1 : ¬ (cf i).1 = 33) (c2 : ¬ (cf i).1 = 50) (c3 : ¬ (cf i).1 = 36) : limG cf i = (0, cf) := by
  cases i with
  | zero => rw [limG, if_neg c1]
  | succ i => rw [limG, if_neg c1, if_neg (fun h => h.elim c2 c3)]
theorem limG_ge {cf : Nat → FrC} {i : Nat} (c1 : (cf i).1 = 33) (c2 : 2 ≤ (va_up cf i (slim (cf i) 1) i).2.2.2.2.1) : limG cf i = (0, va_up cf i (slim (cf i) 1)) := by
  rw [vu_self] at c2
  cases i with
  | zero => rw [limG, if_pos c1, if_pos c2]
  | succ i => rw [limG, if_pos c1, if_pos c2]
theorem limG_lt {cf : Nat → FrC} {i : Nat} (c1 : (cf i).1 = 33) (c2 : ¬ 2 ≤ (va_up cf i (slim (cf i) 1) i).2.2.2.2.1) : limG cf i = (1, va_up cf i (slim (cf i) 1)) := by
  rw [vu_self] at c2
  cases i with
  | zero => rw [limG, if_pos c1, if_neg c2]
  | succ i => rw [limG, if_pos c1, if_neg c2]
theorem limG_up {cf : Nat → FrC} {i j : Nat} : va_up cf i (slim (cf i) 1) j = slim (cf j) (va_up cf i (slim (cf i) 1) j).2.2.2.2.2.2.2.2.2.2.1 := by
  by_cases h : j = i
  · subst h; rw [vu_self]
  · rw [vu_ne h]
theorem limG_same (cf : Nat → FrC) : ∀ (d j : Nat), (limG cf d).2 j = slim (cf j) ((limG cf d).2 j).2.2.2.2.2.2.2.2.2.2.1
  | 0, j => by
    rw [limG]
    split
    · exact limG_up
    · rfl
  | i + 1, j => by
    rw [limG]
    split
    · exact limG_up
    · split
      · exact limG_same cf i j
      · rfl
def grd {α : Type} (c : Prop) [Decidable c] (a : Option α) : Option α := if c then a else none
theorem grd_s {α : Type} {c : Prop} {i : Decidable c} {a : Option α} {r : α} (h : @grd α c i a = some r) : c ∧ a = some r := by
  unfold grd at h
  by_cases hc : c
  · rw [if_pos hc] at h; exact ⟨hc, h⟩
  · rw [if_neg hc] at h; cases h

/-! ===== rows for worlds with a pool behind them ===== -/
theorem nd_of : ∀ {l : List Nat}, l.Nodup → va_nd l = true
  | [], _ => rfl
  | a :: l, h => by
    rw [List.nodup_cons] at h
    simp only [va_nd, Bool.and_eq_true, decide_eq_true_eq]
    exact ⟨h.1, nd_of h.2⟩
theorem D_left {A : Nat → Prop} {a b : va_W} (h : va_D A (a ++ b)) : va_D A a := by
  refine D_of ?_ (fun q hq => ?_)
  · have h1 := D_nodup h
    rw [List.map_append] at h1
    exact (List.nodup_append.mp h1).1
  · obtain ⟨k, hk⟩ := List.getElem?_of_mem (List.mem_append_left b hq)
    exact h.2 k q hk
theorem P_left {D : va_G} {a b : va_W} {H : Heap} (h : va_P D gCl (a ++ b) H) : va_P D gCl a H := by
  intro k q hk
  obtain ⟨i, hi⟩ := List.getElem?_of_mem (List.mem_append_left b (List.mem_of_getElem? hk))
  exact h i q hi
theorem j_subP {κ : Kx} {cc : ByteArray} {nL : Nat} {own : String} {pc cl sl : Nat} {lv lv' : List (Nat × Value)} {st : List Value} {ws w pl : va_W} (is js : List Nat) (k0 : Nat) (hs : is.map (fun i => ws[i]?) = w.map some) (hd : ws.drop k0 = pl) (hp : (is ++ js).isPerm (List.range k0) = true) (il : List Nat) (hl' : lv_pick lv il = lv') (k : J κ cc nL own pc lv' st (w ++ pl) cl sl) : J κ cc nL own pc lv st ws cl sl := by
  refine j_perm (pkw_sub is js k0 hs hd hp) ?_
  obtain ⟨p, l, e, R, s, m, args, below, meth, c, D, T, A, Q⟩ := κ
  intro C H locs ls hP hD hS hl
  exact k C H locs ls (P_left hP) (D_left hD) hS (lv_sub hl il hl')
section JEndsP
variable {p : Program} {l : Launch} {e : Env} {R : Room} {s : State} {m : MethodId} {args : Array Value} {below : List Frame} {meth : Method} {c : Code} {D : va_G} {T : List (ClassId × FieldType)} {wc : va_W} {Qr : Option Value → va_W → Prop} {cc : ByteArray} {nL : Nat} {own : String} {pc cl sl : Nat} {lv : List (Nat × Value)} {ws : va_W}
theorem j_iretE {v : Int32} (hr : meth.sig.returnType = some .int) (d : decode cc pc = .ok (.ireturn, 1)) (hQ : Qr (some (.int v)) ws) : J (KxOf p l e R s m args below meth c D T wc Qr cl sl) cc nL own pc lv [.int v] ws cl sl :=
  j_iret (w := ws) hr d (List.range ws.length) (rng_map ws) (nd_of List.nodup_range) hQ
theorem j_zretE {v : Int32} (hr : meth.sig.returnType = some .boolean) (hz : narrow .boolean (.int v) = .int v) (d : decode cc pc = .ok (.ireturn, 1)) (hQ : Qr (some (.int v)) ws) : J (KxOf p l e R s m args below meth c D T wc Qr cl sl) cc nL own pc lv [.int v] ws cl sl :=
  j_zret (w := ws) hr hz d (List.range ws.length) (rng_map ws) (nd_of List.nodup_range) hQ
theorem j_vretE (hr : meth.sig.returnType = none) (d : decode cc pc = .ok (.return_, 1)) (hQ : Qr none ws) : J (KxOf p l e R s m args below meth c D T wc Qr cl sl) cc nL own pc lv [] ws cl sl :=
  j_vret (w := ws) hr d (List.range ws.length) (rng_map ws) (nd_of List.nodup_range) hQ
end JEndsP
theorem nd_r1 {a : va_W} : va_nd (List.range a.length) = true := nd_of List.nodup_range
theorem nd_r2 {a b : va_W} : va_nd (List.range' a.length b.length) = true := nd_of List.nodup_range'
theorem r_dis {a b : va_W} : ∀ i ∈ List.range a.length, i ∉ List.range' a.length b.length := by
  intro i h1 h2
  rw [List.mem_range] at h1
  rw [List.mem_range'_1] at h2
  omega
section JCallsG
variable {p : Program} {l : Launch} {e : Env} {R : Room} {s : State} {m : MethodId} {args : Array Value} {below : List Frame} {meth : Method} {c : Code} {D : va_G} {T : List (ClassId × FieldType)} {A : Nat → Prop} {Q : State → Prop} {cc : ByteArray} {nL : Nat} {own : String} {pc cl sl : Nat} {lv : List (Nat × Value)} {st0 rest : List Value} {ws : va_W}
variable {y : MethodName} {by' : ByteArray} {mL : Nat} {rt : Option FieldType} {fr lo mc ms : Nat} {As : List Value} {wc : va_W} {Qr : Option Value → va_W → Prop} {n index b : Nat} {wr : va_W}
theorem j_callVg {Cn : String} {Tf : u_T} {N ci : Nat} {fs : List Value} (hM : Ct l D T y by' mL rt fr lo mc ms (.ref b :: As) wc Qr) (g : GoodIn gG (wsV own index Cn y (.code y by' mL rt :: gG))) (hd : y.cls = Cn ∧ y.cls ≠ "java/lang/invoke/MethodHandle" ∧ y.cls ≠ "java/lang/invoke/VarHandle" ∧ (parseMethodDescriptor y.desc).map (fun d => d.parameters.length) = some n) (hRm : fr + 1 ≤ R.frames ∧ 8 + (mL + 11) + lo ≤ R.locals)
    (hc : gCl[ci]? = some (Cn, Tf, N)) (q0 : Nat) (hb0 : wc[q0]? = some (b, .inr (ci, fs))) (hws : ws.Perm (wr ++ wc)) (hlen : As.length = n) (hst : st0 = As.reverse ++ .ref b :: rest) (hW : (rest.map fun v => v.category).sum ≤ 8) (d : decode cc pc = .ok (.invokevirtual index, 3)) (hf : cl + mc ≤ R.cells ∧ sl + ms ≤ R.slots)
    (kk : ∀ (v : Option Value) (w : va_W), Qr v w → J (p, l, e, R, s, m, args, below, meth, c, D, T, A, Q) cc nL own (pc + 3) lv (v.toList ++ rest) (wr ++ w) (cl + mc) (sl + ms)) : J (p, l, e, R, s, m, args, below, meth, c, D, T, A, Q) cc nL own pc lv st0 ws cl sl :=
  j_perm hws (j_callV hM g hd hRm hc q0 hb0 (List.range' wr.length wc.length) (List.range wr.length) (rng_app2 wr wc) nd_r2 (rng_app wr wc) nd_r1 r_dis hlen hst hW d hf kk)
theorem j_callSg (hM : Ct l D T y by' mL rt fr lo mc ms As wc Qr) (g : GoodIn gG (va_wsS own index y (.code y by' mL rt :: gG))) (hd : y.cls ≠ "java/lang/invoke/MethodHandle" ∧ y.cls ≠ "java/lang/invoke/VarHandle" ∧ (parseMethodDescriptor y.desc).map (fun d => d.parameters.length) = some n) (hRm : fr + 1 ≤ R.frames ∧ 8 + (mL + 11) + lo ≤ R.locals)
    (hws : ws.Perm (wr ++ wc)) (hlen : As.length = n) (hst : st0 = As.reverse ++ rest) (hW : (rest.map fun v => v.category).sum ≤ 8) (d : decode cc pc = .ok (.invokestatic index, 3)) (hf : cl + mc ≤ R.cells ∧ sl + ms ≤ R.slots)
    (kk : ∀ (v : Option Value) (w : va_W), Qr v w → J (p, l, e, R, s, m, args, below, meth, c, D, T, A, Q) cc nL own (pc + 3) lv (v.toList ++ rest) (wr ++ w) (cl + mc) (sl + ms)) : J (p, l, e, R, s, m, args, below, meth, c, D, T, A, Q) cc nL own pc lv st0 ws cl sl :=
  j_perm hws (j_callS hM g hd hRm (List.range' wr.length wc.length) (List.range wr.length) (rng_app2 wr wc) nd_r2 (rng_app wr wc) nd_r1 r_dis hlen hst hW d hf kk)
theorem j_callIg (hM : Ct l D T y by' mL none fr lo mc ms (.ref b :: As) wc Qr) (m1 : Cond.methodLink own index y ∈ gG) (m2 : Cond.instanceMethod y ∈ gG) (m4 : Cond.initialized y.cls ∈ gG) (m5 : Cond.code y by' mL none ∈ gG) (hy : y.name = "<init>") (hd : y.cls ≠ "java/lang/invoke/MethodHandle" ∧ y.cls ≠ "java/lang/invoke/VarHandle" ∧ (parseMethodDescriptor y.desc).map (fun d => d.parameters.length) = some n) (hRm : fr + 1 ≤ R.frames ∧ 8 + (mL + 11) + lo ≤ R.locals)
    (hws : ws.Perm (wr ++ wc)) (hlen : As.length = n) (hst : st0 = As.reverse ++ .ref b :: rest) (hW : (rest.map fun v => v.category).sum ≤ 8) (d : decode cc pc = .ok (.invokespecial index, 3)) (hf : cl + mc ≤ R.cells ∧ sl + ms ≤ R.slots)
    (kk : ∀ (v : Option Value) (w : va_W), Qr v w → J (p, l, e, R, s, m, args, below, meth, c, D, T, A, Q) cc nL own (pc + 3) lv (v.toList ++ rest) (wr ++ w) (cl + mc) (sl + ms)) : J (p, l, e, R, s, m, args, below, meth, c, D, T, A, Q) cc nL own pc lv st0 ws cl sl :=
  j_perm hws (j_callI hM m1 m2 m4 m5 hy hd hRm (List.range' wr.length wc.length) (List.range wr.length) (rng_app2 wr wc) nd_r2 (rng_app wr wc) nd_r1 r_dis hlen hst hW d hf kk)
theorem j_callINg {host : String} (hM : Ct l D T y by' mL none fr lo mc ms (.ref b :: As) wc Qr) (m1 : Cond.methodLinkNest own index y host ∈ gNest) (m2 : Cond.instanceMethod y ∈ gG) (m4 : Cond.initialized y.cls ∈ gG) (m5 : Cond.code y by' mL none ∈ gG) (hy : y.name = "<init>") (hd : y.cls ≠ "java/lang/invoke/MethodHandle" ∧ y.cls ≠ "java/lang/invoke/VarHandle" ∧ (parseMethodDescriptor y.desc).map (fun d => d.parameters.length) = some n) (hRm : fr + 1 ≤ R.frames ∧ 8 + (mL + 11) + lo ≤ R.locals)
    (hws : ws.Perm (wr ++ wc)) (hlen : As.length = n) (hst : st0 = As.reverse ++ .ref b :: rest) (hW : (rest.map fun v => v.category).sum ≤ 8) (d : decode cc pc = .ok (.invokespecial index, 3)) (hf : cl + mc ≤ R.cells ∧ sl + ms ≤ R.slots)
    (kk : ∀ (v : Option Value) (w : va_W), Qr v w → J (p, l, e, R, s, m, args, below, meth, c, D, T, A, Q) cc nL own (pc + 3) lv (v.toList ++ rest) (wr ++ w) (cl + mc) (sl + ms)) : J (p, l, e, R, s, m, args, below, meth, c, D, T, A, Q) cc nL own pc lv st0 ws cl sl :=
  j_perm hws (j_callIN hM m1 m2 m4 m5 hy hd hRm (List.range' wr.length wc.length) (List.range wr.length) (rng_app2 wr wc) nd_r2 (rng_app wr wc) nd_r1 r_dis hlen hst hW d hf kk)
end JCallsG
section JStoreV
variable {κ : Kx} {cc : ByteArray} {nL : Nat} {own : String} {pc cl sl : Nat} {lv lv' : List (Nat × Value)} {st : List Value} {ws : va_W}
theorem j_astore_nR {n : Fin 4} {i : Nat} {x : Nat} {v : Value} (hx : v = .ref x) (d : decode cc pc = .ok (.astore_n n, 1)) (hi : (n : Nat) = i) (hn : i < nL) (hl' : (i, Value.ref x) :: lv.filter (fun q => !(q.1 == i) && !(q.1 + 1 == i && q.2.category == 2)) = lv') (k : J κ cc nL own (pc + 1) lv' (st) ws cl sl) : J κ cc nL own pc lv (v :: st) ws cl sl := by
  subst hx
  exact j_astore_n d hi hn hl' k
theorem j_astore_n0 {n : Fin 4} {i : Nat} {v : Value} (hx : v = .null) (d : decode cc pc = .ok (.astore_n n, 1)) (hi : (n : Nat) = i) (hn : i < nL) (hl' : (i, Value.null) :: lv.filter (fun q => !(q.1 == i) && !(q.1 + 1 == i && q.2.category == 2)) = lv') (k : J κ cc nL own (pc + 1) lv' (st) ws cl sl) : J κ cc nL own pc lv (v :: st) ws cl sl := by
  subst hx
  obtain ⟨p, l, e, R, s, m, args, below, meth, c, D, T, A, Q⟩ := κ
  intro C H locs ls hP hD hS hl
  exact lv_astore_nN C.1 C.2.1 d hi hl hn hl' (fun ls hl => (k C H locs ls hP hD hS hl))
end JStoreV
