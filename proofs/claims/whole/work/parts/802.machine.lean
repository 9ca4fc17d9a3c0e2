section
/-! the class's reader as a machine: scalars as they are, lists for what grows -/
/-- a frame -/
abbrev Fm : Type := Int32 × Int32 × Int32 × Int32 × Int32 × Int32 × Int32 × Int32 × Int32 × Int32 × Int32 × Int32 × Int32
abbrev Fm.k (z : Fm) : Int32 := z.1
abbrev Fm.pl (z : Fm) : Int32 := z.2.1
abbrev Fm.wd (z : Fm) : Int32 := z.2.2.1
abbrev Fm.sec (z : Fm) : Int32 := z.2.2.2.1
abbrev Fm.pa (z : Fm) : Int32 := z.2.2.2.2.1
abbrev Fm.ip (z : Fm) : Int32 := z.2.2.2.2.2.1
abbrev Fm.ipl (z : Fm) : Int32 := z.2.2.2.2.2.2.1
abbrev Fm.iw (z : Fm) : Int32 := z.2.2.2.2.2.2.2.1
abbrev Fm.sg (z : Fm) : Int32 := z.2.2.2.2.2.2.2.2.1
abbrev Fm.wb (z : Fm) : Int32 := z.2.2.2.2.2.2.2.2.2.1
abbrev Fm.lim (z : Fm) : Int32 := z.2.2.2.2.2.2.2.2.2.2.1
abbrev Fm.tg (z : Fm) : Int32 := z.2.2.2.2.2.2.2.2.2.2.2.1
abbrev Fm.lb (z : Fm) : Int32 := z.2.2.2.2.2.2.2.2.2.2.2.2
abbrev Fm.s_k (z : Fm) (v : Int32) : Fm := (v, z.2.1, z.2.2.1, z.2.2.2.1, z.2.2.2.2.1, z.2.2.2.2.2.1, z.2.2.2.2.2.2.1, z.2.2.2.2.2.2.2.1, z.2.2.2.2.2.2.2.2.1, z.2.2.2.2.2.2.2.2.2.1, z.2.2.2.2.2.2.2.2.2.2.1, z.2.2.2.2.2.2.2.2.2.2.2.1, z.2.2.2.2.2.2.2.2.2.2.2.2)
abbrev Fm.s_pl (z : Fm) (v : Int32) : Fm := (z.1, v, z.2.2.1, z.2.2.2.1, z.2.2.2.2.1, z.2.2.2.2.2.1, z.2.2.2.2.2.2.1, z.2.2.2.2.2.2.2.1, z.2.2.2.2.2.2.2.2.1, z.2.2.2.2.2.2.2.2.2.1, z.2.2.2.2.2.2.2.2.2.2.1, z.2.2.2.2.2.2.2.2.2.2.2.1, z.2.2.2.2.2.2.2.2.2.2.2.2)
abbrev Fm.s_wd (z : Fm) (v : Int32) : Fm := (z.1, z.2.1, v, z.2.2.2.1, z.2.2.2.2.1, z.2.2.2.2.2.1, z.2.2.2.2.2.2.1, z.2.2.2.2.2.2.2.1, z.2.2.2.2.2.2.2.2.1, z.2.2.2.2.2.2.2.2.2.1, z.2.2.2.2.2.2.2.2.2.2.1, z.2.2.2.2.2.2.2.2.2.2.2.1, z.2.2.2.2.2.2.2.2.2.2.2.2)
abbrev Fm.s_sec (z : Fm) (v : Int32) : Fm := (z.1, z.2.1, z.2.2.1, v, z.2.2.2.2.1, z.2.2.2.2.2.1, z.2.2.2.2.2.2.1, z.2.2.2.2.2.2.2.1, z.2.2.2.2.2.2.2.2.1, z.2.2.2.2.2.2.2.2.2.1, z.2.2.2.2.2.2.2.2.2.2.1, z.2.2.2.2.2.2.2.2.2.2.2.1, z.2.2.2.2.2.2.2.2.2.2.2.2)
abbrev Fm.s_pa (z : Fm) (v : Int32) : Fm := (z.1, z.2.1, z.2.2.1, z.2.2.2.1, v, z.2.2.2.2.2.1, z.2.2.2.2.2.2.1, z.2.2.2.2.2.2.2.1, z.2.2.2.2.2.2.2.2.1, z.2.2.2.2.2.2.2.2.2.1, z.2.2.2.2.2.2.2.2.2.2.1, z.2.2.2.2.2.2.2.2.2.2.2.1, z.2.2.2.2.2.2.2.2.2.2.2.2)
abbrev Fm.s_ip (z : Fm) (v : Int32) : Fm := (z.1, z.2.1, z.2.2.1, z.2.2.2.1, z.2.2.2.2.1, v, z.2.2.2.2.2.2.1, z.2.2.2.2.2.2.2.1, z.2.2.2.2.2.2.2.2.1, z.2.2.2.2.2.2.2.2.2.1, z.2.2.2.2.2.2.2.2.2.2.1, z.2.2.2.2.2.2.2.2.2.2.2.1, z.2.2.2.2.2.2.2.2.2.2.2.2)
abbrev Fm.s_ipl (z : Fm) (v : Int32) : Fm := (z.1, z.2.1, z.2.2.1, z.2.2.2.1, z.2.2.2.2.1, z.2.2.2.2.2.1, v, z.2.2.2.2.2.2.2.1, z.2.2.2.2.2.2.2.2.1, z.2.2.2.2.2.2.2.2.2.1, z.2.2.2.2.2.2.2.2.2.2.1, z.2.2.2.2.2.2.2.2.2.2.2.1, z.2.2.2.2.2.2.2.2.2.2.2.2)
abbrev Fm.s_iw (z : Fm) (v : Int32) : Fm := (z.1, z.2.1, z.2.2.1, z.2.2.2.1, z.2.2.2.2.1, z.2.2.2.2.2.1, z.2.2.2.2.2.2.1, v, z.2.2.2.2.2.2.2.2.1, z.2.2.2.2.2.2.2.2.2.1, z.2.2.2.2.2.2.2.2.2.2.1, z.2.2.2.2.2.2.2.2.2.2.2.1, z.2.2.2.2.2.2.2.2.2.2.2.2)
abbrev Fm.s_sg (z : Fm) (v : Int32) : Fm := (z.1, z.2.1, z.2.2.1, z.2.2.2.1, z.2.2.2.2.1, z.2.2.2.2.2.1, z.2.2.2.2.2.2.1, z.2.2.2.2.2.2.2.1, v, z.2.2.2.2.2.2.2.2.2.1, z.2.2.2.2.2.2.2.2.2.2.1, z.2.2.2.2.2.2.2.2.2.2.2.1, z.2.2.2.2.2.2.2.2.2.2.2.2)
abbrev Fm.s_wb (z : Fm) (v : Int32) : Fm := (z.1, z.2.1, z.2.2.1, z.2.2.2.1, z.2.2.2.2.1, z.2.2.2.2.2.1, z.2.2.2.2.2.2.1, z.2.2.2.2.2.2.2.1, z.2.2.2.2.2.2.2.2.1, v, z.2.2.2.2.2.2.2.2.2.2.1, z.2.2.2.2.2.2.2.2.2.2.2.1, z.2.2.2.2.2.2.2.2.2.2.2.2)
abbrev Fm.s_lim (z : Fm) (v : Int32) : Fm := (z.1, z.2.1, z.2.2.1, z.2.2.2.1, z.2.2.2.2.1, z.2.2.2.2.2.1, z.2.2.2.2.2.2.1, z.2.2.2.2.2.2.2.1, z.2.2.2.2.2.2.2.2.1, z.2.2.2.2.2.2.2.2.2.1, v, z.2.2.2.2.2.2.2.2.2.2.2.1, z.2.2.2.2.2.2.2.2.2.2.2.2)
abbrev Fm.s_tg (z : Fm) (v : Int32) : Fm := (z.1, z.2.1, z.2.2.1, z.2.2.2.1, z.2.2.2.2.1, z.2.2.2.2.2.1, z.2.2.2.2.2.2.1, z.2.2.2.2.2.2.2.1, z.2.2.2.2.2.2.2.2.1, z.2.2.2.2.2.2.2.2.2.1, z.2.2.2.2.2.2.2.2.2.2.1, v, z.2.2.2.2.2.2.2.2.2.2.2.2)
abbrev Fm.s_lb (z : Fm) (v : Int32) : Fm := (z.1, z.2.1, z.2.2.1, z.2.2.2.1, z.2.2.2.2.1, z.2.2.2.2.2.1, z.2.2.2.2.2.2.1, z.2.2.2.2.2.2.2.1, z.2.2.2.2.2.2.2.2.1, z.2.2.2.2.2.2.2.2.2.1, z.2.2.2.2.2.2.2.2.2.2.1, z.2.2.2.2.2.2.2.2.2.2.2.1, v)
def fm_0 (k pl wd : Int32) : Fm := ⟨k, pl, wd, -1, 0, 0, pl, wd, 0, 0, 0, 0, 0⟩
/-- a node of a draft -/
abbrev Nd : Type := Int32 × Int32 × Int32 × Int32 × Int32 × Int32
abbrev Nd.k (z : Nd) : Int32 := z.1
abbrev Nd.pl (z : Nd) : Int32 := z.2.1
abbrev Nd.sec (z : Nd) : Int32 := z.2.2.1
abbrev Nd.pa (z : Nd) : Int32 := z.2.2.2.1
abbrev Nd.wd (z : Nd) : Int32 := z.2.2.2.2.1
abbrev Nd.sz (z : Nd) : Int32 := z.2.2.2.2.2
abbrev Nd.s_k (z : Nd) (v : Int32) : Nd := (v, z.2.1, z.2.2.1, z.2.2.2.1, z.2.2.2.2.1, z.2.2.2.2.2)
abbrev Nd.s_pl (z : Nd) (v : Int32) : Nd := (z.1, v, z.2.2.1, z.2.2.2.1, z.2.2.2.2.1, z.2.2.2.2.2)
abbrev Nd.s_sec (z : Nd) (v : Int32) : Nd := (z.1, z.2.1, v, z.2.2.2.1, z.2.2.2.2.1, z.2.2.2.2.2)
abbrev Nd.s_pa (z : Nd) (v : Int32) : Nd := (z.1, z.2.1, z.2.2.1, v, z.2.2.2.2.1, z.2.2.2.2.2)
abbrev Nd.s_wd (z : Nd) (v : Int32) : Nd := (z.1, z.2.1, z.2.2.1, z.2.2.2.1, v, z.2.2.2.2.2)
abbrev Nd.s_sz (z : Nd) (v : Int32) : Nd := (z.1, z.2.1, z.2.2.1, z.2.2.2.1, z.2.2.2.2.1, v)
def Nd.row (d : Nd) : Nat → Int32 := ndR d.k d.pl d.sec d.pa d.wd d.sz (-1)
/-- a token that waits, or a function's name -/
abbrev Wt : Type := Int32 × Int32 × Int32 × Int32
abbrev Wt.rk (z : Wt) : Int32 := z.1
abbrev Wt.pl (z : Wt) : Int32 := z.2.1
abbrev Wt.sec (z : Wt) : Int32 := z.2.2.1
abbrev Wt.wd (z : Wt) : Int32 := z.2.2.2
abbrev Wt.s_rk (z : Wt) (v : Int32) : Wt := (v, z.2.1, z.2.2.1, z.2.2.2)
abbrev Wt.s_pl (z : Wt) (v : Int32) : Wt := (z.1, v, z.2.2.1, z.2.2.2)
abbrev Wt.s_sec (z : Wt) (v : Int32) : Wt := (z.1, z.2.1, v, z.2.2.2)
abbrev Wt.s_wd (z : Wt) (v : Int32) : Wt := (z.1, z.2.1, z.2.2.1, v)
def Wt.row (d : Wt) : Nat → Int32 := tkR d.rk d.pl d.sec d.wd
/-- a token: the class's kind, place, width -/
abbrev Tok : Type := Int32 × Int32 × Int32
abbrev Tok.k (z : Tok) : Int32 := z.1
abbrev Tok.pl (z : Tok) : Int32 := z.2.1
abbrev Tok.wd (z : Tok) : Int32 := z.2.2
abbrev Tok.s_k (z : Tok) (v : Int32) : Tok := (v, z.2.1, z.2.2)
abbrev Tok.s_pl (z : Tok) (v : Int32) : Tok := (z.1, v, z.2.2)
abbrev Tok.s_wd (z : Tok) (v : Int32) : Tok := (z.1, z.2.1, v)
abbrev Rs : Type := Int32 × Int32 × Int32 × Int32 × Fm × (List Fm) × (List Nd) × (List Wt) × (List Wt)
abbrev Rs.mode (z : Rs) : Int32 := z.1
abbrev Rs.levels (z : Rs) : Int32 := z.2.1
abbrev Rs.signs (z : Rs) : Int32 := z.2.2.1
abbrev Rs.loops (z : Rs) : Int32 := z.2.2.2.1
abbrev Rs.top (z : Rs) : Fm := z.2.2.2.2.1
abbrev Rs.rest (z : Rs) : List Fm := z.2.2.2.2.2.1
abbrev Rs.draft (z : Rs) : List Nd := z.2.2.2.2.2.2.1
abbrev Rs.wait (z : Rs) : List Wt := z.2.2.2.2.2.2.2.1
abbrev Rs.funs (z : Rs) : List Wt := z.2.2.2.2.2.2.2.2
abbrev Rs.s_mode (z : Rs) (v : Int32) : Rs := (v, z.2.1, z.2.2.1, z.2.2.2.1, z.2.2.2.2.1, z.2.2.2.2.2.1, z.2.2.2.2.2.2.1, z.2.2.2.2.2.2.2.1, z.2.2.2.2.2.2.2.2)
abbrev Rs.s_levels (z : Rs) (v : Int32) : Rs := (z.1, v, z.2.2.1, z.2.2.2.1, z.2.2.2.2.1, z.2.2.2.2.2.1, z.2.2.2.2.2.2.1, z.2.2.2.2.2.2.2.1, z.2.2.2.2.2.2.2.2)
abbrev Rs.s_signs (z : Rs) (v : Int32) : Rs := (z.1, z.2.1, v, z.2.2.2.1, z.2.2.2.2.1, z.2.2.2.2.2.1, z.2.2.2.2.2.2.1, z.2.2.2.2.2.2.2.1, z.2.2.2.2.2.2.2.2)
abbrev Rs.s_loops (z : Rs) (v : Int32) : Rs := (z.1, z.2.1, z.2.2.1, v, z.2.2.2.2.1, z.2.2.2.2.2.1, z.2.2.2.2.2.2.1, z.2.2.2.2.2.2.2.1, z.2.2.2.2.2.2.2.2)
abbrev Rs.s_top (z : Rs) (v : Fm) : Rs := (z.1, z.2.1, z.2.2.1, z.2.2.2.1, v, z.2.2.2.2.2.1, z.2.2.2.2.2.2.1, z.2.2.2.2.2.2.2.1, z.2.2.2.2.2.2.2.2)
abbrev Rs.s_rest (z : Rs) (v : List Fm) : Rs := (z.1, z.2.1, z.2.2.1, z.2.2.2.1, z.2.2.2.2.1, v, z.2.2.2.2.2.2.1, z.2.2.2.2.2.2.2.1, z.2.2.2.2.2.2.2.2)
abbrev Rs.s_draft (z : Rs) (v : List Nd) : Rs := (z.1, z.2.1, z.2.2.1, z.2.2.2.1, z.2.2.2.2.1, z.2.2.2.2.2.1, v, z.2.2.2.2.2.2.2.1, z.2.2.2.2.2.2.2.2)
abbrev Rs.s_wait (z : Rs) (v : List Wt) : Rs := (z.1, z.2.1, z.2.2.1, z.2.2.2.1, z.2.2.2.2.1, z.2.2.2.2.2.1, z.2.2.2.2.2.2.1, v, z.2.2.2.2.2.2.2.2)
abbrev Rs.s_funs (z : Rs) (v : List Wt) : Rs := (z.1, z.2.1, z.2.2.1, z.2.2.2.1, z.2.2.2.2.1, z.2.2.2.2.2.1, z.2.2.2.2.2.2.1, z.2.2.2.2.2.2.2.1, v)
def Rs.szAt (l : List Nd) (i : Int32) : Int32 := if i < 0 then -1 else if nI l.length ≤ i then -1 else ((l[i.toNatClampNeg]?).map Nd.sz).getD 0
/-- going back m roots -/
def Rs.bkI (l : List Nd) : Nat → Int32 → Int32
  | 0, f => f
  | m + 1, f => Rs.bkI l m (f - Rs.szAt l (f - 1))
/-- a node more: the latest m without a whole become its parts -/
def Rs.nadd (l : List Nd) (k pl sec m wd : Int32) : List Nd := if l.length < 16385 then l ++ [⟨k, pl, sec, m, wd, nI l.length - Rs.bkI l m.toNatClampNeg (nI l.length) + 1⟩] else l
def Rs.tadd (l : List Wt) (k pl wd : Int32) : List Wt := if l.length < 16384 then l ++ [⟨k, pl, -1, wd⟩] else l
/-- the last one's column, or -1 -/
def Rs.lastN (l : List Nd) (g : Nd → Int32) : Int32 := (l.getLast?.map g).getD (-1)
def Rs.lastW (l : List Wt) (g : Wt → Int32) : Int32 := (l.getLast?.map g).getD (-1)
def Rs.goOn (s : Rs) (m : Int32) : Rs := (Rs.s_mode (s) (m))
def Rs.add (s : Rs) (k pl sec m wd : Int32) : Rs := (Rs.s_draft (s) (Rs.nadd s.draft k pl sec m wd))
def Rs.addName (s : Rs) (t : Tok) (m : Int32) : Rs := (s.add 32 t.pl (-1) 0 t.wd).goOn m
def Rs.push (s : Rs) (t : Tok) (k : Int32) : Rs := (Rs.s_signs (Rs.s_rest (Rs.s_top (s) ((Fm.s_sg (Fm.s_wb (fm_0 k t.pl t.wd) (nI s.wait.length)) (s.signs)))) (s.top :: s.rest)) (0))
def Rs.pop (s : Rs) : Rs := (Rs.s_rest (Rs.s_top (Rs.s_signs (s) (s.top.sg)) (s.rest.headD s.top)) (s.rest.tail))
def Rs.goDeeper (s : Rs) : Option Rs := if s.levels < 60 then some (Rs.s_levels (s) (s.levels + 1)) else none
def Rs.endItem (s : Rs) : Rs := (Rs.s_mode (Rs.s_signs (Rs.s_levels (s) (s.levels - s.signs)) (0)) (34))
def Rs.addNothing (s : Rs) (pl : Int32) : Rs := ((Rs.s_top (s) ((Fm.s_ip (s.top) (s.top.ip + 1)))).add 5 pl (-1) 0 1).goOn 21
def Rs.becomeTargets (s : Rs) (pl : Int32) : Rs :=
  let p := s.pop
  Rs.addNothing (Rs.s_top (p) ((Fm.s_ip (Fm.s_sec (Fm.s_k (p.top) (10)) (s.top.pl)) (s.top.ip)))) pl
def Rs.canT (s : Rs) (t : Tok) : Int32 := if s.top.tg = 0 then 0 else if t.k = 2 ∨ t.k = 126 then 1 else 0
def Rs.settleStart (s : Rs) (t : Tok) : Rs :=
  (Rs.s_mode (Rs.s_top (s) ((Fm.s_tg (Fm.s_iw (Fm.s_ipl (s.top) (if s.top.k = 36 ∧ s.top.ip = 0 then t.pl else s.top.ipl)) (if s.top.k = 36 ∧ s.top.ip = 0 then t.wd else s.top.iw)) (s.canT t)))) (if t.k = 41 ∨ t.k = 93 ∨ t.k = 58 ∨ (s.canT t ≠ 0 ∧ t.k = 126) then s.mode else 31))
def Rs.isWordK (k : Int32) : Bool := decide (5 ≤ k ∧ k ≤ 18)
def Rs.settle2 (s : Rs) (t : Tok) : Rs :=
  if s.mode = 30 then s.settleStart t
  else if s.mode = 40 ∧ t.k ≠ 40 then s.endItem
  else if s.mode = 41 ∧ t.k ≠ 61 then (Rs.s_mode (s) (34))
  else if s.mode = 42 ∧ t.k ≠ 44 ∧ t.k ≠ 93 then (Rs.s_mode (Rs.s_top (s) ((Fm.s_tg (s.top) (0)))) (31))
  else if s.mode = 42 then
    (((Rs.s_wait (s) (s.wait.dropLast))).endItem).becomeTargets (Rs.lastW s.wait Wt.pl)
  else s
def Rs.settle (s : Rs) (t : Tok) : Rs := Rs.settle2 (if s.mode = 0 ∧ Rs.isWordK t.k = false then (Rs.s_mode (s.push t 20) (30)) else s) t
def Rs.endStatement (s : Rs) : Rs := ((Rs.s_top (s) ((Fm.s_ip (s.top) (s.top.ip + 1))))).goOn 0
def Rs.beginBlock (s : Rs) (t : Tok) : Rs := (Rs.s_top (s) ((Fm.s_ipl (Fm.s_ip (s.top) (0)) (t.pl))))
def Rs.endBlock (s : Rs) : Rs :=
  let s1 := s.add 3 s.top.ipl (-1) s.top.ip 0
  (Rs.s_top (s1) ((Fm.s_pa (s1.top) (s1.top.pa + 1))))
def Rs.isLoopK (k : Int32) : Bool := k == 12 || k == 13
def Rs.openBlocks (s : Rs) (t : Tok) (k m : Int32) : Option Rs := s.goDeeper.map fun s1 =>
  let s2 := s1.push t k
  (Rs.s_loops (s2) (s2.loops + (if Rs.isLoopK k = true then 1 else 0))).goOn m
def Rs.nextBlock (s : Rs) (t : Tok) (k : Int32) (lb : Int32) (m : Int32) : Option Rs :=
  if s.top.k ≠ k ∨ s.top.lb ≠ 0 then none
  else
    let s1 := s.endBlock
    some (((Rs.s_top (s1) ((Fm.s_lb (s1.top) (lb)))).beginBlock t).goOn m)
def Rs.endBlocksS (s : Rs) : Rs :=
  ((Rs.s_levels (Rs.s_loops (s.endBlock.add s.top.k s.top.pl (-1) (s.top.pa + 1) s.top.wd) (s.loops - (if Rs.isLoopK s.top.k = true then 1 else 0))) (s.levels - 1))).pop.endStatement
def Rs.endBlocks (s : Rs) : Option Rs :=
  if s.top.k = 0 ∨ (s.top.k = 14 ∧ s.top.lb = 0) then none else some s.endBlocksS
def Rs.addWord (s : Rs) (t : Tok) (k : Int32) : Rs := (s.add k t.pl (-1) 0 t.wd).goOn 1
def Rs.beginStatement (s : Rs) (t : Tok) : Option Rs :=
  if t.k = 5 then s.openBlocks t 11 2
  else if t.k = 6 then s.nextBlock t 11 0 2
  else if t.k = 7 then s.nextBlock t 11 1 0
  else if t.k = 8 then s.endBlocks
  else if t.k = 9 then s.openBlocks t 12 2
  else if t.k = 10 then s.openBlocks t 13 2
  else if t.k = 11 then (if s.loops ≤ 0 then none else some (s.addWord t 15))
  else if t.k = 12 then (if s.loops ≤ 0 then none else some (s.addWord t 16))
  else if t.k = 13 then some (s.addWord t 17)
  else if t.k = 14 then (if s.top.k = 0 then s.openBlocks t 1 10 else none)
  else if t.k = 15 then some ((s.push t 18).goOn 30)
  else if t.k = 16 then some ((s.push t 19).goOn 30)
  else if t.k = 17 then s.openBlocks t 14 0
  else if t.k = 18 then s.nextBlock t 14 1 0
  else none
def Rs.openHead (s : Rs) (t : Tok) : Rs := (s.push t 51).goOn (if s.top.k = 13 then 3 else 30)
def Rs.openHd (s : Rs) (t : Tok) : Option Rs := if s.levels < 60 then some (((Rs.s_levels (s) (s.levels + 1))).openHead t) else none
def Rs.standsInStatement (s : Rs) (t : Tok) : Option Rs :=
  if s.mode = 0 then s.beginStatement t
  else if s.mode = 1 then (if t.k = 59 then some s.endStatement else none)
  else if s.mode = 2 then (if t.k = 40 then s.openHd t else none)
  else if s.mode = 3 then (if t.k = 2 then some (s.addName t 4) else none)
  else if s.mode = 4 then (if t.k = 61 then some (s.goOn 30) else none)
  else none
def Rs.endHead (s : Rs) (t : Tok) : Rs :=
  let s1 := (Rs.s_levels (s) (s.levels - 1)).pop
  ((Rs.s_top (s1) ((Fm.s_pa (s1.top) (s1.top.pa + (if s1.top.k = 13 then 2 else 1))))).beginBlock t).goOn 0
def Rs.keepName (s : Rs) (t : Tok) (m : Int32) : Rs := ((Rs.s_top (s) ((Fm.s_wd (Fm.s_sec (s.top) (t.pl)) (t.wd))))).goOn m
def Rs.endNames (s : Rs) (pl : Int32) : Rs :=
  let s1 := s.add 2 pl (-1) s.top.ip 0
  (Rs.s_top (s1) ((Fm.s_ip (Fm.s_pa (s1.top) (s1.top.pa + 1)) (0))))
def Rs.nameFunction (s : Rs) (sm : Int32 → Int32 → Int32 → Bool) : Option Rs :=
  if s.funs.any (fun f => f.wd == s.top.wd && sm f.pl s.top.sec s.top.wd) = true then none
  else some ((Rs.s_funs (s) (Rs.tadd s.funs 10 s.top.sec s.top.wd)).endNames s.top.sec)
def Rs.openParameters (s : Rs) (t : Tok) : Rs := ((Rs.s_top (s) ((Fm.s_ipl (s.top) (t.pl))))).goOn 17
def Rs.endParameters (s : Rs) (t : Tok) : Rs := ((s.endNames s.top.ipl).beginBlock t).goOn 0
/-- whether one of the latest names of the list is the token's -/
def Rs.dif (s : Rs) (t : Tok) (sm : Int32 → Int32 → Int32 → Bool) : Bool := (s.draft.reverse.take s.top.ip.toNatClampNeg).any fun d => d.wd == t.wd && sm d.pl t.pl t.wd
def Rs.addDifferentName (s : Rs) (t : Tok) (sm : Int32 → Int32 → Int32 → Bool) (m : Int32) : Option Rs :=
  if t.k ≠ 2 then none
  else if s.dif t sm = true then none
  else some ((Rs.s_top (s) ((Fm.s_ip (s.top) (s.top.ip + 1)))).addName t m)
def Rs.addTarget (s : Rs) (t : Tok) : Rs := (Rs.s_top (s) ((Fm.s_ip (s.top) (s.top.ip + 1)))).addName t 21
def Rs.endTargets (s : Rs) : Rs := ((Rs.s_levels (s) (s.levels - 1)).add 2 s.top.sec (-1) s.top.ip 0).goOn 22
def Rs.takeSeveralEquals (s : Rs) (t : Tok) : Rs := ((Rs.s_top (s) ((Fm.s_wd (Fm.s_pl (s.top) (t.pl)) (t.wd))))).goOn 23
def Rs.openCall (s : Rs) (t : Tok) : Rs := ((Rs.s_top (s) ((Fm.s_sec (s.top) (t.pl))))).goOn 30
def Rs.endSeveral (s : Rs) : Rs := (s.add 10 s.top.pl s.top.sec 2 s.top.wd).pop.endStatement
def Rs.openCl (s : Rs) (t : Tok) : Option Rs := if s.levels < 60 then some (((Rs.s_levels (s) (s.levels + 1))).openCall t) else none
def Rs.roomTo (s : Rs) (m : Int32) : Option Rs := if s.top.ip < 8 then some (s.goOn m) else none
def Rs.standsInSeveral (s : Rs) (t : Tok) : Option Rs :=
  if s.mode = 20 then (if t.k = 126 then some (s.addNothing t.pl) else if t.k = 2 then some (s.addTarget t) else none)
  else if s.mode = 21 then (if t.k = 93 then some s.endTargets else if t.k = 44 then s.roomTo 20 else none)
  else if s.mode = 22 then (if t.k = 61 then some (s.takeSeveralEquals t) else none)
  else if s.mode = 23 then (if t.k = 2 then some ((s.push t 52).goOn 24) else none)
  else if s.mode = 24 then (if t.k = 40 then s.openCl t else none)
  else if s.mode = 25 then (if t.k = 59 then some s.endSeveral else none)
  else none
def Rs.firstAsName (s : Rs) (t : Tok) (sm : Int32 → Int32 → Int32 → Bool) : Option Rs := (s.nameFunction sm).map (fun s1 => s1.openParameters t)
def Rs.standsInFunctionHead (s : Rs) (t : Tok) (sm : Int32 → Int32 → Int32 → Bool) : Option Rs :=
  if s.mode = 10 then (if t.k = 91 then some (s.goOn 12) else if t.k = 2 then some (s.keepName t 11) else none)
  else if s.mode = 11 then (if t.k = 61 then some (((Rs.s_top (s.add 32 s.top.sec (-1) 0 s.top.wd) ((Fm.s_ip (s.top) (1))))).goOn 15) else if t.k = 40 then s.firstAsName t sm else none)
  else if s.mode = 12 then s.addDifferentName t sm 13
  else if s.mode = 13 then (if t.k = 93 then some (s.goOn 14) else if t.k = 44 then s.roomTo 12 else none)
  else if s.mode = 14 then (if t.k = 61 then some (s.goOn 15) else none)
  else if s.mode = 15 then (if t.k = 2 then (s.keepName t 16).nameFunction sm else none)
  else if s.mode = 16 then (if t.k = 40 then some (s.openParameters t) else none)
  else if s.mode = 17 then (if t.k = 41 then some (s.endParameters t) else s.addDifferentName t sm 19)
  else if s.mode = 18 then s.addDifferentName t sm 19
  else if s.mode = 19 then (if t.k = 41 then some (s.endParameters t) else if t.k = 44 then s.roomTo 18 else none)
  else none
def Rs.turnRowsToTargets (s : Rs) (t : Tok) : Rs :=
  let pl := Rs.lastN s.draft Nd.pl
  let d1 := s.draft.dropLast
  let m := Rs.lastN d1 Nd.pa
  ((Rs.s_draft (Rs.s_top (s) ((Fm.s_sec (Fm.s_k (s.top) (10)) (pl)))) (Rs.nadd d1.dropLast 2 pl (-1) m 0))).takeSeveralEquals t
def Rs.closeItem (s : Rs) : Rs := (Rs.s_levels (s) (s.levels - 1)).pop.endItem
def Rs.closeCall (s : Rs) : Rs := (s.add 33 s.top.pl s.top.sec s.top.pa s.top.wd).closeItem.goOn (if s.top.k = 52 then 25 else 34)
def Rs.endRow (s : Rs) : Rs :=
  let s1 := s.add 37 s.top.ipl (-1) (s.top.ip + 1) s.top.iw
  (Rs.s_top (s1) ((Fm.s_ip (Fm.s_pa (s1.top) (s1.top.pa + 1)) (0))))
def Rs.closeRows (s : Rs) : Rs := (s.add 36 s.top.pl (-1) s.top.pa s.top.wd).closeItem.goOn (if s.top.tg ≠ 0 then 41 else 34)
def Rs.isCallK (k : Int32) : Bool := k == 33 || k == 52
def Rs.takeSign (s : Rs) (t : Tok) : Option Rs := s.goDeeper.map fun s1 => (Rs.s_wait (Rs.s_signs (s1) (s1.signs + 1)) (Rs.tadd s1.wait 7 t.pl t.wd)).goOn 31
def Rs.addAll (s : Rs) (t : Tok) : Rs :=
  let s1 := s.add 34 t.pl (-1) 0 t.wd
  ((Rs.s_top (s1) ((Fm.s_lim (s1.top) (1))))).goOn 35
def Rs.takeAtStart (s : Rs) (t : Tok) : Option Rs :=
  if t.k = 41 then (if Rs.isCallK s.top.k = true then (if s.top.pa = 0 then some s.closeCall else none) else none)
  else if t.k = 58 then (if s.top.k = 33 then (if s.top.pa < 2 then some (s.addAll t) else none) else none)
  else if t.k = 93 then (if s.top.k = 36 then (if s.top.pa = 0 then (if s.top.ip = 0 then some s.closeRows else none) else none) else none)
  else if t.k = 126 then (match s.takeSign t with
    | some s1 => some (s1.goOn 42)
    | none => some (s.becomeTargets t.pl))
  else none
def Rs.addItem (s : Rs) (t : Tok) (k : Int32) : Rs := (s.add k t.pl (-1) 0 t.wd).endItem
/-- the nearest call's frame, where only groups and rows stand between: its arguments are limited now -/
def Rs.limit : Fm → List Fm → Bool × Fm × List Fm
  | f, [] => if f.k = 33 then (decide (f.pa < 2), f.s_lim 1, []) else (false, f, [])
  | f, g :: r => if f.k = 33 then (decide (f.pa < 2), f.s_lim 1, g :: r)
    else if f.k = 50 ∨ f.k = 36 then ((Rs.limit g r).1, f, (Rs.limit g r).2.1 :: (Rs.limit g r).2.2)
    else (false, f, g :: r)
def Rs.takePowerSign (s : Rs) (t : Tok) : Option Rs :=
  if s.mode = 32 ∧ t.k = 45 then some ((Rs.s_wait (s) (Rs.tadd s.wait 9 t.pl t.wd)).goOn 33) else none
def Rs.openItem (s : Rs) (t : Tok) (k : Int32) : Rs :=
  ((Rs.s_top (s.push t k) ((Fm.s_tg ((s.push t k).top) (if k = 36 ∧ s.top.k = 20 ∧ s.top.pl = t.pl then 1 else 0))))).goOn 30
def Rs.sign (s : Rs) (t : Tok) : Option Rs := if s.mode = 31 then s.takeSign t else s.takePowerSign t
def Rs.openI (s : Rs) (t : Tok) (k : Int32) : Option Rs := if s.levels < 60 then some (((Rs.s_levels (s) (s.levels + 1))).openItem t k) else none
def Rs.endArg (s : Rs) (t : Tok) : Option Rs := if (Rs.limit s.top s.rest).1 = true then some ((Rs.s_rest (Rs.s_top (s) ((Rs.limit s.top s.rest).2.1)) ((Rs.limit s.top s.rest).2.2)).addItem t 35) else none
def Rs.takeOperand (s : Rs) (t : Tok) : Option Rs :=
  if t.k = 2 then some (s.addName t 40)
  else if t.k = 3 then some (s.addItem t 30)
  else if t.k = 4 then some (s.addItem t 31)
  else if t.k = 8 then s.endArg t
  else if t.k = 40 then s.openI t 50
  else if t.k = 43 then s.sign t
  else if t.k = 45 then s.sign t
  else if t.k = 91 then s.openI t 36
  else if t.k = 126 then s.sign t
  else none
def Rs.openArguments (s : Rs) (t : Tok) : Rs :=
  let pl := Rs.lastN s.draft Nd.pl
  let wd := Rs.lastN s.draft Nd.wd
  let s1 := (Rs.s_top (Rs.s_draft (s) (s.draft.dropLast)) ((Fm.s_tg (s.top) (0)))).push t 33
  (Rs.s_top (s1) ((Fm.s_wd (Fm.s_pl (s1.top) (pl)) (wd)))).openCall t
def Rs.rankOf (k : Int32) : Int32 := F_Rk_of k
def Rs.wkind (r : Int32) : Int32 := if r = 7 ∨ r = 9 then 39 else if r = 4 then 41 else 40
def Rs.wparts (w : Wt) : Int32 := if w.rk = 7 ∨ w.rk = 9 then 1 else if w.sec = (-1) then 2 else 3
/-- ends what waits above wb and binds as tightly as r: waiting tokens last first -/
def Rs.endW (r wb : Int32) : List Wt → List Nd → List Wt × List Nd
  | [], d => ([], d)
  | w :: ws, d => if wb < nI (w :: ws).length ∧ r ≤ w.rk then Rs.endW r wb ws (Rs.nadd d (Rs.wkind w.rk) w.pl w.sec (Rs.wparts w) w.wd) else (w :: ws, d)
def Rs.endWaiting (s : Rs) (r : Int32) : Rs :=
  let z := Rs.endW r s.top.wb s.wait.reverse s.draft
  (Rs.s_draft (Rs.s_wait (s) (z.1.reverse)) (z.2))
def Rs.takeOperation (s : Rs) (t : Tok) (r : Int32) : Rs := ((Rs.s_wait (s) (Rs.tadd s.wait r t.pl t.wd))).goOn (if r = 8 then 32 else 31)
/-- the last one gets its second place -/
def Rs.giveSec (l : List Wt) (p : Int32) : List Wt := l.dropLast ++ (l.getLast?.map (fun w => w.s_sec p)).toList
def Rs.takeColon (s : Rs) (t : Tok) : Option Rs :=
  if nI s.wait.length = s.top.wb ∨ Rs.lastW s.wait Wt.rk ≠ 4 then some (s.takeOperation t 4)
  else if Rs.lastW s.wait Wt.sec ≠ -1 then none
  else some ((Rs.s_wait (s) (Rs.giveSec s.wait t.pl)).goOn 31)
def Rs.takeComma (s : Rs) : Option Rs :=
  if s.top.k = 36 then some ((Rs.s_top (s) ((Fm.s_tg (Fm.s_ip (s.top) (s.top.ip + 1)) (if s.top.tg ≠ 0 ∧ s.top.ip + 1 < 8 then 1 else 0)))).goOn 30)
  else if Rs.isCallK s.top.k = false ∧ s.top.k ≠ 18 ∧ s.top.k ≠ 19 then none
  else if s.top.pa + 1 < (if s.top.lim ≠ 0 then 2 else 8) then some ((Rs.s_top (s) ((Fm.s_pa (s.top) (s.top.pa + 1)))).goOn 30) else none
def Rs.endPlain (s : Rs) (m : Int32) : Rs := (s.add s.top.k s.top.pl s.top.sec m s.top.wd).pop.endStatement
def Rs.takeSemicolon (s : Rs) : Option Rs :=
  if s.top.k = 18 then some (s.endPlain (s.top.pa + 1))
  else if s.top.k = 19 then some (s.endPlain (s.top.pa + 1))
  else if s.top.k = 20 then some (s.endPlain 1)
  else if s.top.k = 21 then some (s.endPlain 2)
  else if s.top.k = 36 then some (s.endRow.goOn 30)
  else none
def Rs.canGive (s : Rs) : Bool :=
  if Rs.lastN s.draft Nd.k = 32 then true else if Rs.lastN s.draft Nd.k = 33 then (if Rs.lastN s.draft Nd.pa < 1 then false else if 2 < Rs.lastN s.draft Nd.pa then false else true) else false
def Rs.takeEquals (s : Rs) (t : Tok) : Option Rs :=
  if s.top.k = 20 then (if s.canGive = true then (if Rs.lastN s.draft Nd.pl = s.top.pl then some ((Rs.s_top (s) ((Fm.s_wd (Fm.s_pl (Fm.s_sec (Fm.s_k (s.top) (21)) (s.top.pl)) (t.pl)) (t.wd)))).goOn 30) else none) else none) else none
def Rs.closeBracket (s : Rs) (t : Tok) : Option Rs :=
  if s.top.k = 33 then some ((Rs.s_top (s) ((Fm.s_pa (s.top) (s.top.pa + 1)))).closeCall)
  else if s.top.k = 50 then some s.closeItem
  else if s.top.k = 51 then some (s.endHead t)
  else if s.top.k = 52 then some ((Rs.s_top (s) ((Fm.s_pa (s.top) (s.top.pa + 1)))).closeCall)
  else none
def Rs.afterW (s : Rs) (t : Tok) (r : Int32) : Option Rs :=
  if t.k = 41 then s.closeBracket t
  else if t.k = 44 then s.takeComma
  else if t.k = 58 then s.takeColon t
  else if t.k = 59 then s.takeSemicolon
  else if t.k = 61 then s.takeEquals t
  else if t.k = 93 then (if s.top.k = 36 then some s.endRow.closeRows else none)
  else if r = 0 then none else some (s.takeOperation t r)
def Rs.operator2 (s : Rs) (t : Tok) : Option Rs :=
  if t.k = 39 then some (s.add 38 t.pl (-1) 1 t.wd)
  else (s.endWaiting (if Rs.rankOf t.k = 4 then 5 else Rs.rankOf t.k)).afterW t (Rs.rankOf t.k)
def Rs.takeOperator (s : Rs) (t : Tok) : Option Rs :=
  if t.k = 44 then s.operator2 t else if t.k = 93 then s.operator2 t else ((Rs.s_top (s) ((Fm.s_tg (s.top) (0))))).operator2 t
def Rs.openArgs (s : Rs) (t : Tok) : Option Rs := if s.levels < 60 then some (((Rs.s_levels (s) (s.levels + 1))).openArguments t) else none
def Rs.standsInExpression (s : Rs) (t : Tok) : Option Rs :=
  if s.mode = 30 then s.takeAtStart t
  else if s.mode = 31 then s.takeOperand t
  else if s.mode = 32 then s.takeOperand t
  else if s.mode = 33 then s.takeOperand t
  else if s.mode = 34 then s.takeOperator t
  else if s.mode = 35 then (if t.k = 44 then s.takeOperator t else if t.k = 41 then s.takeOperator t else none)
  else if s.mode = 36 then none
  else if s.mode = 37 then none
  else if s.mode = 38 then none
  else if s.mode = 39 then none
  else if s.mode = 40 then s.openArgs t
  else if s.mode = 41 then some (s.turnRowsToTargets t)
  else none
def Rs.stands (s : Rs) (t : Tok) (sm : Int32 → Int32 → Int32 → Bool) : Option Rs :=
  if 30 ≤ s.mode then s.standsInExpression t else if 20 ≤ s.mode then s.standsInSeveral t
  else if 10 ≤ s.mode then s.standsInFunctionHead t sm else s.standsInStatement t
def Rs.step (s : Rs) (t : Tok) (sm : Int32 → Int32 → Int32 → Bool) : Option Rs := (s.settle t).stands t sm
end

section
/-! the reader's lists as the class holds them -/
theorem bw_some {α β : Type} {a : α} {k s : Nat} {f : α → Option (β × Nat × Nat)} : bw (some (a, k, s)) f = al k s (f a) := rfl
theorem al_some {α : Type} {a : α} {k s k' s' : Nat} : al k s (some (a, k', s')) = some (a, k + k', s + s') := rfl
theorem grd_pos {α : Type} {c : Prop} [Decidable c] {a : Option α} (h : c) : grd c a = a := if_pos h
theorem i32_cl (m : Int32) (h : 0 ≤ m) : m = nI m.toNatClampNeg := by
  apply Int32.toInt_inj.mp
  have h1 : (0 : Int) ≤ m.toInt := Int32.le_iff_toInt_le.mp h
  have h2 := m.toInt_lt
  unfold nI
  rw [Int32.toInt_ofNat_of_lt (by unfold Int32.toNatClampNeg; omega)]
  unfold Int32.toNatClampNeg
  omega
theorem i32_nn (m : Int32) (h : ¬ 0 ≤ m) : m.toNatClampNeg = 0 ∧ m < 0 := by
  have h1 : ¬ (0 : Int) ≤ m.toInt := fun e => h (Int32.le_iff_toInt_le.mpr e)
  refine ⟨by unfold Int32.toNatClampNeg; omega, Int32.lt_iff_toInt_lt.mpr ?_⟩
  have : (0 : Int32).toInt = 0 := rfl
  omega
theorem Nd_szAt {N : Nat} {b : Nat → Int32} {l : List Nd} (h : Tab 7 N b (l.map Nd.row)) (hN : N ≤ 2 ^ 20) (hl : l.length < 2 ^ 20) (f : Int32) : F_Nd_get f 5 (nI l.length) N b = some (Rs.szAt l f) := by
  unfold Rs.szAt
  by_cases c : f < 0
  · rw [if_pos c, Nd_get_neg c]
  · rw [if_neg c]
    have hf : 0 ≤ f := by
      rcases Int32.lt_or_le f 0 with h | h
      · exact absurd h c
      · exact h
    have e := i32_cl f hf
    by_cases d : nI l.length ≤ f
    · rw [if_pos d]
      unfold F_Nd_get
      rw [if_neg c, if_pos d]
    · rw [if_neg d]
      have h3 : f.toNatClampNeg < l.length := by
        have h4 := f.toInt_lt
        have h6 := Int32.le_iff_toInt_le.mp hf
        have h7 : (0 : Int32).toInt = 0 := rfl
        have h5 : ¬ (nI l.length).toInt ≤ f.toInt := fun x => d (Int32.le_iff_toInt_le.mpr x)
        unfold nI at h5
        rw [Int32.toInt_ofNat_of_lt (by omega)] at h5
        unfold Int32.toNatClampNeg
        omega
      have := Nd_get h hN (i := f.toNatClampNeg) (j := 5) (by rw [List.length_map]; exact h3) (by omega)
      simp only [List.length_map, List.getElem_map] at this
      rw [← e] at this
      rw [show (5 : Int32) = nI 5 from rfl, this, List.getElem?_eq_getElem h3]
      rfl
theorem Nd_add65T {N : Nat} {b : Nat → Int32} {l : List Nd} (h : Tab 7 N b (l.map Nd.row)) (hN : (l.length + 1) * 7 ≤ N) (hN2 : N ≤ 2 ^ 20) {k p s w m : Int32} (hm : m.toNatClampNeg < 2 ^ 18) : ∀ (fu j : Nat) (f : Int32), m.toNatClampNeg - j < fu → j ≤ m.toNatClampNeg →
    ∃ b', F_Nd_add_65 k p s m w (nI l.length) fu (nI j) f N b = some ((nI (l.length + 1), N, b'), 0, 0) ∧ Tab 7 N b' ((l ++ [((k, p, s, m, w, nI l.length - Rs.bkI l (m.toNatClampNeg - j) f + 1) : Nd)]).map Nd.row)
  | 0, j, f, h0, _ => by omega
  | fu + 1, j, f, h0, hj => by
    unfold F_Nd_add_65
    by_cases c : j < m.toNatClampNeg
    · have hm0 : 0 ≤ m := by
        rcases Int32.lt_or_le m 0 with h | h
        · have := (i32_nn m (fun x => by
            have h1 := Int32.le_iff_toInt_le.mp x
            have h2 := Int32.lt_iff_toInt_lt.mp h
            omega)).1
          omega
        · exact h
      have em := i32_cl m hm0
      rw [if_neg (show ¬ m ≤ nI j by rw [em]; simp (disch := omega) only [lit_nI, nI_eq', nI_add', nI_le', nI_lt', nI_nn, nI_ge0, nI_clamp', nI_ne1, nI_ne2, nI_ne3, m1_lt, m1_le, m1_ge, m1_gt, if_false, if_true, Option.bind_some, nm_app]; omega)]
      rw [Nd_szAt h hN2 (by omega), Option.bind_some, show nI j + 1 = nI (j + 1) from nI_add' _ 1]
      obtain ⟨b', e1, e2⟩ := Nd_add65T h hN hN2 hm fu (j + 1) (f - Rs.szAt l (f - 1)) (by omega) (by omega)
      refine ⟨b', e1, ?_⟩
      rw [show m.toNatClampNeg - j = (m.toNatClampNeg - (j + 1)) + 1 by omega, Rs.bkI]
      exact e2
    · have e : m.toNatClampNeg - j = 0 := by omega
      have hmj : m ≤ nI j := by
        by_cases h0 : 0 ≤ m
        · rw [i32_cl m h0]; simp (disch := omega) only [lit_nI, nI_eq', nI_add', nI_le', nI_lt', nI_nn, nI_ge0, nI_clamp', nI_ne1, nI_ne2, nI_ne3, m1_lt, m1_le, m1_ge, m1_gt, if_false, if_true, Option.bind_some, nm_app]; omega
        · have h1 := (i32_nn m h0).2
          have h2 := Int32.lt_iff_toInt_lt.mp h1
          refine Int32.le_iff_toInt_le.mpr ?_
          unfold nI
          rw [Int32.toInt_ofNat_of_lt (by omega)]
          have : (0 : Int32).toInt = 0 := rfl
          omega
      rw [if_pos hmj, e, Rs.bkI]
      have hc : ∀ q, q < 7 → nI l.length * 7 + nI q = nI (l.length * 7 + q) := by
        intro q _
        rw [show (7 : Int32) = nI 7 from rfl, nI_mul', nI_add']
      rw [show nI l.length * 7 + 0 = nI (l.length * 7 + 0) from hc 0 (by omega), show nI l.length * 7 + 1 = nI (l.length * 7 + 1) from hc 1 (by omega), show nI l.length * 7 + 2 = nI (l.length * 7 + 2) from hc 2 (by omega), show nI l.length * 7 + 3 = nI (l.length * 7 + 3) from hc 3 (by omega), show nI l.length * 7 + 4 = nI (l.length * 7 + 4) from hc 4 (by omega), show nI l.length * 7 + 5 = nI (l.length * 7 + 5) from hc 5 (by omega), show nI l.length * 7 + 6 = nI (l.length * 7 + 6) from hc 6 (by omega)]
      rw [inb_ok (by omega) (by omega), inb_ok (by omega) (by omega), inb_ok (by omega) (by omega), inb_ok (by omega) (by omega), inb_ok (by omega) (by omega), inb_ok (by omega) (by omega), inb_ok (by omega) (by omega)]
      rw [nI_clamp' (by omega), nI_clamp' (by omega), nI_clamp' (by omega), nI_clamp' (by omega), nI_clamp' (by omega), nI_clamp' (by omega), nI_clamp' (by omega)]
      rw [show nI l.length + 1 = nI (l.length + 1) from nI_add' _ 1]
      rw [List.map_append]
      have hlen : (l.map Nd.row).length = l.length := List.length_map ..
      refine ⟨_, rfl, h.push (by rw [hlen]; exact hN) ?_ ?_⟩
      · intro q hq
        rw [hlen] at hq
        rw [upd_ne (by omega), upd_ne (by omega), upd_ne (by omega), upd_ne (by omega), upd_ne (by omega), upd_ne (by omega), upd_ne (by omega)]
      · intro q hq
        rw [hlen]
        match q, hq with
        | 0, _ => rw [upd_ne (by omega), upd_ne (by omega), upd_ne (by omega), upd_ne (by omega), upd_ne (by omega), upd_ne (by omega), upd_self]; rfl
        | 1, _ => rw [upd_ne (by omega), upd_ne (by omega), upd_ne (by omega), upd_ne (by omega), upd_ne (by omega), upd_self]; rfl
        | 2, _ => rw [upd_ne (by omega), upd_ne (by omega), upd_ne (by omega), upd_ne (by omega), upd_self]; rfl
        | 3, _ => rw [upd_ne (by omega), upd_ne (by omega), upd_ne (by omega), upd_self]; rfl
        | 4, _ => rw [upd_ne (by omega), upd_ne (by omega), upd_self]; rfl
        | 5, _ => rw [upd_ne (by omega), upd_self]; rfl
        | 6, _ => rw [upd_self]; rfl
theorem Nd_addT {N : Nat} {b : Nat → Int32} {l : List Nd} (h : NdV N b (l.map Nd.row)) (hl : l.length ≤ 16385) {k p s w m : Int32} (hm : m.toNatClampNeg < 2 ^ 18) : ∃ N' b' c sl, F_Nd_add k p s m w (nI l.length) N b = some ((nI (Rs.nadd l k p s m w).length, N', b'), c, sl) ∧ NdV N' b' ((Rs.nadd l k p s m w).map Nd.row) ∧ GrowN N N' c sl ∧ (Rs.nadd l k p s m w).length ≤ 16385 := by
  have h1 := h.cap.le
  have h2 := h.tab.le
  rw [List.length_map] at h2
  unfold F_Nd_add Rs.nadd
  by_cases hl2 : ¬ l.length < 16385
  · rw [if_neg (by simp (disch := omega) only [lit_nI, nI_eq', nI_add', nI_le', nI_lt', nI_nn, nI_ge0, nI_clamp', nI_ne1, nI_ne2, nI_ne3, m1_lt, m1_le, m1_ge, m1_gt, if_false, if_true, Option.bind_some, nm_app]; exact hl2), if_neg hl2]
    exact ⟨N, b, 0, 0, rfl, h, GrowN.rfl, hl⟩
  have hl2 : l.length < 16385 := by omega
  rw [if_pos (by simp (disch := omega) only [lit_nI, nI_eq', nI_add', nI_le', nI_lt', nI_nn, nI_ge0, nI_clamp', nI_ne1, nI_ne2, nI_ne3, m1_lt, m1_le, m1_ge, m1_gt, if_false, if_true, Option.bind_some, nm_app]; exact hl2), if_pos hl2]
  have e7 : nI l.length * 7 + 7 = nI ((l.length + 1) * 7) := by
    rw [show (7 : Int32) = nI 7 from rfl, nI_mul', nI_add']; congr 1; omega
  rw [e7, List.length_append, List.length_singleton]
  by_cases c : (l.length + 1) * 7 ≤ N
  · rw [if_pos (by simp (disch := omega) only [lit_nI, nI_eq', nI_add', nI_le', nI_lt', nI_nn, nI_ge0, nI_clamp', nI_ne1, nI_ne2, nI_ne3, m1_lt, m1_le, m1_ge, m1_gt, if_false, if_true, Option.bind_some, nm_app]; exact c)]
    obtain ⟨b', e1, e2⟩ := Nd_add65T h.tab c (by omega) (k := k) (p := p) (s := s) (w := w) (m := m) hm FU 0 (nI l.length) (by unfold FU; omega) (by omega)
    exact ⟨N, b', 0, 0, e1, ⟨e2, h.cap⟩, GrowN.rfl, by omega⟩
  · rw [if_neg (by simp (disch := omega) only [lit_nI, nI_eq', nI_add', nI_le', nI_lt', nI_nn, nI_ge0, nI_clamp', nI_ne1, nI_ne2, nI_ne3, m1_lt, m1_le, m1_ge, m1_gt, if_false, if_true, Option.bind_some, nm_app]; exact c)]
    have hN : N ≠ 114695 := by omega
    obtain ⟨j, j1, j2⟩ : ∃ j, j ≤ 9 ∧ N = 224 * 2 ^ j := by
      rcases h.cap with h | h
      · exact absurd h hN
      · exact h
    have e2 : (2 : Int32) * nI N = nI (2 * N) := by rw [show (2 : Int32) = nI 2 from rfl, nI_mul']
    rw [e2, show (114695 : Int32) = nI 114695 from rfl, mn_nat (by omega) (by omega), mn_nat (by omega) (by omega), nI_clamp' (by omega), nI_clamp' (by omega), Nat.min_eq_left (show N ≤ min (2 * N) 114695 by omega), show Int32.toNatClampNeg 0 = 0 by decide]
    have hcap : ndCap (min (2 * N) 114695) := by
      by_cases c3 : j = 9
      · subst c3
        exact Or.inl (by omega)
      · refine Or.inr ⟨j + 1, by omega, ?_⟩
        have := p2_9 (j + 1) (by omega)
        rw [Nat.pow_succ] at *
        omega
    have hgt : (l.length + 1) * 7 ≤ min (2 * N) 114695 := by omega
    obtain ⟨b', e1, e3⟩ := Nd_add65T (h.tab.grow (show N ≤ min (2 * N) 114695 by omega)) hgt (by omega) (k := k) (p := p) (s := s) (w := w) (m := m) hm FU 0 (nI l.length) (by unfold FU; omega) (by omega)
    refine ⟨min (2 * N) 114695, b', 1, min (2 * N) 114695, bw_ok (r' := (nI (l.length + 1), min (2 * N) 114695, b')) (c' := 0) (s' := 0) (copyI (show N < min (2 * N) 114695 by omega) (by omega)) e1, ⟨e3, hcap⟩, ?_, by omega⟩
    by_cases c3 : j = 9
    · subst c3
      have : N = 114688 := by omega
      subst this
      exact ⟨by decide, by decide⟩
    · have := p2_9 (j + 1) (by omega)
      rw [Nat.pow_succ] at this
      have e5 : min (2 * N) 114695 = 2 * N := by omega
      have hne : 2 * N ≠ 114695 := by omega
      rw [e5]
      exact ⟨by unfold ndC; rw [if_neg hN, if_neg hne, Nat.log2_two_mul (by omega)]; omega, by unfold ndS; rw [if_neg hN, if_neg hne]; omega⟩
end

section
/-! the class's reader does the machine's steps: what each part of a step does -/
/-- what the class holds beside the scalars: frames made, the arrays -/
abbrev Rw : Type := Nat × (Nat → FrC) × Nat × (Nat → Int32) × Nat × (Nat → Int32) × Nat × (Nat → Int32)
abbrev Rw.fn (z : Rw) : Nat := z.1
abbrev Rw.cf (z : Rw) : Nat → FrC := z.2.1
abbrev Rw.nD (z : Rw) : Nat := z.2.2.1
abbrev Rw.bD (z : Rw) : Nat → Int32 := z.2.2.2.1
abbrev Rw.nW (z : Rw) : Nat := z.2.2.2.2.1
abbrev Rw.bW (z : Rw) : Nat → Int32 := z.2.2.2.2.2.1
abbrev Rw.nF (z : Rw) : Nat := z.2.2.2.2.2.2.1
abbrev Rw.bF (z : Rw) : Nat → Int32 := z.2.2.2.2.2.2.2
abbrev Rw.s_fn (z : Rw) (v : Nat) : Rw := (v, z.2.1, z.2.2.1, z.2.2.2.1, z.2.2.2.2.1, z.2.2.2.2.2.1, z.2.2.2.2.2.2.1, z.2.2.2.2.2.2.2)
abbrev Rw.s_cf (z : Rw) (v : Nat → FrC) : Rw := (z.1, v, z.2.2.1, z.2.2.2.1, z.2.2.2.2.1, z.2.2.2.2.2.1, z.2.2.2.2.2.2.1, z.2.2.2.2.2.2.2)
abbrev Rw.s_nD (z : Rw) (v : Nat) : Rw := (z.1, z.2.1, v, z.2.2.2.1, z.2.2.2.2.1, z.2.2.2.2.2.1, z.2.2.2.2.2.2.1, z.2.2.2.2.2.2.2)
abbrev Rw.s_bD (z : Rw) (v : Nat → Int32) : Rw := (z.1, z.2.1, z.2.2.1, v, z.2.2.2.2.1, z.2.2.2.2.2.1, z.2.2.2.2.2.2.1, z.2.2.2.2.2.2.2)
abbrev Rw.s_nW (z : Rw) (v : Nat) : Rw := (z.1, z.2.1, z.2.2.1, z.2.2.2.1, v, z.2.2.2.2.2.1, z.2.2.2.2.2.2.1, z.2.2.2.2.2.2.2)
abbrev Rw.s_bW (z : Rw) (v : Nat → Int32) : Rw := (z.1, z.2.1, z.2.2.1, z.2.2.2.1, z.2.2.2.2.1, v, z.2.2.2.2.2.2.1, z.2.2.2.2.2.2.2)
abbrev Rw.s_nF (z : Rw) (v : Nat) : Rw := (z.1, z.2.1, z.2.2.1, z.2.2.2.1, z.2.2.2.2.1, z.2.2.2.2.2.1, v, z.2.2.2.2.2.2.2)
abbrev Rw.s_bF (z : Rw) (v : Nat → Int32) : Rw := (z.1, z.2.1, z.2.2.1, z.2.2.2.1, z.2.2.2.2.1, z.2.2.2.2.2.1, z.2.2.2.2.2.2.1, v)
def phC (c : Rw) : Nat := c.fn + ndC c.nD + Nat.log2 c.nW + Nat.log2 c.nF
def phS (c : Rw) : Nat := 15 * c.fn + ndS c.nD + 2 * c.nW + 2 * c.nF
def Gw (c c' : Rw) (k sl : Nat) : Prop := k + phC c = phC c' ∧ sl + phS c = phS c'
theorem Gw.trans {a b c : Rw} {k sl k' sl' : Nat} (h1 : Gw a b k sl) (h2 : Gw b c k' sl') : Gw a c (k + k') (sl + sl') :=
  ⟨by have := h1.1; have := h2.1; omega, by have := h1.2; have := h2.2; omega⟩
theorem Gw.rfl {c c' : Rw} (h1 : c.fn = c'.fn) (h2 : c.nD = c'.nD) (h3 : c.nW = c'.nW) (h4 : c.nF = c'.nF) : Gw c c' 0 0 := by
  unfold Gw phC phS
  rw [h1, h2, h3, h4]
  exact ⟨Nat.zero_add _, Nat.zero_add _⟩
def RV (s : Rs) (c : Rw) : Prop := s.rest.length < c.fn ∧ (∀ i, i < s.rest.length → s.rest[s.rest.length - 1 - i]? = some (c.cf i)) ∧ (NdV c.nD c.bD (s.draft.map Nd.row) ∧ s.draft.length ≤ 16385) ∧ (TkV c.nW c.bW (s.wait.map Wt.row) ∧ s.wait.length ≤ 16384) ∧ (TkV c.nF c.bF (s.funs.map Wt.row) ∧ s.funs.length ≤ 16384)
def RVd (c : Rw) (d : Nat) : Prop := d < c.fn ∧ ndCap c.nD ∧ (∃ j, j ≤ 10 ∧ c.nW = 64 * 2 ^ j) ∧ (∃ j, j ≤ 10 ∧ c.nF = 64 * 2 ^ j)
theorem RV.dead {s : Rs} {c : Rw} (h : RV s c) : RVd c s.rest.length := ⟨h.1, h.2.2.1.1.cap, h.2.2.2.1.1.cap, h.2.2.2.2.1.cap⟩
/-- only the lists count -/
theorem RV.cg {s s' : Rs} {c : Rw} (h : RV s c) (r : List Fm) (d : List Nd) (w f : List Wt) (h1 : s.rest = r) (h1' : s'.rest = r) (h2 : s.draft = d) (h2' : s'.draft = d) (h3 : s.wait = w) (h3' : s'.wait = w) (h4 : s.funs = f) (h4' : s'.funs = f) : RV s' c := by
  unfold RV at h ⊢
  rw [h1, h2, h3, h4] at h
  rw [h1', h2', h3', h4']
  exact h
theorem Tk_addT {N : Nat} {b : Nat → Int32} {l : List Wt} (h : TkV N b (l.map Wt.row)) (hl : l.length ≤ 16384) {k p w : Int32} : ∃ N' b' c sl, F_Tk_add k p w (nI l.length) N b = some ((nI (Rs.tadd l k p w).length, N', b'), c, sl) ∧ TkV N' b' ((Rs.tadd l k p w).map Wt.row) ∧ Grow N N' c sl ∧ (Rs.tadd l k p w).length ≤ 16384 := by
  unfold Rs.tadd
  by_cases c : l.length < 16384
  · rw [if_pos c]
    obtain ⟨N', b', k', sl, e1, e2, e3⟩ := Tk_add h (by rw [List.length_map]; exact c) (r := k) (p := p) (w := w)
    rw [List.length_map] at e1
    refine ⟨N', b', k', sl, ?_, ?_, e3, ?_⟩
    · rw [e1, List.length_append, List.length_singleton]
    · rw [List.map_append]; exact e2
    · rw [List.length_append, List.length_singleton]; omega
  · rw [if_neg c]
    refine ⟨N, b, 0, 0, ?_, h, Grow.rfl, hl⟩
    unfold F_Tk_add
    rw [if_neg (by simp (disch := omega) only [lit_nI, nI_eq', nI_add', nI_le', nI_lt', nI_nn, nI_ge0, nI_clamp', nI_ne1, nI_ne2, nI_ne3, m1_lt, m1_le, m1_ge, m1_gt, if_false, if_true, Option.bind_some, nm_app]; exact c)]
theorem lastN_len {l : List Nd} {g : Nd → Int32} (h : 0 < l.length) : Rs.lastN l g = g (l[l.length - 1]'(by omega)) := by
  unfold Rs.lastN
  rw [List.getLast?_eq_getElem?, List.getElem?_eq_getElem (by omega)]; rfl
theorem lastW_len {l : List Wt} {g : Wt → Int32} (h : 0 < l.length) : Rs.lastW l g = g (l[l.length - 1]'(by omega)) := by
  unfold Rs.lastW
  rw [List.getLast?_eq_getElem?, List.getElem?_eq_getElem (by omega)]; rfl
theorem Nd_lastT {N : Nat} {b : Nat → Int32} {l : List Nd} (h : NdV N b (l.map Nd.row)) {j : Nat} (hj : j < 7) {g : Nd → Int32} (hg : ∀ d, Nd.row d j = g d) : F_Nd_last (nI j) (nI l.length) N b = some (Rs.lastN l g) := by
  have h1 := h.cap.le
  by_cases c : 0 < l.length
  · have := Nd_last h.tab (by omega) (by rw [List.length_map]; exact c) hj
    simp only [List.length_map, List.getElem_map] at this
    rw [this, lastN_len c, hg]
  · have : l = [] := List.length_eq_zero_iff.mp (by omega)
    subst this
    unfold F_Nd_last
    rw [Nd_get_neg (show nI ([] : List Nd).length - 1 < 0 by decide)]; rfl
theorem Tk_lastT {N : Nat} {b : Nat → Int32} {l : List Wt} (h : TkV N b (l.map Wt.row)) {j : Nat} (hj : j < 4) {g : Wt → Int32} (hg : ∀ d, Wt.row d j = g d) : F_Tk_last (nI j) (nI l.length) N b = some (Rs.lastW l g) := by
  by_cases c : 0 < l.length
  · have := Tk_last h (by rw [List.length_map]; exact c) hj
    simp only [List.length_map, List.getElem_map] at this
    rw [this, lastW_len c, hg]
  · have : l = [] := List.length_eq_zero_iff.mp (by omega)
    subst this
    exact Tk_last0
/-- a node more -/
theorem a_add {s : Rs} {c : Rw} (h : RV s c) {k p q m w : Int32} (hm : m.toNatClampNeg < 2 ^ 18) : ∃ nD' bD' k_ sl_, F_Nd_add k p q m w (nI s.draft.length) c.nD c.bD = some ((nI (s.add k p q m w).draft.length, nD', bD'), k_, sl_) ∧ RV (s.add k p q m w) ((c.s_nD nD').s_bD bD') ∧ Gw c ((c.s_nD nD').s_bD bD') k_ sl_ := by
  obtain ⟨N', b', k', sl, e1, e2, e3, e4⟩ := Nd_addT h.2.2.1.1 h.2.2.1.2 (k := k) (p := p) (s := q) (w := w) hm
  exact ⟨N', b', k', sl, e1, ⟨h.1, h.2.1, ⟨e2, e4⟩, h.2.2.2⟩, ⟨show k' + (c.fn + ndC c.nD + Nat.log2 c.nW + Nat.log2 c.nF) = c.fn + ndC N' + Nat.log2 c.nW + Nat.log2 c.nF by have := e3.cells; omega, show sl + (15 * c.fn + ndS c.nD + 2 * c.nW + 2 * c.nF) = 15 * c.fn + ndS N' + 2 * c.nW + 2 * c.nF by have := e3.slots; omega⟩⟩
theorem a_leaf {s : Rs} {c : Rw} (h : RV s c) {k p w : Int32} : ∃ nD' bD' k_ sl_, F_Nd_addLeaf k p w (nI s.draft.length) c.nD c.bD = some ((nI (s.add k p (-1) 0 w).draft.length, nD', bD'), k_, sl_) ∧ RV (s.add k p (-1) 0 w) ((c.s_nD nD').s_bD bD') ∧ Gw c ((c.s_nD nD').s_bD bD') k_ sl_ := by
  obtain ⟨N', b', k', sl, e1, e2, e3⟩ := a_add h (k := k) (p := p) (q := -1) (m := 0) (w := w) (by decide)
  refine ⟨N', b', k', sl, ?_, e2, e3⟩
  unfold F_Nd_addLeaf
  rw [e1]; rfl
/-- a token that waits more -/
theorem a_tadd {s : Rs} {c : Rw} (h : RV s c) {k p w : Int32} : ∃ nW' bW' k_ sl_, F_Tk_add k p w (nI s.wait.length) c.nW c.bW = some ((nI (Rs.tadd s.wait k p w).length, nW', bW'), k_, sl_) ∧ RV (s.s_wait (Rs.tadd s.wait k p w)) ((c.s_nW nW').s_bW bW') ∧ Gw c ((c.s_nW nW').s_bW bW') k_ sl_ := by
  obtain ⟨N', b', k', sl, e1, e2, e3, e4⟩ := Tk_addT h.2.2.2.1.1 h.2.2.2.1.2 (k := k) (p := p) (w := w)
  exact ⟨N', b', k', sl, e1, ⟨h.1, h.2.1, h.2.2.1, ⟨e2, e4⟩, h.2.2.2.2⟩, ⟨show k' + (c.fn + ndC c.nD + Nat.log2 c.nW + Nat.log2 c.nF) = c.fn + ndC c.nD + Nat.log2 N' + Nat.log2 c.nF by have := e3.cells; omega, show sl + (15 * c.fn + ndS c.nD + 2 * c.nW + 2 * c.nF) = 15 * c.fn + ndS c.nD + 2 * N' + 2 * c.nF by have := e3.slots; omega⟩⟩
theorem a_fadd {s : Rs} {c : Rw} (h : RV s c) {k p w : Int32} : ∃ nF' bF' k_ sl_, F_Tk_add k p w (nI s.funs.length) c.nF c.bF = some ((nI (Rs.tadd s.funs k p w).length, nF', bF'), k_, sl_) ∧ RV (s.s_funs (Rs.tadd s.funs k p w)) ((c.s_nF nF').s_bF bF') ∧ Gw c ((c.s_nF nF').s_bF bF') k_ sl_ := by
  obtain ⟨N', b', k', sl, e1, e2, e3, e4⟩ := Tk_addT h.2.2.2.2.1 h.2.2.2.2.2 (k := k) (p := p) (w := w)
  exact ⟨N', b', k', sl, e1, ⟨h.1, h.2.1, h.2.2.1, h.2.2.2.1, ⟨e2, e4⟩⟩, ⟨show k' + (c.fn + ndC c.nD + Nat.log2 c.nW + Nat.log2 c.nF) = c.fn + ndC c.nD + Nat.log2 c.nW + Nat.log2 N' by have := e3.cells; omega, show sl + (15 * c.fn + ndS c.nD + 2 * c.nW + 2 * c.nF) = 15 * c.fn + ndS c.nD + 2 * c.nW + 2 * N' by have := e3.slots; omega⟩⟩
theorem up_ne {α : Type} {f : Nat → α} {k i : Nat} {v : α} (h : i ≠ k) : va_up f k v i = f i := if_neg h
theorem up_self {α : Type} {f : Nat → α} {k : Nat} {v : α} : va_up f k v k = v := if_pos rfl
theorem RV.pushed {s : Rs} {c : Rw} (h : RV s c) {f' : Fm} {fn' : Nat} (hf : s.rest.length + 1 < fn') : RV ((s.s_top f').s_rest (s.top :: s.rest)) ((c.s_fn fn').s_cf (va_up c.cf s.rest.length s.top)) := by
  refine ⟨hf, ?_, h.2.2⟩
  intro i hi
  show (s.top :: s.rest)[(s.top :: s.rest).length - 1 - i]? = some (va_up c.cf s.rest.length s.top i)
  have hi : i < s.rest.length + 1 := hi
  rw [List.length_cons]
  by_cases e : i = s.rest.length
  · subst e
    rw [up_self, show s.rest.length + 1 - 1 - s.rest.length = 0 by omega]; rfl
  · rw [up_ne e, show s.rest.length + 1 - 1 - i = (s.rest.length - 1 - i) + 1 by omega, List.getElem?_cons_succ]
    exact h.2.1 i (by omega)
theorem a_push {s : Rs} {t : Tok} {c : Rw} {fa nx : Int32} (h : RV s c) {p1 : Int32} : ∃ fn' cf' k_ sl_, F_Rd_push p1 c.fn s.rest.length c.cf s.mode s.levels s.signs s.loops t.k fa s.top.k s.top.pl s.top.wd s.top.sec s.top.pa s.top.ip s.top.ipl s.top.iw s.top.sg s.top.wb s.top.lim s.top.tg s.top.lb nx t.k t.pl t.wd (nI s.wait.length) = some ((fn', (s.push t p1).rest.length, cf'), k_, sl_) ∧ RV (s.push t p1) ((c.s_fn fn').s_cf cf') ∧ Gw c ((c.s_fn fn').s_cf cf') k_ sl_ := by
  have h1 := h.1
  unfold F_Rd_push
  by_cases e : s.rest.length + 1 < c.fn
  · rw [if_pos e, grd_pos h1]
    exact ⟨_, _, _, _, rfl, h.pushed (f' := (s.push t p1).top) e, Gw.rfl rfl rfl rfl rfl⟩
  · rw [if_neg e, grd_pos h1, al_some]
    refine ⟨_, _, _, _, rfl, h.pushed (f' := (s.push t p1).top) (fn' := c.fn + 1) (by omega), ⟨?_, ?_⟩⟩
    · show 1 + 0 + (c.fn + ndC c.nD + Nat.log2 c.nW + Nat.log2 c.nF) = c.fn + 1 + ndC c.nD + Nat.log2 c.nW + Nat.log2 c.nF
      omega
    · show 15 + 0 + (15 * c.fn + ndS c.nD + 2 * c.nW + 2 * c.nF) = 15 * (c.fn + 1) + ndS c.nD + 2 * c.nW + 2 * c.nF
      omega
theorem RV.popped {s : Rs} {c : Rw} (h : RV s c) {f g : Fm} {r : List Fm} (hr : s.rest = f :: r) : RV ((s.s_top g).s_rest r) (c.s_cf (va_up c.cf (r.length + 1) s.top)) := by
  obtain ⟨h1, h2, h3⟩ := h
  rw [hr, List.length_cons] at h1 h2
  refine ⟨show r.length < c.fn by omega, ?_, h3⟩
  intro i hi
  have hi : i < r.length := hi
  show r[r.length - 1 - i]? = some (va_up c.cf (r.length + 1) s.top i)
  rw [up_ne (by omega)]
  have := h2 i (by omega)
  rw [show r.length + 1 - 1 - i = (r.length - 1 - i) + 1 by omega, List.getElem?_cons_succ] at this
  exact this
theorem a_pop {s : Rs} {t : Tok} {c : Rw} {fa nx : Int32} (h : RV s c) : ∃ fn' cf', F_Rd_pop c.fn s.rest.length c.cf s.mode s.levels s.signs s.loops t.k fa s.top.k s.top.pl s.top.wd s.top.sec s.top.pa s.top.ip s.top.ipl s.top.iw s.top.sg s.top.wb s.top.lim s.top.tg s.top.lb = some (fn', s.pop.rest.length, cf', s.pop.top.k, s.pop.top.pl, s.pop.top.wd, s.pop.top.sec, s.pop.top.pa, s.pop.top.ip, s.pop.top.ipl, s.pop.top.iw, s.pop.top.sg, s.pop.top.wb, s.pop.top.lim, s.pop.top.tg, s.pop.top.lb) ∧ RV s.pop ((c.s_fn fn').s_cf cf') ∧ Gw c ((c.s_fn fn').s_cf cf') 0 0 := by
  have h1 := h.1
  unfold F_Rd_pop
  rcases e : s.rest with _ | ⟨f, r⟩
  · have ep : s.pop = ((s.s_signs s.top.sg).s_top s.top).s_rest [] := by unfold Rs.pop; rw [e]; rfl
    rw [ep]
    exact ⟨c.fn, c.cf, rfl, ⟨by rw [e] at h1; exact h1, fun i hi => absurd hi (Nat.not_lt_zero _), h.2.2⟩, Gw.rfl rfl rfl rfl rfl⟩
  · have ep : s.pop = ((s.s_signs s.top.sg).s_top f).s_rest r := by unfold Rs.pop; rw [e]; rfl
    have e0 : s.rest.length = r.length + 1 := by rw [e]; rfl
    have hp := h.popped (g := f) e
    have h2 := h.2.1 r.length (by omega)
    rw [e0, show r.length + 1 - 1 - r.length = 0 by omega, e] at h2
    have h2 : f = c.cf r.length := Option.some.inj h2
    rw [ep, List.length_cons, if_neg (by omega), grd_pos (by omega), Nat.add_sub_cancel, ← h2]
    exact ⟨c.fn, _, rfl, hp, Gw.rfl rfl rfl rfl rfl⟩
end

section
theorem bnd_ok {α β : Type} {m : Option α} {a : α} {f : α → Option β} {r : Option β} (h : m = some a) (h2 : f a = r) : m.bind f = r := by rw [h]; exact h2
def Sm (x : Int32) : Prop := x.toNatClampNeg < 2 ^ 17
theorem Sm.lt {x : Int32} (h : Sm x) : x.toNatClampNeg < 2 ^ 18 := by unfold Sm at h; omega
theorem Sm.succ {x : Int32} (h : Sm x) : (x + 1).toNatClampNeg < 2 ^ 18 := by
  unfold Sm at h
  by_cases c : 0 ≤ x
  · rw [i32_cl x c, show nI x.toNatClampNeg + 1 = nI (x.toNatClampNeg + 1) from nI_add' _ 1, nI_clamp' (by omega)]
    omega
  · have h1 := (i32_nn x c).2
    have h2 := Int32.lt_iff_toInt_lt.mp h1
    have h0 : (0 : Int32).toInt = 0 := rfl
    have h3 := x.le_toInt
    have h4 : (x + 1).toInt = x.toInt + 1 := by
      rw [Int32.toInt_add]
      have : (1 : Int32).toInt = 1 := rfl
      rw [this, Int.bmod_eq_of_le (by omega) (by omega)]
    unfold Int32.toNatClampNeg
    omega
theorem a_addName {s : Rs} {t : Tok} {c : Rw} {fa nx : Int32} (h : RV s c) {p1 : Int32} : ∃ nD' bD' k_ sl_, F_Rd_addName p1 s.mode s.levels s.signs s.loops t.k fa nx t.k t.pl t.wd (nI s.draft.length) c.nD c.bD = some ((nI (s.addName t p1).draft.length, nD', bD'), k_, sl_) ∧ RV (s.addName t p1) ((c.s_nD nD').s_bD bD') ∧ Gw c ((c.s_nD nD').s_bD bD') k_ sl_ := by
  obtain ⟨n, b, k, sl, e, hv, g⟩ := a_leaf h (k := 32) (p := t.pl) (w := t.wd)
  exact ⟨n, b, _, _, by unfold F_Rd_addName; rw [e]; rfl, hv, g⟩
theorem a_endBlock {s : Rs} {t : Tok} {c : Rw} {fa nx : Int32} (h : RV s c) (hm : Sm s.top.ip) : ∃ nD' bD' k_ sl_, F_Rd_endBlock s.mode s.levels s.signs s.loops t.k fa s.top.k s.top.pl s.top.wd s.top.sec s.top.pa s.top.ip s.top.ipl s.top.iw s.top.sg s.top.wb s.top.lim s.top.tg s.top.lb (nI s.draft.length) c.nD c.bD = some ((nI s.endBlock.draft.length, nD', bD'), k_, sl_) ∧ RV s.endBlock ((c.s_nD nD').s_bD bD') ∧ Gw c ((c.s_nD nD').s_bD bD') k_ sl_ := by
  obtain ⟨n, b, k, sl, e, hv, g⟩ := a_add h (k := 3) (p := s.top.ipl) (q := -1) (w := 0) hm.lt
  exact ⟨n, b, _, _, by unfold F_Rd_endBlock; rw [e]; rfl, hv, g⟩
theorem a_addWord {s : Rs} {t : Tok} {c : Rw} {fa nx : Int32} (h : RV s c) {p1 : Int32} : ∃ nD' bD' k_ sl_, F_Rd_addWord p1 s.mode s.levels s.signs s.loops t.k fa nx t.k t.pl t.wd (nI s.draft.length) c.nD c.bD = some ((nI (s.addWord t p1).draft.length, nD', bD'), k_, sl_) ∧ RV (s.addWord t p1) ((c.s_nD nD').s_bD bD') ∧ Gw c ((c.s_nD nD').s_bD bD') k_ sl_ := by
  obtain ⟨n, b, k, sl, e, hv, g⟩ := a_leaf h (k := p1) (p := t.pl) (w := t.wd)
  exact ⟨n, b, _, _, by unfold F_Rd_addWord; rw [e]; rfl, hv, g⟩
theorem a_openValues {s : Rs} {t : Tok} {c : Rw} {fa nx : Int32} (h : RV s c) {p1 : Int32} : ∃ fn' cf' k_ sl_, F_Rd_openValues p1 c.fn s.rest.length c.cf s.mode s.levels s.signs s.loops t.k fa s.top.k s.top.pl s.top.wd s.top.sec s.top.pa s.top.ip s.top.ipl s.top.iw s.top.sg s.top.wb s.top.lim s.top.tg s.top.lb nx t.k t.pl t.wd (nI s.wait.length) = some ((fn', ((s.push t p1).goOn 30).rest.length, cf'), k_, sl_) ∧ RV ((s.push t p1).goOn 30) ((c.s_fn fn').s_cf cf') ∧ Gw c ((c.s_fn fn').s_cf cf') k_ sl_ := by
  obtain ⟨n, b, k, sl, e, hv, g⟩ := a_push h (t := t) (p1 := p1) (fa := fa) (nx := nx)
  exact ⟨n, b, _, _, by unfold F_Rd_openValues; rw [e]; rfl, hv, g⟩
theorem a_openHead {s : Rs} {t : Tok} {c : Rw} {fa nx : Int32} (h : RV s c) : ∃ fn' cf' k_ sl_, F_Rd_openHead c.fn s.rest.length c.cf s.mode s.levels s.signs s.loops t.k fa s.top.k s.top.pl s.top.wd s.top.sec s.top.pa s.top.ip s.top.ipl s.top.iw s.top.sg s.top.wb s.top.lim s.top.tg s.top.lb nx t.k t.pl t.wd (nI s.wait.length) = some ((fn', (s.openHead t).rest.length, cf', (s.openHead t).mode), k_, sl_) ∧ RV (s.openHead t) ((c.s_fn fn').s_cf cf') ∧ Gw c ((c.s_fn fn').s_cf cf') k_ sl_ := by
  obtain ⟨n, b, k, sl, e, hv, g⟩ := a_push h (t := t) (p1 := 51) (fa := fa) (nx := nx)
  by_cases x : s.top.k = 13
  · exact ⟨n, b, _, _, by unfold F_Rd_openHead F_Rd_openHead_17 Rs.openHead; rw [if_pos x, if_pos x, e]; rfl, hv, g⟩
  · exact ⟨n, b, _, _, by unfold F_Rd_openHead F_Rd_openHead_17 Rs.openHead; rw [if_neg x, if_neg x, e]; rfl, hv, g⟩
theorem a_endHead {s : Rs} {t : Tok} {c : Rw} {fa nx : Int32} (h : RV s c) : ∃ fn' cf', F_Rd_endHead c.fn s.rest.length c.cf s.mode s.levels s.signs s.loops t.k fa s.top.k s.top.pl s.top.wd s.top.sec s.top.pa s.top.ip s.top.ipl s.top.iw s.top.sg s.top.wb s.top.lim s.top.tg s.top.lb nx t.k t.pl t.wd = some (fn', (s.endHead t).rest.length, cf', (s.endHead t).top.k, (s.endHead t).top.pl, (s.endHead t).top.wd, (s.endHead t).top.sec, (s.endHead t).top.pa, (s.endHead t).top.iw, (s.endHead t).top.sg, (s.endHead t).top.wb, (s.endHead t).top.lim, (s.endHead t).top.tg, (s.endHead t).top.lb) ∧ RV (s.endHead t) ((c.s_fn fn').s_cf cf') ∧ Gw c ((c.s_fn fn').s_cf cf') 0 0 := by
  obtain ⟨n, b, e, hv, g⟩ := a_pop (s := s.s_levels (s.levels - 1)) (c := c) h (t := t) (fa := fa) (nx := nx)
  by_cases x : (s.s_levels (s.levels - 1)).pop.top.k = 13
  · exact ⟨n, b, by unfold F_Rd_endHead Rs.endHead; rw [e]; dsimp only [Option.bind_some]; rw [if_pos x, if_pos x]; rfl, hv, g⟩
  · exact ⟨n, b, by unfold F_Rd_endHead Rs.endHead; rw [e]; dsimp only [Option.bind_some]; rw [if_neg x, if_neg x]; rfl, hv, g⟩
theorem a_endNames {s : Rs} {t : Tok} {c : Rw} {fa nx : Int32} (h : RV s c) {p1 : Int32} (hm : Sm s.top.ip) : ∃ nD' bD' k_ sl_, F_Rd_endNames p1 s.mode s.levels s.signs s.loops t.k fa s.top.k s.top.pl s.top.wd s.top.sec s.top.pa s.top.ip s.top.ipl s.top.iw s.top.sg s.top.wb s.top.lim s.top.tg s.top.lb (nI s.draft.length) c.nD c.bD = some ((nI (s.endNames p1).draft.length, nD', bD'), k_, sl_) ∧ RV (s.endNames p1) ((c.s_nD nD').s_bD bD') ∧ Gw c ((c.s_nD nD').s_bD bD') k_ sl_ := by
  obtain ⟨n, b, k, sl, e, hv, g⟩ := a_add h (k := 2) (p := p1) (q := -1) (w := 0) hm.lt
  exact ⟨n, b, _, _, by unfold F_Rd_endNames; rw [e]; rfl, hv, g⟩
theorem a_endParameters {s : Rs} {t : Tok} {c : Rw} {fa nx : Int32} (h : RV s c) (hm : Sm s.top.ip) : ∃ nD' bD' k_ sl_, F_Rd_endParameters s.mode s.levels s.signs s.loops t.k fa s.top.k s.top.pl s.top.wd s.top.sec s.top.pa s.top.ip s.top.ipl s.top.iw s.top.sg s.top.wb s.top.lim s.top.tg s.top.lb (nI s.draft.length) c.nD c.bD nx t.k t.pl t.wd = some ((nI (s.endParameters t).draft.length, nD', bD'), k_, sl_) ∧ RV (s.endParameters t) ((c.s_nD nD').s_bD bD') ∧ Gw c ((c.s_nD nD').s_bD bD') k_ sl_ := by
  obtain ⟨n, b, k, sl, e, hv, g⟩ := a_endNames h (t := t) (p1 := s.top.ipl) (fa := fa) (nx := nx) hm
  exact ⟨n, b, _, _, by unfold F_Rd_endParameters; rw [e]; rfl, hv, g⟩
theorem a_addTarget {s : Rs} {t : Tok} {c : Rw} {fa nx : Int32} (h : RV s c) : ∃ nD' bD' k_ sl_, F_Rd_addTarget s.mode s.levels s.signs s.loops t.k fa s.top.k s.top.pl s.top.wd s.top.sec s.top.pa s.top.ip s.top.ipl s.top.iw s.top.sg s.top.wb s.top.lim s.top.tg s.top.lb nx t.k t.pl t.wd (nI s.draft.length) c.nD c.bD = some ((nI (s.addTarget t).draft.length, nD', bD'), k_, sl_) ∧ RV (s.addTarget t) ((c.s_nD nD').s_bD bD') ∧ Gw c ((c.s_nD nD').s_bD bD') k_ sl_ := by
  obtain ⟨n, b, k, sl, e, hv, g⟩ := a_addName h (t := t) (p1 := 21) (fa := fa) (nx := nx)
  exact ⟨n, b, _, _, by unfold F_Rd_addTarget; rw [e]; rfl, hv, g⟩
theorem a_addNothing {s : Rs} {t : Tok} {c : Rw} {fa nx : Int32} (h : RV s c) {p1 : Int32} : ∃ nD' bD' k_ sl_, F_Rd_addNothing p1 s.mode s.levels s.signs s.loops t.k fa s.top.k s.top.pl s.top.wd s.top.sec s.top.pa s.top.ip s.top.ipl s.top.iw s.top.sg s.top.wb s.top.lim s.top.tg s.top.lb (nI s.draft.length) c.nD c.bD = some ((nI (s.addNothing p1).draft.length, nD', bD'), k_, sl_) ∧ RV (s.addNothing p1) ((c.s_nD nD').s_bD bD') ∧ Gw c ((c.s_nD nD').s_bD bD') k_ sl_ := by
  obtain ⟨n, b, k, sl, e, hv, g⟩ := a_add h (k := 5) (p := p1) (q := -1) (m := 0) (w := 1) (by decide)
  exact ⟨n, b, _, _, by unfold F_Rd_addNothing; rw [e]; rfl, hv, g⟩
theorem a_endTargets {s : Rs} {t : Tok} {c : Rw} {fa nx : Int32} (h : RV s c) (hm : Sm s.top.ip) : ∃ nD' bD' k_ sl_, F_Rd_endTargets s.mode s.levels s.signs s.loops t.k fa s.top.k s.top.pl s.top.wd s.top.sec s.top.pa s.top.ip s.top.ipl s.top.iw s.top.sg s.top.wb s.top.lim s.top.tg s.top.lb (nI s.draft.length) c.nD c.bD = some ((nI s.endTargets.draft.length, nD', bD'), k_, sl_) ∧ RV s.endTargets ((c.s_nD nD').s_bD bD') ∧ Gw c ((c.s_nD nD').s_bD bD') k_ sl_ := by
  obtain ⟨n, b, k, sl, e, hv, g⟩ := a_add h (k := 2) (p := s.top.sec) (q := -1) (w := 0) hm.lt
  exact ⟨n, b, _, _, by unfold F_Rd_endTargets; rw [e]; rfl, hv, g⟩
theorem a_beginCall {s : Rs} {t : Tok} {c : Rw} {fa nx : Int32} (h : RV s c) : ∃ fn' cf' k_ sl_, F_Rd_beginCall c.fn s.rest.length c.cf s.mode s.levels s.signs s.loops t.k fa s.top.k s.top.pl s.top.wd s.top.sec s.top.pa s.top.ip s.top.ipl s.top.iw s.top.sg s.top.wb s.top.lim s.top.tg s.top.lb nx t.k t.pl t.wd (nI s.wait.length) = some ((fn', ((s.push t 52).goOn 24).rest.length, cf'), k_, sl_) ∧ RV ((s.push t 52).goOn 24) ((c.s_fn fn').s_cf cf') ∧ Gw c ((c.s_fn fn').s_cf cf') k_ sl_ := by
  obtain ⟨n, b, k, sl, e, hv, g⟩ := a_push h (t := t) (p1 := 52) (fa := fa) (nx := nx)
  exact ⟨n, b, _, _, by unfold F_Rd_beginCall; rw [e]; rfl, hv, g⟩
theorem a_endSeveral {s : Rs} {t : Tok} {c : Rw} {fa nx : Int32} (h : RV s c) : ∃ fn' cf' nD' bD' k_ sl_, F_Rd_endSeveral c.fn s.rest.length c.cf s.mode s.levels s.signs s.loops t.k fa s.top.k s.top.pl s.top.wd s.top.sec s.top.pa s.top.ip s.top.ipl s.top.iw s.top.sg s.top.wb s.top.lim s.top.tg s.top.lb (nI s.draft.length) c.nD c.bD = some ((fn', s.endSeveral.rest.length, cf', s.endSeveral.top.k, s.endSeveral.top.pl, s.endSeveral.top.wd, s.endSeveral.top.sec, s.endSeveral.top.pa, s.endSeveral.top.ip, s.endSeveral.top.ipl, s.endSeveral.top.iw, s.endSeveral.top.sg, s.endSeveral.top.wb, s.endSeveral.top.lim, s.endSeveral.top.tg, s.endSeveral.top.lb, nI s.endSeveral.draft.length, nD', bD'), k_, sl_) ∧ RV s.endSeveral ((((c.s_fn fn').s_cf cf').s_nD nD').s_bD bD') ∧ Gw c ((((c.s_fn fn').s_cf cf').s_nD nD').s_bD bD') k_ sl_ := by
  obtain ⟨n, b, k, sl, e, hv, g⟩ := a_add h (k := 10) (p := s.top.pl) (q := s.top.sec) (m := 2) (w := s.top.wd) (by decide)
  obtain ⟨n2, b2, e2, hv2, g2⟩ := a_pop hv (t := t) (fa := fa) (nx := nx)
  exact ⟨n2, b2, n, b, _, _, by unfold F_Rd_endSeveral Rs.endSeveral; exact bw_ok e (bnd_ok e2 rfl), hv2, g.trans g2⟩
theorem a_becomeTargets {s : Rs} {t : Tok} {c : Rw} {fa nx : Int32} (h : RV s c) {p1 : Int32} : ∃ fn' cf' nD' bD' k_ sl_, F_Rd_becomeTargets p1 c.fn s.rest.length c.cf s.mode s.levels s.signs s.loops t.k fa s.top.k s.top.pl s.top.wd s.top.sec s.top.pa s.top.ip s.top.ipl s.top.iw s.top.sg s.top.wb s.top.lim s.top.tg s.top.lb (nI s.draft.length) c.nD c.bD = some ((fn', (s.becomeTargets p1).rest.length, cf', (s.becomeTargets p1).top.pl, (s.becomeTargets p1).top.wd, (s.becomeTargets p1).top.pa, (s.becomeTargets p1).top.ipl, (s.becomeTargets p1).top.iw, (s.becomeTargets p1).top.sg, (s.becomeTargets p1).top.wb, (s.becomeTargets p1).top.lim, (s.becomeTargets p1).top.tg, (s.becomeTargets p1).top.lb, nI (s.becomeTargets p1).draft.length, nD', bD'), k_, sl_) ∧ RV (s.becomeTargets p1) ((((c.s_fn fn').s_cf cf').s_nD nD').s_bD bD') ∧ Gw c ((((c.s_fn fn').s_cf cf').s_nD nD').s_bD bD') k_ sl_ := by
  obtain ⟨n, b, e, hv, g⟩ := a_pop h (t := t) (fa := fa) (nx := nx)
  obtain ⟨n2, b2, k2, sl2, e2, hv2, g2⟩ := a_addNothing (s := (s.pop.s_top (((s.pop.top.s_k 10).s_sec s.top.pl).s_ip s.top.ip))) hv (t := t) (p1 := p1) (fa := fa) (nx := nx)
  exact ⟨n, b, n2, b2, _, _, by unfold F_Rd_becomeTargets Rs.becomeTargets; exact bnd_ok e (bw_ok e2 rfl), hv2, by have := g.trans g2; rw [Nat.zero_add, Nat.zero_add] at this; exact this⟩
end

section
theorem gz {c c' : Rw} {k s : Nat} (h : Gw c c' (0 + k) (0 + s)) : Gw c c' k s := by rw [Nat.zero_add, Nat.zero_add] at h; exact h
theorem a_takeFirstAsResult {s : Rs} {t : Tok} {c : Rw} {fa nx : Int32} (h : RV s c) : ∃ nD' bD' k_ sl_, F_Rd_takeFirstAsResult s.mode s.levels s.signs s.loops t.k fa s.top.k s.top.pl s.top.wd s.top.sec s.top.pa s.top.ip s.top.ipl s.top.iw s.top.sg s.top.wb s.top.lim s.top.tg s.top.lb (nI s.draft.length) c.nD c.bD = some ((nI (((s.add 32 s.top.sec (-1) 0 s.top.wd).s_top (s.top.s_ip 1)).goOn 15).draft.length, nD', bD'), k_, sl_) ∧ RV (((s.add 32 s.top.sec (-1) 0 s.top.wd).s_top (s.top.s_ip 1)).goOn 15) ((c.s_nD nD').s_bD bD') ∧ Gw c ((c.s_nD nD').s_bD bD') k_ sl_ := by
  obtain ⟨n, b, k, sl, e, hv, g⟩ := a_leaf h (k := 32) (p := s.top.sec) (w := s.top.wd)
  exact ⟨n, b, _, _, by unfold F_Rd_takeFirstAsResult; rw [e]; rfl, hv, g⟩
theorem Tab.dropL {w N : Nat} {b : Nat → Int32} {l : List (Nat → Int32)} (h : Tab w N b l) : Tab w N b l.dropLast := by
  rw [List.dropLast_eq_take]; exact h.take _
theorem RV.ddrop {s : Rs} {c : Rw} (h : RV s c) : RV (s.s_draft s.draft.dropLast) c := by
  refine ⟨h.1, h.2.1, ⟨⟨?_, h.2.2.1.1.cap⟩, ?_⟩, h.2.2.2⟩
  · show Tab 7 c.nD c.bD (s.draft.dropLast.map Nd.row)
    rw [List.map_dropLast]
    exact h.2.2.1.1.tab.dropL
  · show s.draft.dropLast.length ≤ 16385
    have := h.2.2.1.2
    rw [List.length_dropLast]; omega
theorem Nd_dropT {n : Nat} (hn : n ≤ 16385) : F_Nd_dropLast (nI n) = nI (n - 1) := by
  by_cases c : 0 < n
  · exact Nd_drop (by omega) c
  · have : n = 0 := by omega
    subst this
    rfl
theorem Tk_dropT {n : Nat} (hn : n ≤ 16384) : F_Tk_dropLast (nI n) = nI (n - 1) := by
  by_cases c : 0 < n
  · exact Tk_drop (by omega) c
  · have : n = 0 := by omega
    subst this
    rfl
theorem a_turnRowsToTargets {s : Rs} {t : Tok} {c : Rw} {fa nx : Int32} (h : RV s c) (hm : Sm (Rs.lastN s.draft.dropLast Nd.pa)) : ∃ nD' bD' k_ sl_, F_Rd_turnRowsToTargets s.mode s.levels s.signs s.loops t.k fa s.top.k s.top.pl s.top.wd s.top.sec s.top.pa s.top.ip s.top.ipl s.top.iw s.top.sg s.top.wb s.top.lim s.top.tg s.top.lb (nI s.draft.length) c.nD c.bD nx t.k t.pl t.wd = some (((s.turnRowsToTargets t).top.sec, nI (s.turnRowsToTargets t).draft.length, nD', bD'), k_, sl_) ∧ RV (s.turnRowsToTargets t) ((c.s_nD nD').s_bD bD') ∧ Gw c ((c.s_nD nD').s_bD bD') k_ sl_ := by
  have h1 := h.ddrop
  have h2 := h1.ddrop
  obtain ⟨n, b, k, sl, e, hv, g⟩ := a_add h2 (k := 2) (p := Rs.lastN s.draft Nd.pl) (q := -1) (w := 0) hm.lt
  have e1 := Nd_lastT h.2.2.1.1 (j := 1) (by omega) (g := Nd.pl) (fun _ => rfl)
  have e2 := Nd_lastT h1.2.2.1.1 (j := 3) (by omega) (g := Nd.pa) (fun _ => rfl)
  have d1 := Nd_dropT h.2.2.1.2
  have d2 := Nd_dropT h1.2.2.1.2
  rw [← List.length_dropLast] at d1 d2
  refine ⟨n, b, _, _, ?_, hv, g⟩
  unfold F_Rd_turnRowsToTargets Rs.turnRowsToTargets
  refine bnd_ok e1 ?_
  dsimp only [nm]
  rw [d1]
  refine bnd_ok e2 ?_
  have d2 : F_Nd_dropLast (nI s.draft.dropLast.length) = nI s.draft.dropLast.dropLast.length := d2
  rw [d2]
  exact bw_ok (c' := 0) (s' := 0) e rfl
theorem a_openArguments {s : Rs} {t : Tok} {c : Rw} {fa nx : Int32} (h : RV s c) : ∃ fn' cf' k_ sl_, F_Rd_openArguments c.fn s.rest.length c.cf s.mode s.levels s.signs s.loops t.k fa s.top.k s.top.pl s.top.wd s.top.sec s.top.pa s.top.ip s.top.ipl s.top.iw s.top.sg s.top.wb s.top.lim s.top.tg s.top.lb (nI s.draft.length) c.nD c.bD nx t.k t.pl t.wd (nI s.wait.length) = some ((fn', (s.openArguments t).rest.length, cf', (s.openArguments t).top.pl, (s.openArguments t).top.wd, nI (s.openArguments t).draft.length), k_, sl_) ∧ RV (s.openArguments t) ((c.s_fn fn').s_cf cf') ∧ Gw c ((c.s_fn fn').s_cf cf') k_ sl_ := by
  have h1 := h.ddrop
  obtain ⟨n, b, k, sl, e, hv, g⟩ := a_push (s := (s.s_draft s.draft.dropLast).s_top (s.top.s_tg 0)) h1 (t := t) (p1 := 33) (fa := fa) (nx := nx)
  have e1 := Nd_lastT h.2.2.1.1 (j := 1) (by omega) (g := Nd.pl) (fun _ => rfl)
  have e2 := Nd_lastT h.2.2.1.1 (j := 4) (by omega) (g := Nd.wd) (fun _ => rfl)
  have d1 := Nd_dropT h.2.2.1.2
  rw [← List.length_dropLast] at d1
  refine ⟨n, b, _, _, ?_, hv, g⟩
  unfold F_Rd_openArguments Rs.openArguments
  refine bnd_ok e1 (bnd_ok e2 ?_)
  dsimp only [nm]
  rw [d1]
  exact bw_ok (c' := 0) (s' := 0) e rfl
theorem lastW_rev {w : Wt} {ws : List Wt} {g : Wt → Int32} : Rs.lastW ((w :: ws).reverse) g = g w := by
  unfold Rs.lastW
  rw [List.getLast?_reverse]; rfl
theorem wparts_lt (w : Wt) : (Rs.wparts w).toNatClampNeg < 2 ^ 18 := by
  unfold Rs.wparts
  split
  · decide
  · split <;> decide
theorem endW8 {nW : Nat} {bW : Nat → Int32} {r wb : Int32} (hr : (-1 : Int32) < r) : ∀ (ws : List Wt) (fu : Nat) (d : List Nd) (nD : Nat) (bD : Nat → Int32), TkV nW bW (ws.reverse.map Wt.row) → NdV nD bD (d.map Nd.row) → d.length ≤ 16385 → ws.length ≤ 16384 → ws.length < fu →
    ∃ n' b' k sl, F_Rd_endWaiting_8 r wb nW bW fu (nI ws.length) (nI d.length) nD bD (nI ws.length) = some ((nI (Rs.endW r wb ws d).1.length, nI (Rs.endW r wb ws d).2.length, n', b'), k, sl) ∧ NdV n' b' ((Rs.endW r wb ws d).2.map Nd.row) ∧ TkV nW bW ((Rs.endW r wb ws d).1.reverse.map Wt.row) ∧ GrowN nD n' k sl ∧ (Rs.endW r wb ws d).2.length ≤ 16385 ∧ (Rs.endW r wb ws d).1.length ≤ 16384
  | ws, 0, d, nD, bD, _, _, _, _, h => by omega
  | [], fu + 1, d, nD, bD, hw, hd, hl, hlw, hf => by
    have e0 : F_Tk_last 0 (nI ([] : List Wt).length) nW bW = some (-1) := Tk_last0
    have er : Rs.endW r wb [] d = ([], d) := rfl
    rw [er]
    unfold F_Rd_endWaiting_8
    by_cases c : nI ([] : List Wt).length ≤ wb
    · rw [if_pos c]
      exact ⟨nD, bD, 0, 0, rfl, hd, hw, GrowN.rfl, hl, hlw⟩
    · rw [if_neg c, e0, Option.bind_some, if_pos hr]
      exact ⟨nD, bD, 0, 0, rfl, hd, hw, GrowN.rfl, hl, hlw⟩
  | w :: ws, fu + 1, d, nD, bD, hw, hd, hl, hlw, hf => by
    have el : nI (w :: ws).reverse.length = nI (w :: ws).length := by rw [List.length_reverse]
    have l0 := Tk_lastT hw (j := 0) (by omega) (g := Wt.rk) (fun _ => rfl)
    have l1 := Tk_lastT hw (j := 1) (by omega) (g := Wt.pl) (fun _ => rfl)
    have l2 := Tk_lastT hw (j := 2) (by omega) (g := Wt.sec) (fun _ => rfl)
    have l3 := Tk_lastT hw (j := 3) (by omega) (g := Wt.wd) (fun _ => rfl)
    rw [el, lastW_rev] at l0 l1 l2 l3
    have l0 : F_Tk_last 0 (nI (w :: ws).length) nW bW = some w.rk := l0
    have l1 : F_Tk_last 1 (nI (w :: ws).length) nW bW = some w.pl := l1
    have l2 : F_Tk_last 2 (nI (w :: ws).length) nW bW = some w.sec := l2
    have l3 : F_Tk_last 3 (nI (w :: ws).length) nW bW = some w.wd := l3
    unfold F_Rd_endWaiting_8
    by_cases c : nI (w :: ws).length ≤ wb
    · have er : Rs.endW r wb (w :: ws) d = (w :: ws, d) := by
        unfold Rs.endW
        rw [if_neg (fun x => by
          have h1 := Int32.le_iff_toInt_le.mp c
          have h2 := Int32.lt_iff_toInt_lt.mp x.1
          omega)]
      rw [if_pos c, er]
      exact ⟨nD, bD, 0, 0, rfl, hd, hw, GrowN.rfl, hl, hlw⟩
    · rw [if_neg c, l0, Option.bind_some, Option.bind_some]
      by_cases c2 : w.rk < r
      · have er : Rs.endW r wb (w :: ws) d = (w :: ws, d) := by
          unfold Rs.endW
          rw [if_neg (fun x => by
            have h1 := Int32.lt_iff_toInt_lt.mp c2
            have h2 := Int32.le_iff_toInt_le.mp x.2
            omega)]
        rw [if_pos c2, er]
        exact ⟨nD, bD, 0, 0, rfl, hd, hw, GrowN.rfl, hl, hlw⟩
      · have er : Rs.endW r wb (w :: ws) d = Rs.endW r wb ws (Rs.nadd d (Rs.wkind w.rk) w.pl w.sec (Rs.wparts w) w.wd) := by
          have c3 : wb < nI (w :: ws).length ∧ r ≤ w.rk := by
           constructor
           · refine Int32.lt_iff_toInt_lt.mpr ?_
             have : ¬ (nI (w :: ws).length).toInt ≤ wb.toInt := fun x => c (Int32.le_iff_toInt_le.mpr x)
             omega
           · refine Int32.le_iff_toInt_le.mpr ?_
             have : ¬ w.rk.toInt < r.toInt := fun x => c2 (Int32.lt_iff_toInt_lt.mpr x)
             omega
          rw [Rs.endW, if_pos c3]
        rw [if_neg c2, er]
        obtain ⟨n1, b1, k1, s1, a1, a2, a3, a4⟩ := Nd_addT hd hl (k := Rs.wkind w.rk) (p := w.pl) (s := w.sec) (w := w.wd) (wparts_lt w)
        have hw' : TkV nW bW (ws.reverse.map Wt.row) := by
          refine ⟨?_, hw.cap⟩
          have := hw.tab.dropL
          rw [List.reverse_cons, List.map_append] at this
          simpa using this
        obtain ⟨n2, b2, k2, s2, f1, f2, f3, f4, f5, f6⟩ := endW8 hr ws fu _ n1 b1 hw' a2 a4 (by rw [List.length_cons] at hlw; omega) (by rw [List.length_cons] at hf; omega)
        refine ⟨n2, b2, _, _, ?_, f2, f3, a3.trans f4, f5, f6⟩
        have dd : F_Tk_dropLast (nI (w :: ws).length) = nI ws.length := Tk_dropT hlw
        have dd2 : nI (w :: ws).length + (-1) = nI ws.length := by
          show nI (ws.length + 1) + (-1) = nI ws.length
          rw [← nI_add' ws.length 1, Int32.add_assoc, show nI 1 + (-1 : Int32) = 0 by decide, Int32.add_zero]
        have key : ∀ kd pa v4 : Int32, kd = Rs.wkind w.rk → pa = Rs.wparts w → F_Rd_endWaiting_109 nW bW (nI (w :: ws).length) (nI d.length) nD bD (nI (w :: ws).length) (F_Rd_endWaiting_8 r wb nW bW fu) kd v4 w.rk pa = some ((nI (Rs.endW r wb ws (Rs.nadd d (Rs.wkind w.rk) w.pl w.sec (Rs.wparts w) w.wd)).1.length, nI (Rs.endW r wb ws (Rs.nadd d (Rs.wkind w.rk) w.pl w.sec (Rs.wparts w) w.wd)).2.length, n2, b2), k1 + k2, s1 + s2) := by
          intro kd pa v4 h1 h2
          subst h1 h2
          unfold F_Rd_endWaiting_109
          rw [l1, Option.bind_some, l2, Option.bind_some, l3, Option.bind_some]
          refine bw_ok a1 ?_
          show F_Rd_endWaiting_8 r wb nW bW fu (nI (w :: ws).length + (-1)) _ n1 b1 (F_Tk_dropLast (nI (w :: ws).length)) = _
          rw [dd, dd2]
          exact f1
        unfold F_Rd_endWaiting_57 F_Rd_endWaiting_81
        by_cases x7 : w.rk = 7
        · rw [if_pos x7, if_neg (by decide), if_neg (by decide)]
          exact key _ _ _ (by unfold Rs.wkind; rw [if_pos (Or.inl x7)]) (by unfold Rs.wparts; rw [if_pos (Or.inl x7)])
        · rw [if_neg x7]
          by_cases x9 : w.rk = 9
          · rw [if_pos x9, if_neg (by decide), if_neg (by decide)]
            exact key _ _ _ (by unfold Rs.wkind; rw [if_pos (Or.inr x9)]) (by unfold Rs.wparts; rw [if_pos (Or.inr x9)])
          · have xx : ¬ (w.rk = 7 ∨ w.rk = 9) := fun h => h.elim x7 x9
            rw [if_neg x9, if_pos rfl]
            by_cases x4 : w.rk = 4
            · rw [if_pos x4, if_pos rfl, l2, Option.bind_some]
              by_cases xs : w.sec = -1
              · rw [if_pos xs]
                exact key _ _ _ (by unfold Rs.wkind; rw [if_neg xx, if_pos x4]) (by unfold Rs.wparts; rw [if_neg xx, if_pos xs])
              · rw [if_neg xs]
                exact key _ _ _ (by unfold Rs.wkind; rw [if_neg xx, if_pos x4]) (by unfold Rs.wparts; rw [if_neg xx, if_neg xs])
            · rw [if_neg x4, if_pos rfl, l2, Option.bind_some]
              by_cases xs : w.sec = -1
              · rw [if_pos xs]
                exact key _ _ _ (by unfold Rs.wkind; rw [if_neg xx, if_neg x4]) (by unfold Rs.wparts; rw [if_neg xx, if_pos xs])
              · rw [if_neg xs]
                exact key _ _ _ (by unfold Rs.wkind; rw [if_neg xx, if_neg x4]) (by unfold Rs.wparts; rw [if_neg xx, if_neg xs])
theorem a_endWaiting {s : Rs} {t : Tok} {c : Rw} {fa nx : Int32} (h : RV s c) {p1 : Int32} (hr : (-1 : Int32) < p1) : ∃ nD' bD' k_ sl_, F_Rd_endWaiting p1 s.mode s.levels s.signs s.loops t.k fa (nI s.wait.length) s.top.k s.top.pl s.top.wd s.top.sec s.top.pa s.top.ip s.top.ipl s.top.iw s.top.sg s.top.wb s.top.lim s.top.tg s.top.lb c.nW c.bW (nI s.draft.length) c.nD c.bD = some ((nI (s.endWaiting p1).wait.length, nI (s.endWaiting p1).draft.length, nD', bD'), k_, sl_) ∧ RV (s.endWaiting p1) ((c.s_nD nD').s_bD bD') ∧ Gw c ((c.s_nD nD').s_bD bD') k_ sl_ := by
  have hlw := h.2.2.2.1.2
  obtain ⟨n, b, k, sl, e, v1, v2, g, v3, v4⟩ := endW8 (nW := c.nW) (bW := c.bW) (wb := s.top.wb) hr s.wait.reverse FU s.draft c.nD c.bD (by rw [List.reverse_reverse]; exact h.2.2.2.1.1) h.2.2.1.1 h.2.2.1.2 (by rw [List.length_reverse]; exact hlw) (by rw [List.length_reverse]; unfold FU; omega)
  rw [List.length_reverse] at e
  refine ⟨n, b, k, sl, ?_, ⟨h.1, h.2.1, ⟨v1, v3⟩, ⟨v2, ?_⟩, h.2.2.2.2⟩, ?_⟩
  · unfold F_Rd_endWaiting
    rw [e]
    show _ = some ((nI (Rs.endW p1 s.top.wb s.wait.reverse s.draft).1.reverse.length, _, n, b), k, sl)
    rw [List.length_reverse]; rfl
  · show (Rs.endW p1 s.top.wb s.wait.reverse s.draft).1.reverse.length ≤ 16384
    rw [List.length_reverse]; exact v4
  · exact ⟨show k + (c.fn + ndC c.nD + Nat.log2 c.nW + Nat.log2 c.nF) = c.fn + ndC n + Nat.log2 c.nW + Nat.log2 c.nF by have := g.cells; omega, show sl + (15 * c.fn + ndS c.nD + 2 * c.nW + 2 * c.nF) = 15 * c.fn + ndS n + 2 * c.nW + 2 * c.nF by have := g.slots; omega⟩
theorem a_takeOperation {s : Rs} {t : Tok} {c : Rw} {fa nx : Int32} (h : RV s c) {p1 : Int32} : ∃ nW' bW' k_ sl_, F_Rd_takeOperation p1 s.mode s.levels s.signs s.loops t.k fa nx t.k t.pl t.wd (nI s.wait.length) c.nW c.bW = some (((s.takeOperation t p1).mode, nI (s.takeOperation t p1).wait.length, nW', bW'), k_, sl_) ∧ RV (s.takeOperation t p1) ((c.s_nW nW').s_bW bW') ∧ Gw c ((c.s_nW nW').s_bW bW') k_ sl_ := by
  obtain ⟨n, b, k, sl, e, hv, g⟩ := a_tadd h (k := p1) (p := t.pl) (w := t.wd)
  refine ⟨n, b, _, _, ?_, hv, g⟩
  unfold F_Rd_takeOperation Rs.takeOperation
  by_cases c : p1 = 8
  · rw [if_pos c]; exact bw_ok (c' := 0) (s' := 0) e (if_pos c)
  · rw [if_neg c]; exact bw_ok (c' := 0) (s' := 0) e (if_neg c)
theorem a_endPlain {s : Rs} {t : Tok} {c : Rw} {fa nx : Int32} (h : RV s c) {p1 : Int32} (hm : p1.toNatClampNeg < 2 ^ 18) : ∃ fn' cf' nD' bD' k_ sl_, F_Rd_endPlain p1 c.fn s.rest.length c.cf s.mode s.levels s.signs s.loops t.k fa s.top.k s.top.pl s.top.wd s.top.sec s.top.pa s.top.ip s.top.ipl s.top.iw s.top.sg s.top.wb s.top.lim s.top.tg s.top.lb (nI s.draft.length) c.nD c.bD = some ((fn', (s.endPlain p1).rest.length, cf', (s.endPlain p1).top.k, (s.endPlain p1).top.pl, (s.endPlain p1).top.wd, (s.endPlain p1).top.sec, (s.endPlain p1).top.pa, (s.endPlain p1).top.ip, (s.endPlain p1).top.ipl, (s.endPlain p1).top.iw, (s.endPlain p1).top.sg, (s.endPlain p1).top.wb, (s.endPlain p1).top.lim, (s.endPlain p1).top.tg, (s.endPlain p1).top.lb, nI (s.endPlain p1).draft.length, nD', bD'), k_, sl_) ∧ RV (s.endPlain p1) ((((c.s_fn fn').s_cf cf').s_nD nD').s_bD bD') ∧ Gw c ((((c.s_fn fn').s_cf cf').s_nD nD').s_bD bD') k_ sl_ := by
  obtain ⟨n, b, k, sl, e, hv, g⟩ := a_add h (k := s.top.k) (p := s.top.pl) (q := s.top.sec) (m := p1) (w := s.top.wd) hm
  obtain ⟨n2, b2, e2, hv2, g2⟩ := a_pop hv (t := t) (fa := fa) (nx := nx)
  exact ⟨n2, b2, n, b, _, _, by unfold F_Rd_endPlain Rs.endPlain; exact bw_ok e (bnd_ok e2 rfl), hv2, g.trans g2⟩
theorem a_closeItem {s : Rs} {t : Tok} {c : Rw} {fa nx : Int32} (h : RV s c) : ∃ fn' cf', F_Rd_closeItem c.fn s.rest.length c.cf s.mode s.levels s.signs s.loops t.k fa s.top.k s.top.pl s.top.wd s.top.sec s.top.pa s.top.ip s.top.ipl s.top.iw s.top.sg s.top.wb s.top.lim s.top.tg s.top.lb = some (fn', s.closeItem.rest.length, cf', s.closeItem.top.k, s.closeItem.top.pl, s.closeItem.top.wd, s.closeItem.top.sec, s.closeItem.top.pa, s.closeItem.top.ip, s.closeItem.top.ipl, s.closeItem.top.iw, s.closeItem.top.sg, s.closeItem.top.wb, s.closeItem.top.lim, s.closeItem.top.tg, s.closeItem.top.lb) ∧ RV s.closeItem ((c.s_fn fn').s_cf cf') ∧ Gw c ((c.s_fn fn').s_cf cf') 0 0 := by
  obtain ⟨n2, b2, e2, hv2, g2⟩ := a_pop (s := s.s_levels (s.levels - 1)) h (t := t) (fa := fa) (nx := nx)
  exact ⟨n2, b2, by unfold F_Rd_closeItem Rs.closeItem; exact bnd_ok e2 rfl, hv2, g2⟩
theorem a_closeCall {s : Rs} {t : Tok} {c : Rw} {fa nx : Int32} (h : RV s c) (hm : Sm s.top.pa) : ∃ fn' cf' nD' bD' k_ sl_, F_Rd_closeCall c.fn s.rest.length c.cf s.mode s.levels s.signs s.loops t.k fa s.top.k s.top.pl s.top.wd s.top.sec s.top.pa s.top.ip s.top.ipl s.top.iw s.top.sg s.top.wb s.top.lim s.top.tg s.top.lb (nI s.draft.length) c.nD c.bD = some ((fn', s.closeCall.rest.length, cf', s.closeCall.mode, s.closeCall.top.k, s.closeCall.top.pl, s.closeCall.top.wd, s.closeCall.top.sec, s.closeCall.top.pa, s.closeCall.top.ip, s.closeCall.top.ipl, s.closeCall.top.iw, s.closeCall.top.sg, s.closeCall.top.wb, s.closeCall.top.lim, s.closeCall.top.tg, s.closeCall.top.lb, nI s.closeCall.draft.length, nD', bD'), k_, sl_) ∧ RV s.closeCall ((((c.s_fn fn').s_cf cf').s_nD nD').s_bD bD') ∧ Gw c ((((c.s_fn fn').s_cf cf').s_nD nD').s_bD bD') k_ sl_ := by
  obtain ⟨n, b, k, sl, e, hv, g⟩ := a_add h (k := 33) (p := s.top.pl) (q := s.top.sec) (m := s.top.pa) (w := s.top.wd) hm.lt
  obtain ⟨n2, b2, e2, hv2, g2⟩ := a_closeItem hv (t := t) (fa := fa) (nx := nx)
  refine ⟨n2, b2, n, b, _, _, ?_, hv2, g.trans g2⟩
  unfold F_Rd_closeCall F_Rd_closeCall_17 Rs.closeCall
  by_cases c : s.top.k = 52
  · rw [if_pos c, if_pos c]; exact bw_ok e (bnd_ok e2 rfl)
  · rw [if_neg c, if_neg c]; exact bw_ok e (bnd_ok e2 rfl)
theorem a_endRow {s : Rs} {t : Tok} {c : Rw} {fa nx : Int32} (h : RV s c) (hm : Sm s.top.ip) : ∃ nD' bD' k_ sl_, F_Rd_endRow s.mode s.levels s.signs s.loops t.k fa s.top.k s.top.pl s.top.wd s.top.sec s.top.pa s.top.ip s.top.ipl s.top.iw s.top.sg s.top.wb s.top.lim s.top.tg s.top.lb (nI s.draft.length) c.nD c.bD = some ((nI s.endRow.draft.length, nD', bD'), k_, sl_) ∧ RV s.endRow ((c.s_nD nD').s_bD bD') ∧ Gw c ((c.s_nD nD').s_bD bD') k_ sl_ := by
  obtain ⟨n, b, k, sl, e, hv, g⟩ := a_add h (k := 37) (p := s.top.ipl) (q := -1) (w := s.top.iw) hm.succ
  exact ⟨n, b, _, _, by unfold F_Rd_endRow; rw [e]; rfl, hv, g⟩
theorem a_closeRows {s : Rs} {t : Tok} {c : Rw} {fa nx : Int32} (h : RV s c) (hm : Sm s.top.pa) : ∃ fn' cf' nD' bD' k_ sl_, F_Rd_closeRows c.fn s.rest.length c.cf s.mode s.levels s.signs s.loops t.k fa s.top.k s.top.pl s.top.wd s.top.sec s.top.pa s.top.ip s.top.ipl s.top.iw s.top.sg s.top.wb s.top.lim s.top.tg s.top.lb (nI s.draft.length) c.nD c.bD = some ((fn', s.closeRows.rest.length, cf', s.closeRows.mode, s.closeRows.top.k, s.closeRows.top.pl, s.closeRows.top.wd, s.closeRows.top.sec, s.closeRows.top.pa, s.closeRows.top.ip, s.closeRows.top.ipl, s.closeRows.top.iw, s.closeRows.top.sg, s.closeRows.top.wb, s.closeRows.top.lim, s.closeRows.top.tg, s.closeRows.top.lb, nI s.closeRows.draft.length, nD', bD'), k_, sl_) ∧ RV s.closeRows ((((c.s_fn fn').s_cf cf').s_nD nD').s_bD bD') ∧ Gw c ((((c.s_fn fn').s_cf cf').s_nD nD').s_bD bD') k_ sl_ := by
  obtain ⟨n, b, k, sl, e, hv, g⟩ := a_add h (k := 36) (p := s.top.pl) (q := -1) (m := s.top.pa) (w := s.top.wd) hm.lt
  obtain ⟨n2, b2, e2, hv2, g2⟩ := a_closeItem hv (t := t) (fa := fa) (nx := nx)
  refine ⟨n2, b2, n, b, _, _, ?_, hv2, g.trans g2⟩
  unfold F_Rd_closeRows Rs.closeRows
  by_cases c : s.top.tg = 0
  · rw [if_neg (fun x => x c)]; exact bw_ok e (bnd_ok e2 (if_pos c))
  · rw [if_pos c]; exact bw_ok e (bnd_ok e2 (if_neg c))
theorem a_addAll {s : Rs} {t : Tok} {c : Rw} {fa nx : Int32} (h : RV s c) : ∃ nD' bD' k_ sl_, F_Rd_addAll s.mode s.levels s.signs s.loops t.k fa nx t.k t.pl t.wd (nI s.draft.length) c.nD c.bD s.top.k s.top.pl s.top.wd s.top.sec s.top.pa s.top.ip s.top.ipl s.top.iw s.top.sg s.top.wb s.top.lim s.top.tg s.top.lb = some ((nI (s.addAll t).draft.length, nD', bD'), k_, sl_) ∧ RV (s.addAll t) ((c.s_nD nD').s_bD bD') ∧ Gw c ((c.s_nD nD').s_bD bD') k_ sl_ := by
  obtain ⟨n, b, k, sl, e, hv, g⟩ := a_leaf h (k := 34) (p := t.pl) (w := t.wd)
  exact ⟨n, b, _, _, by unfold F_Rd_addAll; rw [e]; rfl, hv, g⟩
theorem a_addItem {s : Rs} {t : Tok} {c : Rw} {fa nx : Int32} (h : RV s c) {p1 : Int32} : ∃ nD' bD' k_ sl_, F_Rd_addItem p1 s.mode s.levels s.signs s.loops t.k fa nx t.k t.pl t.wd (nI s.draft.length) c.nD c.bD = some ((nI (s.addItem t p1).draft.length, nD', bD'), k_, sl_) ∧ RV (s.addItem t p1) ((c.s_nD nD').s_bD bD') ∧ Gw c ((c.s_nD nD').s_bD bD') k_ sl_ := by
  obtain ⟨n, b, k, sl, e, hv, g⟩ := a_leaf h (k := p1) (p := t.pl) (w := t.wd)
  exact ⟨n, b, _, _, by unfold F_Rd_addItem; rw [e]; rfl, hv, g⟩
end

section
theorem a_takeSign {s : Rs} {t : Tok} {c : Rw} {fa nx : Int32} (h : RV s c) : (∃ s', (s.takeSign t) = some s' ∧ ∃ nW' bW' k_ sl_, F_Rd_takeSign s.mode s.levels s.signs s.loops t.k fa nx t.k t.pl t.wd (nI s.wait.length) c.nW c.bW = some ((1, s'.mode, s'.levels, s'.signs, nI s'.wait.length, nW', bW'), k_, sl_) ∧ RV s' ((c.s_nW nW').s_bW bW') ∧ Gw c ((c.s_nW nW').s_bW bW') k_ sl_ ∧ s'.loops = s.loops ∧ s'.rest = s.rest ∧ s'.top = s.top ∧ s'.draft = s.draft ∧ s'.funs = s.funs) ∨ ((s.takeSign t) = none ∧ ∃ y1 y2 y3 y4 y5 y6 k_ sl_, F_Rd_takeSign s.mode s.levels s.signs s.loops t.k fa nx t.k t.pl t.wd (nI s.wait.length) c.nW c.bW = some ((0, y1, y2, y3, y4, y5, y6), k_, sl_) ∧ RVd ((c.s_nW y5).s_bW y6) s.rest.length ∧ Gw c ((c.s_nW y5).s_bW y6) k_ sl_) := by
  unfold F_Rd_takeSign Rs.takeSign Rs.goDeeper F_Rd_goDeeper
  by_cases c0 : s.levels < 60
  · rw [if_pos c0, if_pos c0]
    obtain ⟨n, b, k, sl, e, hv, g⟩ := a_tadd (s := (s.s_levels (s.levels + 1)).s_signs (s.signs + 1)) h (k := 7) (p := t.pl) (w := t.wd)
    refine Or.inl ⟨_, rfl, n, b, _, _, ?_, hv, g, ⟨rfl, rfl, rfl, rfl, rfl⟩⟩
    unfold nm
    dsimp only
    rw [if_neg (by decide)]
    exact bw_ok (c' := 0) (s' := 0) e rfl
  · rw [if_neg c0, if_neg c0]
    exact Or.inr ⟨rfl, _, _, _, _, _, _, _, _, rfl, h.dead, Gw.rfl rfl rfl rfl rfl⟩
theorem a_takePowerSign {s : Rs} {t : Tok} {c : Rw} {fa nx : Int32} (h : RV s c) : (∃ s', (s.takePowerSign t) = some s' ∧ ∃ nW' bW' k_ sl_, F_Rd_takePowerSign s.mode s.levels s.signs s.loops t.k fa nx t.k t.pl t.wd (nI s.wait.length) c.nW c.bW = some ((1, s'.mode, nI s'.wait.length, nW', bW'), k_, sl_) ∧ RV s' ((c.s_nW nW').s_bW bW') ∧ Gw c ((c.s_nW nW').s_bW bW') k_ sl_ ∧ s'.levels = s.levels ∧ s'.signs = s.signs ∧ s'.loops = s.loops ∧ s'.rest = s.rest ∧ s'.top = s.top ∧ s'.draft = s.draft ∧ s'.funs = s.funs) ∨ ((s.takePowerSign t) = none ∧ ∃ y1 y2 y3 y4 k_ sl_, F_Rd_takePowerSign s.mode s.levels s.signs s.loops t.k fa nx t.k t.pl t.wd (nI s.wait.length) c.nW c.bW = some ((0, y1, y2, y3, y4), k_, sl_) ∧ RVd ((c.s_nW y3).s_bW y4) s.rest.length ∧ Gw c ((c.s_nW y3).s_bW y4) k_ sl_) := by
  unfold F_Rd_takePowerSign Rs.takePowerSign
  by_cases c0 : s.mode = 32
  · by_cases c1 : t.k = 45
    · rw [if_pos c0, if_pos c1, if_pos ⟨c0, c1⟩]
      obtain ⟨n, b, k, sl, e, hv, g⟩ := a_tadd h (k := 9) (p := t.pl) (w := t.wd)
      exact Or.inl ⟨_, rfl, n, b, _, _, bw_ok (c' := 0) (s' := 0) e rfl, hv, g, ⟨rfl, rfl, rfl, rfl, rfl, rfl, rfl⟩⟩
    · rw [if_pos c0, if_neg c1, if_neg (fun x => c1 x.2)]
      exact Or.inr ⟨rfl, _, _, _, _, _, _, rfl, h.dead, Gw.rfl rfl rfl rfl rfl⟩
  · rw [if_neg c0, if_neg (fun x => c0 x.1)]
    exact Or.inr ⟨rfl, _, _, _, _, _, _, rfl, h.dead, Gw.rfl rfl rfl rfl rfl⟩
theorem a_openItem {s : Rs} {t : Tok} {c : Rw} {fa nx : Int32} (h : RV s c) {p1 : Int32} : ∃ fn' cf' k_ sl_, F_Rd_openItem p1 c.fn s.rest.length c.cf s.mode s.levels s.signs s.loops t.k fa s.top.k s.top.pl s.top.wd s.top.sec s.top.pa s.top.ip s.top.ipl s.top.iw s.top.sg s.top.wb s.top.lim s.top.tg s.top.lb nx t.k t.pl t.wd (nI s.wait.length) = some ((fn', (s.openItem t p1).rest.length, cf', (s.openItem t p1).top.tg), k_, sl_) ∧ RV (s.openItem t p1) ((c.s_fn fn').s_cf cf') ∧ Gw c ((c.s_fn fn').s_cf cf') k_ sl_ := by
  obtain ⟨n, b, k, sl, e, hv, g⟩ := a_push h (t := t) (p1 := p1) (fa := fa) (nx := nx)
  refine ⟨n, b, _, _, ?_, hv.cg (s.top :: s.rest) s.draft s.wait s.funs rfl rfl rfl rfl rfl rfl rfl rfl, g⟩
  have e1 : (s.openItem t p1).rest = s.top :: s.rest := rfl
  have e2 : (s.push t p1).rest = s.top :: s.rest := rfl
  have e3 : (s.openItem t p1).top.tg = if p1 = 36 ∧ s.top.k = 20 ∧ s.top.pl = t.pl then 1 else 0 := rfl
  rw [e1, e3]
  rw [e2] at e
  unfold F_Rd_openItem F_Rd_openItem_34
  by_cases a : p1 = 36
  · by_cases c0 : s.top.k = 20
    · by_cases c1 : s.top.pl = t.pl
      · rw [if_pos c0, if_pos c1, if_pos ⟨a, c0, c1⟩]
        refine bw_ok (c' := 0) (s' := 0) e ((if_pos a).trans ((if_neg (by decide)).trans rfl))
      · rw [if_pos c0, if_neg c1, if_neg (fun x => c1 x.2.2)]
        refine bw_ok (c' := 0) (s' := 0) e ((if_pos a).trans ((if_pos rfl).trans rfl))
    · rw [if_neg c0, if_neg (fun x => c0 x.2.1)]
      refine bw_ok (c' := 0) (s' := 0) e ((if_pos a).trans ((if_pos rfl).trans rfl))
  · rw [if_neg (show ¬ (p1 = 36 ∧ s.top.k = 20 ∧ s.top.pl = t.pl) from fun x => a x.1)]
    by_cases c0 : s.top.k = 20
    · by_cases c1 : s.top.pl = t.pl
      · rw [if_pos c0, if_pos c1]
        refine bw_ok (c' := 0) (s' := 0) e ((if_neg a).trans rfl)
      · rw [if_pos c0, if_neg c1]
        refine bw_ok (c' := 0) (s' := 0) e ((if_neg a).trans rfl)
    · rw [if_neg c0]
      refine bw_ok (c' := 0) (s' := 0) e ((if_neg a).trans rfl)
theorem giveSec_ne {l : List Wt} {w : Wt} {p : Int32} : Rs.giveSec (l ++ [w]) p = l ++ [w.s_sec p] := by
  unfold Rs.giveSec
  rw [List.dropLast_concat, List.getLast?_concat]; rfl
theorem a_takeColon {s : Rs} {t : Tok} {c : Rw} {fa nx : Int32} (h : RV s c) : (∃ s', (s.takeColon t) = some s' ∧ ∃ nW' bW' k_ sl_, F_Rd_takeColon s.mode s.levels s.signs s.loops t.k fa (nI s.wait.length) s.top.k s.top.pl s.top.wd s.top.sec s.top.pa s.top.ip s.top.ipl s.top.iw s.top.sg s.top.wb s.top.lim s.top.tg s.top.lb nx t.k t.pl t.wd c.nW c.bW = some ((1, s'.mode, nI s'.wait.length, nW', bW'), k_, sl_) ∧ RV s' ((c.s_nW nW').s_bW bW') ∧ Gw c ((c.s_nW nW').s_bW bW') k_ sl_ ∧ s'.levels = s.levels ∧ s'.signs = s.signs ∧ s'.loops = s.loops ∧ s'.rest = s.rest ∧ s'.top = s.top ∧ s'.draft = s.draft ∧ s'.funs = s.funs) ∨ ((s.takeColon t) = none ∧ ∃ y1 y2 y3 y4 k_ sl_, F_Rd_takeColon s.mode s.levels s.signs s.loops t.k fa (nI s.wait.length) s.top.k s.top.pl s.top.wd s.top.sec s.top.pa s.top.ip s.top.ipl s.top.iw s.top.sg s.top.wb s.top.lim s.top.tg s.top.lb nx t.k t.pl t.wd c.nW c.bW = some ((0, y1, y2, y3, y4), k_, sl_) ∧ RVd ((c.s_nW y3).s_bW y4) s.rest.length ∧ Gw c ((c.s_nW y3).s_bW y4) k_ sl_) := by
  have l0 := Tk_lastT h.2.2.2.1.1 (j := 0) (by omega) (g := Wt.rk) (fun _ => rfl)
  have l2 := Tk_lastT h.2.2.2.1.1 (j := 2) (by omega) (g := Wt.sec) (fun _ => rfl)
  have l0 : F_Tk_last 0 (nI s.wait.length) c.nW c.bW = some (Rs.lastW s.wait Wt.rk) := l0
  have l2 : F_Tk_last 2 (nI s.wait.length) c.nW c.bW = some (Rs.lastW s.wait Wt.sec) := l2
  obtain ⟨n, b, k, sl, e, hv, g⟩ := a_takeOperation h (t := t) (p1 := 4) (fa := fa) (nx := nx)
  unfold F_Rd_takeColon Rs.takeColon
  by_cases c0 : nI s.wait.length = s.top.wb
  · rw [if_pos c0, if_pos (Or.inl c0)]
    exact Or.inl ⟨_, rfl, n, b, _, _, bw_ok (c' := 0) (s' := 0) e rfl, hv, g, ⟨rfl, rfl, rfl, rfl, rfl, rfl, rfl⟩⟩
  · rw [if_neg c0, l0, Option.bind_some]
    by_cases c1 : Rs.lastW s.wait Wt.rk = 4
    · rw [if_pos c1, l2, Option.bind_some, if_neg (show ¬ (nI s.wait.length = s.top.wb ∨ Rs.lastW s.wait Wt.rk ≠ 4) from fun x => x.elim c0 (fun y => y c1))]
      by_cases c2 : Rs.lastW s.wait Wt.sec = -1
      · rw [if_pos c2, if_neg (fun x => x c2)]
        rcases List.eq_nil_or_concat s.wait with hn | ⟨l, w, hw⟩
        · rw [hn] at c1; exact absurd c1 (by decide)
        · have hw : s.wait = l ++ [w] := by rw [hw, List.concat_eq_append]
          have hv0 := h.2.2.2.1.1
          rw [hw, List.map_append] at hv0
          obtain ⟨b', f1, f2⟩ := Tk_second (v := t.pl) hv0
          rw [List.length_map] at f1
          have eL : s.wait.length = l.length + 1 := by rw [hw, List.length_append, List.length_singleton]
          have eG : (Rs.giveSec s.wait t.pl).length = s.wait.length := by rw [hw, giveSec_ne, List.length_append, List.length_append]; rfl
          refine Or.inl ⟨_, rfl, c.nW, b', 0, 0, ?_, ⟨h.1, h.2.1, h.2.2.1, ⟨?_, ?_⟩, h.2.2.2.2⟩, Gw.rfl rfl rfl rfl rfl, ⟨rfl, rfl, rfl, rfl, rfl, rfl, rfl⟩⟩
          · show (F_Tk_giveLastSecond t.pl (nI s.wait.length) c.nW c.bW).bind _ = some ((1, 31, nI (Rs.giveSec s.wait t.pl).length, c.nW, b'), 0, 0)
            rw [eG, eL, f1]; rfl
          · show TkV c.nW b' ((Rs.giveSec s.wait t.pl).map Wt.row)
            rw [hw, giveSec_ne, List.map_append]; exact f2
          · show (Rs.giveSec s.wait t.pl).length ≤ 16384
            rw [eG]; exact h.2.2.2.1.2
      · rw [if_neg c2, if_pos c2]
        exact Or.inr ⟨rfl, _, _, _, _, _, _, rfl, h.dead, Gw.rfl rfl rfl rfl rfl⟩
    · rw [if_neg c1, if_pos (Or.inr c1)]
      exact Or.inl ⟨_, rfl, n, b, _, _, bw_ok (c' := 0) (s' := 0) e rfl, hv, g, ⟨rfl, rfl, rfl, rfl, rfl, rfl, rfl⟩⟩
theorem a_nextBlock {s : Rs} {t : Tok} {c : Rw} {fa nx : Int32} (h : RV s c) {p1 p2 p3 : Int32} (hm : Sm s.top.ip) : (∃ s', (s.nextBlock t p1 p2 p3) = some s' ∧ ∃ nD' bD' k_ sl_, F_Rd_nextBlock p1 p2 p3 s.mode s.levels s.signs s.loops t.k fa s.top.k s.top.pl s.top.wd s.top.sec s.top.pa s.top.ip s.top.ipl s.top.iw s.top.sg s.top.wb s.top.lim s.top.tg s.top.lb (nI s.draft.length) c.nD c.bD nx t.k t.pl t.wd = some ((1, s'.mode, s'.top.pa, s'.top.ip, s'.top.ipl, s'.top.lb, nI s'.draft.length, nD', bD'), k_, sl_) ∧ RV s' ((c.s_nD nD').s_bD bD') ∧ Gw c ((c.s_nD nD').s_bD bD') k_ sl_ ∧ s'.levels = s.levels ∧ s'.signs = s.signs ∧ s'.loops = s.loops ∧ s'.rest = s.rest ∧ s'.top.k = s.top.k ∧ s'.top.pl = s.top.pl ∧ s'.top.wd = s.top.wd ∧ s'.top.sec = s.top.sec ∧ s'.top.iw = s.top.iw ∧ s'.top.sg = s.top.sg ∧ s'.top.wb = s.top.wb ∧ s'.top.lim = s.top.lim ∧ s'.top.tg = s.top.tg ∧ s'.wait = s.wait ∧ s'.funs = s.funs) ∨ ((s.nextBlock t p1 p2 p3) = none ∧ ∃ y1 y2 y3 y4 y5 y6 y7 y8 k_ sl_, F_Rd_nextBlock p1 p2 p3 s.mode s.levels s.signs s.loops t.k fa s.top.k s.top.pl s.top.wd s.top.sec s.top.pa s.top.ip s.top.ipl s.top.iw s.top.sg s.top.wb s.top.lim s.top.tg s.top.lb (nI s.draft.length) c.nD c.bD nx t.k t.pl t.wd = some ((0, y1, y2, y3, y4, y5, y6, y7, y8), k_, sl_) ∧ RVd ((c.s_nD y7).s_bD y8) s.rest.length ∧ Gw c ((c.s_nD y7).s_bD y8) k_ sl_) := by
  unfold F_Rd_nextBlock Rs.nextBlock
  by_cases c0 : s.top.k = p1
  · by_cases c1 : s.top.lb = 0
    · rw [if_pos c0, if_pos c1, if_neg (fun x => x.elim (fun y => y c0) (fun y => y c1))]
      obtain ⟨n, b, k, sl, e, hv, g⟩ := a_endBlock h (t := t) (fa := fa) (nx := nx) hm
      exact Or.inl ⟨_, rfl, n, b, _, _, bw_ok (c' := 0) (s' := 0) e rfl, hv, g, ⟨rfl, rfl, rfl, rfl, rfl, rfl, rfl, rfl, rfl, rfl, rfl, rfl, rfl, rfl, rfl⟩⟩
    · rw [if_pos c0, if_neg c1, if_pos (Or.inr c1)]
      exact Or.inr ⟨rfl, _, _, _, _, _, _, _, _, _, _, rfl, h.dead, Gw.rfl rfl rfl rfl rfl⟩
  · rw [if_neg c0, if_pos (Or.inl c0)]
    exact Or.inr ⟨rfl, _, _, _, _, _, _, _, _, _, _, rfl, h.dead, Gw.rfl rfl rfl rfl rfl⟩
end

section
theorem isLoop_eq {k : Int32} : F_Rd_isLoop k = if Rs.isLoopK k = true then 1 else 0 := by
  unfold F_Rd_isLoop Rs.isLoopK
  by_cases a : k = 12
  · subst a; rfl
  · by_cases b : k = 13
    · subst b; rfl
    · rw [if_neg a, if_neg b, if_neg (by simp [a, b])]
theorem isCall_eq {k : Int32} : F_Rd_isCall k = if Rs.isCallK k = true then 1 else 0 := by
  unfold F_Rd_isCall Rs.isCallK
  by_cases a : k = 33
  · subst a; rfl
  · by_cases b : k = 52
    · subst b; rfl
    · rw [if_neg a, if_neg b, if_neg (by simp [a, b])]
theorem isWord_eq {k : Int32} : F_Sc_isWord k = if Rs.isWordK k = false then 0 else 1 := by
  unfold F_Sc_isWord Rs.isWordK
  by_cases a : k < 5
  · rw [if_pos a, if_pos]
    rw [decide_eq_false_iff_not]
    intro x
    have h1 := Int32.lt_iff_toInt_lt.mp a
    have h2 := Int32.le_iff_toInt_le.mp x.1
    omega
  · by_cases b : 18 < k
    · rw [if_neg a, if_pos b, if_pos]
      rw [decide_eq_false_iff_not]
      intro x
      have h1 := Int32.lt_iff_toInt_lt.mp b
      have h2 := Int32.le_iff_toInt_le.mp x.2
      omega
    · rw [if_neg a, if_neg b, if_neg]
      rw [decide_eq_false_iff_not]
      intro x
      apply x
      constructor
      · refine Int32.le_iff_toInt_le.mpr ?_
        have : ¬ k.toInt < (5 : Int32).toInt := fun y => a (Int32.lt_iff_toInt_lt.mpr y)
        omega
      · refine Int32.le_iff_toInt_le.mpr ?_
        have : ¬ (18 : Int32).toInt < k.toInt := fun y => b (Int32.lt_iff_toInt_lt.mpr y)
        omega
theorem i32_nle {a b : Int32} : ¬ a ≤ b ↔ b < a := by
  constructor
  · intro h
    refine Int32.lt_iff_toInt_lt.mpr ?_
    have : ¬ a.toInt ≤ b.toInt := fun y => h (Int32.le_iff_toInt_le.mpr y)
    omega
  · intro h x
    have h1 := Int32.lt_iff_toInt_lt.mp h
    have h2 := Int32.le_iff_toInt_le.mp x
    omega
theorem i32_nlt {a b : Int32} : ¬ a < b ↔ b ≤ a := by
  constructor
  · intro h
    refine Int32.le_iff_toInt_le.mpr ?_
    have : ¬ a.toInt < b.toInt := fun y => h (Int32.lt_iff_toInt_lt.mpr y)
    omega
  · intro h x
    have h1 := Int32.lt_iff_toInt_lt.mp x
    have h2 := Int32.le_iff_toInt_le.mp h
    omega
theorem a_openBlocks {s : Rs} {t : Tok} {c : Rw} {fa nx : Int32} (h : RV s c) {p1 p2 : Int32} : (∃ s', (s.openBlocks t p1 p2) = some s' ∧ ∃ fn' cf' k_ sl_, F_Rd_openBlocks p1 p2 c.fn s.rest.length c.cf s.mode s.levels s.signs s.loops t.k fa s.top.k s.top.pl s.top.wd s.top.sec s.top.pa s.top.ip s.top.ipl s.top.iw s.top.sg s.top.wb s.top.lim s.top.tg s.top.lb nx t.k t.pl t.wd (nI s.wait.length) = some ((fn', s'.rest.length, cf', 1, s'.mode, s'.levels, s'.signs, s'.loops, s'.top.k, s'.top.pl, s'.top.wd, s'.top.sec, s'.top.pa, s'.top.ip, s'.top.ipl, s'.top.iw, s'.top.sg, s'.top.wb, s'.top.lim, s'.top.tg, s'.top.lb), k_, sl_) ∧ RV s' ((c.s_fn fn').s_cf cf') ∧ Gw c ((c.s_fn fn').s_cf cf') k_ sl_ ∧ s'.draft = s.draft ∧ s'.wait = s.wait ∧ s'.funs = s.funs) ∨ ((s.openBlocks t p1 p2) = none ∧ ∃ y0 y1 y2 y4 y5 y6 y7 y8 y9 y10 y11 y12 y13 y14 y15 y16 y17 y18 y19 y20 k_ sl_, F_Rd_openBlocks p1 p2 c.fn s.rest.length c.cf s.mode s.levels s.signs s.loops t.k fa s.top.k s.top.pl s.top.wd s.top.sec s.top.pa s.top.ip s.top.ipl s.top.iw s.top.sg s.top.wb s.top.lim s.top.tg s.top.lb nx t.k t.pl t.wd (nI s.wait.length) = some ((y0, y1, y2, 0, y4, y5, y6, y7, y8, y9, y10, y11, y12, y13, y14, y15, y16, y17, y18, y19, y20), k_, sl_) ∧ RVd ((c.s_fn y0).s_cf y2) y1 ∧ Gw c ((c.s_fn y0).s_cf y2) k_ sl_) := by
  unfold F_Rd_openBlocks Rs.openBlocks Rs.goDeeper F_Rd_goDeeper
  by_cases c0 : s.levels < 60
  · rw [if_pos c0, if_pos c0]
    obtain ⟨n, b, k, sl, e, hv, g⟩ := a_push (s := s.s_levels (s.levels + 1)) h (t := t) (p1 := p1) (fa := fa) (nx := nx)
    refine Or.inl ⟨_, rfl, n, b, _, _, ?_, hv, g, ⟨rfl, rfl, rfl⟩⟩
    unfold nm
    dsimp only
    rw [if_neg (by decide), isLoop_eq]
    by_cases c1 : Rs.isLoopK p1 = true
    · rw [if_pos c1]
      exact bw_ok (c' := 0) (s' := 0) e ((if_neg (by decide)).trans rfl)
    · rw [if_neg c1]
      exact bw_ok (c' := 0) (s' := 0) e ((if_pos rfl).trans rfl)
  · rw [if_neg c0, if_neg c0]
    exact Or.inr ⟨rfl, _, _, _, _, _, _, _, _, _, _, _, _, _, _, _, _, _, _, _, _, _, _, rfl, h.dead, Gw.rfl rfl rfl rfl rfl⟩
theorem a_endBlocksS {s : Rs} {t : Tok} {c : Rw} {fa nx : Int32} (h : RV s c) (hm : Sm s.top.ip) (hm2 : Sm s.top.pa) : ∃ fn' cf' nD' bD' k_ sl_, F_Rd_endBlocks_34 s.mode s.levels s.signs s.loops t.k fa s.top.k s.top.pl s.top.wd s.top.sec s.top.pa s.top.ip s.top.ipl s.top.iw s.top.sg s.top.wb s.top.lim s.top.tg s.top.lb (nI s.draft.length) c.nD c.bD c.fn s.rest.length c.cf = some ((fn', s.endBlocksS.rest.length, cf', 1, s.endBlocksS.mode, s.endBlocksS.levels, s.endBlocksS.signs, s.endBlocksS.loops, s.endBlocksS.top.k, s.endBlocksS.top.pl, s.endBlocksS.top.wd, s.endBlocksS.top.sec, s.endBlocksS.top.pa, s.endBlocksS.top.ip, s.endBlocksS.top.ipl, s.endBlocksS.top.iw, s.endBlocksS.top.sg, s.endBlocksS.top.wb, s.endBlocksS.top.lim, s.endBlocksS.top.tg, s.endBlocksS.top.lb, nI s.endBlocksS.draft.length, nD', bD'), k_, sl_) ∧ RV s.endBlocksS ((((c.s_fn fn').s_cf cf').s_nD nD').s_bD bD') ∧ Gw c ((((c.s_fn fn').s_cf cf').s_nD nD').s_bD bD') k_ sl_ := by
  obtain ⟨n, b, k, sl, e, hv, g⟩ := a_endBlock h (t := t) (fa := fa) (nx := nx) hm
  obtain ⟨n1, b1, k1, sl1, e1, hv1, g1⟩ := a_add hv (k := s.top.k) (p := s.top.pl) (q := -1) (w := s.top.wd) hm2.succ
  obtain ⟨n2, b2, e2, hv2, g2⟩ := a_pop (s := (((s.endBlock.add s.top.k s.top.pl (-1) (s.top.pa + 1) s.top.wd).s_loops (s.loops - (if Rs.isLoopK s.top.k = true then 1 else 0))).s_levels (s.levels - 1))) hv1 (t := t) (fa := fa) (nx := nx)
  refine ⟨n2, b2, n1, b1, k + (k1 + 0), sl + (sl1 + 0), ?_, hv2, g.trans (g1.trans g2)⟩
  unfold F_Rd_endBlocks_34 F_Rd_endBlocks_97
  refine bw_ok e (bw_ok e1 ?_)
  unfold nm
  dsimp only
  rw [isLoop_eq]
  unfold Rs.endBlocksS
  by_cases c1 : Rs.isLoopK s.top.k = true
  · rw [if_pos c1] at e2 ⊢
    rw [if_neg (by decide)]
    exact bnd_ok e2 rfl
  · rw [if_neg c1] at e2 ⊢
    rw [if_pos rfl]
    exact bnd_ok e2 rfl
theorem a_endBlocks {s : Rs} {t : Tok} {c : Rw} {fa nx : Int32} (h : RV s c) (hm : Sm s.top.ip) (hm2 : Sm s.top.pa) : (∃ s', s.endBlocks = some s' ∧ ∃ fn' cf' nD' bD' k_ sl_, F_Rd_endBlocks c.fn s.rest.length c.cf s.mode s.levels s.signs s.loops t.k fa s.top.k s.top.pl s.top.wd s.top.sec s.top.pa s.top.ip s.top.ipl s.top.iw s.top.sg s.top.wb s.top.lim s.top.tg s.top.lb (nI s.draft.length) c.nD c.bD = some ((fn', s'.rest.length, cf', 1, s'.mode, s'.levels, s'.signs, s'.loops, s'.top.k, s'.top.pl, s'.top.wd, s'.top.sec, s'.top.pa, s'.top.ip, s'.top.ipl, s'.top.iw, s'.top.sg, s'.top.wb, s'.top.lim, s'.top.tg, s'.top.lb, nI s'.draft.length, nD', bD'), k_, sl_) ∧ RV s' ((((c.s_fn fn').s_cf cf').s_nD nD').s_bD bD') ∧ Gw c ((((c.s_fn fn').s_cf cf').s_nD nD').s_bD bD') k_ sl_ ∧ s'.wait = s.wait ∧ s'.funs = s.funs) ∨ (s.endBlocks = none ∧ ∃ y0 y1 y2 y4 y5 y6 y7 y8 y9 y10 y11 y12 y13 y14 y15 y16 y17 y18 y19 y20 y21 y22 y23 k_ sl_, F_Rd_endBlocks c.fn s.rest.length c.cf s.mode s.levels s.signs s.loops t.k fa s.top.k s.top.pl s.top.wd s.top.sec s.top.pa s.top.ip s.top.ipl s.top.iw s.top.sg s.top.wb s.top.lim s.top.tg s.top.lb (nI s.draft.length) c.nD c.bD = some ((y0, y1, y2, 0, y4, y5, y6, y7, y8, y9, y10, y11, y12, y13, y14, y15, y16, y17, y18, y19, y20, y21, y22, y23), k_, sl_) ∧ RVd ((((c.s_fn y0).s_cf y2).s_nD y22).s_bD y23) y1 ∧ Gw c ((((c.s_fn y0).s_cf y2).s_nD y22).s_bD y23) k_ sl_) := by
  obtain ⟨n2, b2, n1, b1, k, sl, e, hv, g⟩ := a_endBlocksS h (t := t) (fa := fa) (nx := nx) hm hm2
  unfold F_Rd_endBlocks Rs.endBlocks
  by_cases c0 : s.top.k = 0
  · rw [if_pos c0, if_pos (Or.inl c0)]
    exact Or.inr ⟨rfl, _, _, _, _, _, _, _, _, _, _, _, _, _, _, _, _, _, _, _, _, _, _, _, _, _, rfl, h.dead, Gw.rfl rfl rfl rfl rfl⟩
  · rw [if_neg c0]
    by_cases c1 : s.top.k = 14
    · by_cases c2 : s.top.lb = 0
      · rw [if_pos c1, if_pos c2, if_pos (Or.inr ⟨c1, c2⟩)]
        exact Or.inr ⟨rfl, _, _, _, _, _, _, _, _, _, _, _, _, _, _, _, _, _, _, _, _, _, _, _, _, _, rfl, h.dead, Gw.rfl rfl rfl rfl rfl⟩
      · rw [if_pos c1, if_neg c2, if_neg (fun x => x.elim c0 (fun y => c2 y.2))]
        exact Or.inl ⟨_, rfl, n2, b2, n1, b1, k, sl, e, hv, g, ⟨rfl, rfl⟩⟩
    · rw [if_neg c1, if_neg (fun x => x.elim c0 (fun y => c1 y.1))]
      exact Or.inl ⟨_, rfl, n2, b2, n1, b1, k, sl, e, hv, g, ⟨rfl, rfl⟩⟩
theorem a_settleStart {s : Rs} {t : Tok} {fa nx : Int32} : F_Rd_settleStart s.mode s.levels s.signs s.loops t.k fa s.top.k s.top.pl s.top.wd s.top.sec s.top.pa s.top.ip s.top.ipl s.top.iw s.top.sg s.top.wb s.top.lim s.top.tg s.top.lb nx t.k t.pl t.wd = ((s.settleStart t).mode, (s.settleStart t).top.ipl, (s.settleStart t).top.iw, (s.settleStart t).top.tg) := by
  have k82 : ∀ tg pl wd : Int32, F_Rd_settleStart_82 s.mode t.k tg pl wd = (if t.k = 41 ∨ t.k = 93 ∨ t.k = 58 ∨ (tg ≠ 0 ∧ t.k = 126) then s.mode else 31, pl, wd, tg) := by
    intro tg pl wd
    unfold F_Rd_settleStart_82
    by_cases a : t.k = 41
    · rw [if_pos a, if_pos (Or.inl a)]
    · rw [if_neg a]
      by_cases b : t.k = 93
      · rw [if_pos b, if_pos (Or.inr (Or.inl b))]
      · rw [if_neg b]
        by_cases c : t.k = 58
        · rw [if_pos c, if_pos (Or.inr (Or.inr (Or.inl c)))]
        · rw [if_neg c]
          by_cases d : tg = 0
          · rw [if_pos d, if_neg (fun x => x.elim a (fun x => x.elim b (fun x => x.elim c (fun y => y.1 d))))]
          · rw [if_neg d]
            by_cases e : t.k = 126
            · rw [if_pos e, if_pos (Or.inr (Or.inr (Or.inr ⟨d, e⟩)))]
            · rw [if_neg e, if_neg (fun x => x.elim a (fun x => x.elim b (fun x => x.elim c (fun y => e y.2))))]
  have k50 : ∀ pl wd : Int32, F_Rd_settleStart_50 s.mode t.k s.top.tg pl wd = (if t.k = 41 ∨ t.k = 93 ∨ t.k = 58 ∨ (s.canT t ≠ 0 ∧ t.k = 126) then s.mode else 31, pl, wd, s.canT t) := by
    intro pl wd
    unfold F_Rd_settleStart_50 Rs.canT
    by_cases a : s.top.tg = 0
    · rw [if_pos a, if_pos a, k82]
    · rw [if_neg a, if_neg a]
      by_cases b : t.k = 2
      · rw [if_pos b, if_pos (Or.inl b), k82]
      · rw [if_neg b]
        by_cases c : t.k = 126
        · rw [if_pos c, if_pos (Or.inr c), k82]
        · rw [if_neg c, if_neg (show ¬ (t.k = 2 ∨ t.k = 126) from fun x => x.elim b c), k82]
  have f1 : (s.settleStart t).mode = if t.k = 41 ∨ t.k = 93 ∨ t.k = 58 ∨ (s.canT t ≠ 0 ∧ t.k = 126) then s.mode else 31 := rfl
  have f2 : (s.settleStart t).top.ipl = if s.top.k = 36 ∧ s.top.ip = 0 then t.pl else s.top.ipl := rfl
  have f3 : (s.settleStart t).top.iw = if s.top.k = 36 ∧ s.top.ip = 0 then t.wd else s.top.iw := rfl
  have f4 : (s.settleStart t).top.tg = s.canT t := rfl
  rw [f1, f2, f3, f4]
  unfold F_Rd_settleStart
  by_cases a : s.top.k = 36
  · by_cases b : s.top.ip = 0
    · rw [if_pos a, if_pos b, k50, if_pos (show s.top.k = 36 ∧ s.top.ip = 0 from ⟨a, b⟩), if_pos (show s.top.k = 36 ∧ s.top.ip = 0 from ⟨a, b⟩)]
    · rw [if_pos a, if_neg b, k50, if_neg (show ¬ (s.top.k = 36 ∧ s.top.ip = 0) from fun x => b x.2), if_neg (show ¬ (s.top.k = 36 ∧ s.top.ip = 0) from fun x => b x.2)]
  · rw [if_neg a, k50, if_neg (show ¬ (s.top.k = 36 ∧ s.top.ip = 0) from fun x => a x.1), if_neg (show ¬ (s.top.k = 36 ∧ s.top.ip = 0) from fun x => a x.1)]
end

section
theorem RV.wdrop {s : Rs} {c : Rw} (h : RV s c) : RV (s.s_wait s.wait.dropLast) c := by
  refine ⟨h.1, h.2.1, h.2.2.1, ⟨⟨?_, h.2.2.2.1.1.cap⟩, ?_⟩, h.2.2.2.2⟩
  · show Tab 4 c.nW c.bW (s.wait.dropLast.map Wt.row)
    rw [List.map_dropLast]
    exact h.2.2.2.1.1.tab.dropL
  · show s.wait.dropLast.length ≤ 16384
    have := h.2.2.2.1.2
    rw [List.length_dropLast]; omega
theorem a_settle2 {s : Rs} {t : Tok} {c : Rw} {fa nx : Int32} (h : RV s c) : ∃ fn' cf' nD' bD' k_ sl_, F_Rd_settle_29 s.levels s.loops t.k fa nx t.k t.pl t.wd (nI s.wait.length) c.nW c.bW (nI s.draft.length) c.nD c.bD c.fn s.rest.length c.cf s.mode s.signs s.top.k s.top.pl s.top.wd s.top.sec s.top.pa s.top.ip s.top.ipl s.top.iw s.top.sg s.top.wb s.top.lim s.top.tg s.top.lb = some ((fn', (s.settle2 t).rest.length, cf', (s.settle2 t).mode, (s.settle2 t).levels, (s.settle2 t).signs, (s.settle2 t).top.k, (s.settle2 t).top.pl, (s.settle2 t).top.wd, (s.settle2 t).top.sec, (s.settle2 t).top.pa, (s.settle2 t).top.ip, (s.settle2 t).top.ipl, (s.settle2 t).top.iw, (s.settle2 t).top.sg, (s.settle2 t).top.wb, (s.settle2 t).top.lim, (s.settle2 t).top.tg, (s.settle2 t).top.lb, nI (s.settle2 t).wait.length, nI (s.settle2 t).draft.length, nD', bD'), k_, sl_) ∧ RV (s.settle2 t) ((((c.s_fn fn').s_cf cf').s_nD nD').s_bD bD') ∧ Gw c ((((c.s_fn fn').s_cf cf').s_nD nD').s_bD bD') k_ sl_ := by
  unfold F_Rd_settle_29
  by_cases m30 : s.mode = 30
  · have es : s.settle2 t = s.settleStart t := by unfold Rs.settle2; rw [if_pos m30]
    rw [es, if_pos m30, a_settleStart]
    refine ⟨c.fn, c.cf, c.nD, c.bD, 0, 0, ?_, h.cg s.rest s.draft s.wait s.funs rfl rfl rfl rfl rfl rfl rfl rfl, Gw.rfl rfl rfl rfl rfl⟩
    have ft : (s.settleStart t).top = (((s.top.s_ipl (s.settleStart t).top.ipl).s_iw (s.settleStart t).top.iw).s_tg (s.settleStart t).top.tg) := rfl
    have f1 : (s.settleStart t).rest = s.rest := rfl
    have f2 : (s.settleStart t).levels = s.levels := rfl
    have f3 : (s.settleStart t).signs = s.signs := rfl
    have f4 : (s.settleStart t).wait = s.wait := rfl
    have f5 : (s.settleStart t).draft = s.draft := rfl
    rw [f1, f2, f3, f4, f5]
    generalize (s.settleStart t).mode = m at ft ⊢
    generalize (s.settleStart t).top.ipl = i1 at ft ⊢
    generalize (s.settleStart t).top.iw = i2 at ft ⊢
    generalize (s.settleStart t).top.tg = i3 at ft ⊢
    rw [ft]
    rfl
  · rw [if_neg m30]
    have dead : ∃ fn' cf' nD' bD' k_ sl_, some ((c.fn, s.rest.length, c.cf, s.mode, s.levels, s.signs, s.top.k, s.top.pl, s.top.wd, s.top.sec, s.top.pa, s.top.ip, s.top.ipl, s.top.iw, s.top.sg, s.top.wb, s.top.lim, s.top.tg, s.top.lb, nI s.wait.length, nI s.draft.length, c.nD, c.bD), 0, 0) = some ((fn', s.rest.length, cf', s.mode, s.levels, s.signs, s.top.k, s.top.pl, s.top.wd, s.top.sec, s.top.pa, s.top.ip, s.top.ipl, s.top.iw, s.top.sg, s.top.wb, s.top.lim, s.top.tg, s.top.lb, nI s.wait.length, nI s.draft.length, nD', bD'), k_, sl_) ∧ RV s ((((c.s_fn fn').s_cf cf').s_nD nD').s_bD bD') ∧ Gw c ((((c.s_fn fn').s_cf cf').s_nD nD').s_bD bD') k_ sl_ :=
      ⟨c.fn, c.cf, c.nD, c.bD, 0, 0, rfl, h, Gw.rfl rfl rfl rfl rfl⟩
    by_cases m40 : s.mode = 40
    · rw [if_pos m40]
      by_cases k40 : t.k = 40
      · have es : s.settle2 t = s := by
          unfold Rs.settle2
          rw [if_neg m30, if_neg (fun x => x.2 k40), if_neg (fun x => absurd (m40.symm.trans x.1) (by decide)), if_neg (fun x => absurd (m40.symm.trans x.1) (by decide)), if_neg (fun x => absurd (m40.symm.trans x) (by decide))]
        rw [es, if_pos k40]
        unfold F_Rd_settle_71 F_Rd_settle_98 F_Rd_settle_142
        rw [if_neg (fun x => absurd (m40.symm.trans x) (by decide)), if_neg (fun x => absurd (m40.symm.trans x) (by decide)), if_neg (fun x => absurd (m40.symm.trans x) (by decide))]
        exact dead
      · have es : s.settle2 t = s.endItem := by
          unfold Rs.settle2
          rw [if_neg m30, if_pos ⟨m40, k40⟩]
        rw [es, if_neg k40]
        exact ⟨c.fn, c.cf, c.nD, c.bD, 0, 0, rfl, h.cg s.rest s.draft s.wait s.funs rfl rfl rfl rfl rfl rfl rfl rfl, Gw.rfl rfl rfl rfl rfl⟩
    · rw [if_neg m40]
      unfold F_Rd_settle_71
      by_cases m41 : s.mode = 41
      · rw [if_pos m41]
        by_cases k61 : t.k = 61
        · have es : s.settle2 t = s := by
            unfold Rs.settle2
            rw [if_neg m30, if_neg (fun x => m40 x.1), if_neg (fun x => x.2 k61), if_neg (fun x => absurd (m41.symm.trans x.1) (by decide)), if_neg (fun x => absurd (m41.symm.trans x) (by decide))]
          rw [es, if_pos k61]
          unfold F_Rd_settle_98 F_Rd_settle_142
          rw [if_neg (fun x => absurd (m41.symm.trans x) (by decide)), if_neg (fun x => absurd (m41.symm.trans x) (by decide))]
          exact dead
        · have es : s.settle2 t = s.s_mode 34 := by
            unfold Rs.settle2
            rw [if_neg m30, if_neg (fun x => m40 x.1), if_pos ⟨m41, k61⟩]
          rw [es, if_neg k61]
          exact ⟨c.fn, c.cf, c.nD, c.bD, 0, 0, rfl, h.cg s.rest s.draft s.wait s.funs rfl rfl rfl rfl rfl rfl rfl rfl, Gw.rfl rfl rfl rfl rfl⟩
      · rw [if_neg m41]
        unfold F_Rd_settle_98
        by_cases m42 : s.mode = 42
        · rw [if_pos m42]
          by_cases kk : t.k = 44 ∨ t.k = 93
          · have es : s.settle2 t = (((s.s_wait s.wait.dropLast).endItem).becomeTargets (Rs.lastW s.wait Wt.pl)) := by
              unfold Rs.settle2
              rw [if_neg m30, if_neg (fun x => m40 x.1), if_neg (fun x => m41 x.1), if_neg (fun x => kk.elim x.2.1 x.2.2), if_pos m42]
            have e142 : ∀ X Y : Option ((Nat × Nat × (Nat → FrC) × Int32 × Int32 × Int32 × Int32 × Int32 × Int32 × Int32 × Int32 × Int32 × Int32 × Int32 × Int32 × Int32 × Int32 × Int32 × Int32 × Int32 × Int32 × Nat × (Nat → Int32)) × Nat × Nat), (if t.k = 44 then X else if t.k = 93 then X else Y) = X := by
              intro X Y
              by_cases a : t.k = 44
              · rw [if_pos a]
              · rw [if_neg a, if_pos (kk.resolve_left a)]
            rw [es, e142]
            unfold F_Rd_settle_142
            rw [if_pos m42]
            obtain ⟨n, b, n2, b2, k, sl, e, hv, g⟩ := a_becomeTargets (s := (s.s_wait s.wait.dropLast).endItem) (h.wdrop.cg s.rest s.draft s.wait.dropLast s.funs rfl rfl rfl rfl rfl rfl rfl rfl) (t := t) (p1 := Rs.lastW s.wait Wt.pl) (fa := fa) (nx := nx)
            have l1 := Tk_lastT h.2.2.2.1.1 (j := 1) (by omega) (g := Wt.pl) (fun _ => rfl)
            have dd := Tk_dropT h.2.2.2.1.2
            rw [← List.length_dropLast] at dd
            refine ⟨n, b, n2, b2, _, _, bnd_ok l1 ?_, hv, g⟩
            unfold nm
            dsimp only
            rw [dd]
            exact bw_ok (c' := 0) (s' := 0) e rfl
          · have k44 : ¬ t.k = 44 := fun x => kk (Or.inl x)
            have k93 : ¬ t.k = 93 := fun x => kk (Or.inr x)
            have es : s.settle2 t = ((s.s_top (s.top.s_tg 0)).s_mode 31) := by
              unfold Rs.settle2
              rw [if_neg m30, if_neg (fun x => m40 x.1), if_neg (fun x => m41 x.1), if_pos ⟨m42, k44, k93⟩]
            rw [es, if_neg k44, if_neg k93]
            exact ⟨c.fn, c.cf, c.nD, c.bD, 0, 0, rfl, h.cg s.rest s.draft s.wait s.funs rfl rfl rfl rfl rfl rfl rfl rfl, Gw.rfl rfl rfl rfl rfl⟩
        · have es : s.settle2 t = s := by
            unfold Rs.settle2
            rw [if_neg m30, if_neg (fun x => m40 x.1), if_neg (fun x => m41 x.1), if_neg (fun x => m42 x.1), if_neg m42]
          rw [es, if_neg m42]
          unfold F_Rd_settle_142
          rw [if_neg m42]
          exact dead
theorem a_settle {s : Rs} {t : Tok} {c : Rw} {fa nx : Int32} (h : RV s c) : ∃ fn' cf' nD' bD' k_ sl_, F_Rd_settle c.fn s.rest.length c.cf s.mode s.levels s.signs s.loops t.k fa s.top.k s.top.pl s.top.wd s.top.sec s.top.pa s.top.ip s.top.ipl s.top.iw s.top.sg s.top.wb s.top.lim s.top.tg s.top.lb nx t.k t.pl t.wd (nI s.wait.length) c.nW c.bW (nI s.draft.length) c.nD c.bD = some ((fn', (s.settle t).rest.length, cf', (s.settle t).mode, (s.settle t).levels, (s.settle t).signs, (s.settle t).top.k, (s.settle t).top.pl, (s.settle t).top.wd, (s.settle t).top.sec, (s.settle t).top.pa, (s.settle t).top.ip, (s.settle t).top.ipl, (s.settle t).top.iw, (s.settle t).top.sg, (s.settle t).top.wb, (s.settle t).top.lim, (s.settle t).top.tg, (s.settle t).top.lb, nI (s.settle t).wait.length, nI (s.settle t).draft.length, nD', bD'), k_, sl_) ∧ RV (s.settle t) ((((c.s_fn fn').s_cf cf').s_nD nD').s_bD bD') ∧ Gw c ((((c.s_fn fn').s_cf cf').s_nD nD').s_bD bD') k_ sl_ := by
  unfold F_Rd_settle Rs.settle
  by_cases m0 : s.mode = 0
  · rw [if_pos m0]
    unfold nm
    dsimp only
    rw [isWord_eq]
    by_cases w : Rs.isWordK t.k = false
    · rw [if_pos w, if_pos rfl, if_pos ⟨m0, w⟩]
      obtain ⟨n, b, k, sl, e, hv, g⟩ := a_push h (t := t) (p1 := 20) (fa := fa) (nx := nx)
      obtain ⟨n2, b2, d2, a2, k2, sl2, e2, hv2, g2⟩ := a_settle2 (s := (s.push t 20).s_mode 30) (t := t) (fa := fa) (nx := nx) (hv.cg (s.top :: s.rest) s.draft s.wait s.funs rfl rfl rfl rfl rfl rfl rfl rfl)
      exact ⟨n2, b2, d2, a2, _, _, bw_ok e e2, hv2, g.trans g2⟩
    · rw [if_neg w, if_neg (show ¬ (1 : Int32) = 0 by decide), if_neg (show ¬ (s.mode = 0 ∧ Rs.isWordK t.k = false) from fun x => w x.2)]
      exact a_settle2 h
  · rw [if_neg m0, if_neg (fun x => m0 x.1)]
    exact a_settle2 h
end

section
theorem limG_above (cf : Nat → FrC) : ∀ (i j : Nat), i < j → (limG cf i).2 j = cf j
  | 0, j, h => by
    unfold limG
    split
    · exact up_ne (by omega)
    · rfl
  | i + 1, j, h => by
    unfold limG
    split
    · exact up_ne (by omega)
    · split
      · exact limG_above cf i j (by omega)
      · rfl
theorem lim01 (x : Int32) : (if 2 ≤ x then (0 : Int32) else 1) = if decide (x < 2) = true then 1 else 0 := by
  by_cases a : x < 2
  · rw [if_neg (fun y => (i32_nlt.mpr y) a), if_pos (decide_eq_true a)]
  · rw [if_pos (i32_nlt.mp a), if_neg (by simpa using a)]
theorem limit_ok : ∀ (rest : List Fm) (f : Fm) (cf : Nat → FrC), cf rest.length = f → (∀ i, i < rest.length → rest[rest.length - 1 - i]? = some (cf i)) →
    (limG cf rest.length).1 = (if (Rs.limit f rest).1 = true then 1 else 0) ∧ (limG cf rest.length).2 rest.length = (Rs.limit f rest).2.1 ∧ (∀ i, i < rest.length → (Rs.limit f rest).2.2[rest.length - 1 - i]? = some ((limG cf rest.length).2 i)) ∧ (Rs.limit f rest).2.2.length = rest.length ∧ (Rs.limit f rest).2.1 = f.s_lim (Rs.limit f rest).2.1.lim
  | [], f, cf, h0, hc => by
    have h0 : cf 0 = f := h0
    have e : limG cf ([] : List Fm).length = if f.k = 33 then (if 2 ≤ f.pa then 0 else 1, va_up cf 0 (slim f 1)) else (0, cf) := by
      show limG cf 0 = _
      unfold limG
      rw [h0]
    have e2 : Rs.limit f [] = if f.k = 33 then (decide (f.pa < 2), f.s_lim 1, []) else (false, f, []) := by unfold Rs.limit; rfl
    rw [e, e2]
    by_cases c : f.k = 33
    · rw [if_pos c, if_pos c]
      exact ⟨lim01 _, (up_self : va_up cf 0 (slim f 1) 0 = slim f 1), fun i hi => absurd hi (Nat.not_lt_zero _), rfl, rfl⟩
    · rw [if_neg c, if_neg c]
      exact ⟨rfl, h0, fun i hi => absurd hi (Nat.not_lt_zero _), rfl, rfl⟩
  | g :: r, f, cf, h0, hc => by
    have h0 : cf (r.length + 1) = f := h0
    have e : limG cf (g :: r).length = if f.k = 33 then (if 2 ≤ f.pa then 0 else 1, va_up cf (r.length + 1) (slim f 1)) else if f.k = 50 ∨ f.k = 36 then limG cf r.length else (0, cf) := by
      show limG cf (r.length + 1) = _
      rw [limG, h0]
    have e2 : Rs.limit f (g :: r) = if f.k = 33 then (decide (f.pa < 2), f.s_lim 1, g :: r) else if f.k = 50 ∨ f.k = 36 then ((Rs.limit g r).1, f, (Rs.limit g r).2.1 :: (Rs.limit g r).2.2) else (false, f, g :: r) := by rw [Rs.limit]
    have hl : (g :: r).length = r.length + 1 := rfl
    rw [e, e2]
    by_cases c : f.k = 33
    · rw [if_pos c, if_pos c]
      refine ⟨lim01 _, up_self, fun i hi => ?_, rfl, rfl⟩
      rw [hc i hi]
      show _ = some (va_up cf (r.length + 1) (slim f 1) i)
      rw [up_ne (by rw [hl] at hi; omega)]
    · rw [if_neg c, if_neg c]
      by_cases d : f.k = 50 ∨ f.k = 36
      · rw [if_pos d, if_pos d]
        have hg : cf r.length = g := by
          have := hc r.length (by rw [hl]; omega)
          rw [hl, show r.length + 1 - 1 - r.length = 0 by omega] at this
          exact (Option.some.inj this).symm
        obtain ⟨i1, i2, i3, i4, i5⟩ := limit_ok r g cf hg (fun i hi => by
          have := hc i (by rw [hl]; omega)
          rw [hl, show r.length + 1 - 1 - i = (r.length - 1 - i) + 1 by omega, List.getElem?_cons_succ] at this
          exact this)
        refine ⟨i1, ?_, fun i hi => ?_, ?_, rfl⟩
        · show (limG cf r.length).2 (r.length + 1) = f
          rw [limG_above cf _ _ (by omega), h0]
        · rw [hl] at hi ⊢
          by_cases x : i = r.length
          · subst x
            rw [show r.length + 1 - 1 - r.length = 0 by omega, List.getElem?_cons_zero, i2]
          · rw [show r.length + 1 - 1 - i = (r.length - 1 - i) + 1 by omega, List.getElem?_cons_succ]
            exact i3 i (by omega)
        · show (Rs.limit g r).2.2.length + 1 = r.length + 1
          rw [i4]
      · rw [if_neg d, if_neg d]
        exact ⟨rfl, h0, fun i hi => hc i hi, rfl, rfl⟩
theorem a_limit {s : Rs} {t : Tok} {c : Rw} {fa nx : Int32} (h : RV s c) : ∃ cf', F_Rd_limitNearestCall c.fn s.rest.length c.cf s.mode s.levels s.signs s.loops t.k fa s.top.k s.top.pl s.top.wd s.top.sec s.top.pa s.top.ip s.top.ipl s.top.iw s.top.sg s.top.wb s.top.lim s.top.tg s.top.lb = some (cf', (if (Rs.limit s.top s.rest).1 = true then 1 else 0), (Rs.limit s.top s.rest).2.1.lim) ∧ RV ((s.s_top (Rs.limit s.top s.rest).2.1).s_rest (Rs.limit s.top s.rest).2.2) (c.s_cf cf') ∧ (Rs.limit s.top s.rest).2.1 = s.top.s_lim (Rs.limit s.top s.rest).2.1.lim ∧ (Rs.limit s.top s.rest).2.2.length = s.rest.length := by
  have h1 := h.1
  obtain ⟨i1, i2, i3, i4, i5⟩ := limit_ok s.rest s.top (va_up c.cf s.rest.length s.top) up_self (fun i hi => by rw [up_ne (by omega)]; exact h.2.1 i hi)
  refine ⟨(limG (va_up c.cf s.rest.length s.top) s.rest.length).2, ?_, ⟨?_, ?_, h.2.2⟩, i5, i4⟩
  · unfold F_Rd_limitNearestCall
    rw [grd_pos h1]
    show some ((limG (va_up c.cf s.rest.length s.top) s.rest.length).2, (limG (va_up c.cf s.rest.length s.top) s.rest.length).1, ((limG (va_up c.cf s.rest.length s.top) s.rest.length).2 s.rest.length).2.2.2.2.2.2.2.2.2.2.1) = _
    rw [i1, i2]
  · show (Rs.limit s.top s.rest).2.2.length < c.fn
    rw [i4]; exact h1
  · intro i hi
    have hi : i < (Rs.limit s.top s.rest).2.2.length := hi
    show (Rs.limit s.top s.rest).2.2[(Rs.limit s.top s.rest).2.2.length - 1 - i]? = _
    rw [i4] at hi ⊢
    exact i3 i hi
theorem a_takeComma {s : Rs} {t : Tok} {c : Rw} {fa nx : Int32} (h : RV s c) : (∃ s', s.takeComma = some s' ∧ F_Rd_takeComma s.mode s.levels s.signs s.loops t.k fa s.top.k s.top.pl s.top.wd s.top.sec s.top.pa s.top.ip s.top.ipl s.top.iw s.top.sg s.top.wb s.top.lim s.top.tg s.top.lb = (1, s'.mode, s'.top.pa, s'.top.ip, s'.top.tg) ∧ RV s' c ∧ s'.levels = s.levels ∧ s'.signs = s.signs ∧ s'.loops = s.loops ∧ s'.rest = s.rest ∧ s'.top.k = s.top.k ∧ s'.top.pl = s.top.pl ∧ s'.top.wd = s.top.wd ∧ s'.top.sec = s.top.sec ∧ s'.top.ipl = s.top.ipl ∧ s'.top.iw = s.top.iw ∧ s'.top.sg = s.top.sg ∧ s'.top.wb = s.top.wb ∧ s'.top.lim = s.top.lim ∧ s'.top.lb = s.top.lb ∧ s'.draft = s.draft ∧ s'.wait = s.wait ∧ s'.funs = s.funs) ∨ (s.takeComma = none ∧ ∃ y1 y2 y3 y4, F_Rd_takeComma s.mode s.levels s.signs s.loops t.k fa s.top.k s.top.pl s.top.wd s.top.sec s.top.pa s.top.ip s.top.ipl s.top.iw s.top.sg s.top.wb s.top.lim s.top.tg s.top.lb = (0, y1, y2, y3, y4) ∧ RVd c s.rest.length) := by
  have room : F_Rd_hasRoomForName s.mode s.levels s.signs s.loops t.k fa s.top.k s.top.pl s.top.wd s.top.sec s.top.pa (s.top.ip + 1) s.top.ipl s.top.iw s.top.sg s.top.wb s.top.lim s.top.tg s.top.lb = if s.top.ip + 1 < 8 then 1 else 0 := by
    unfold F_Rd_hasRoomForName
    by_cases a : s.top.ip + 1 < 8
    · rw [if_pos a]; first | rw [if_pos a] | rw [if_neg (i32_nle.mpr a)]
    · rw [if_neg a]; first | rw [if_neg a] | rw [if_pos (i32_nlt.mp a)]
  have hun : ∀ m : Int32, F_Rd_takeComma_136 s.mode s.top.pa s.top.ip s.top.tg m = if s.top.pa + 1 < m then (1, 30, s.top.pa + 1, s.top.ip, s.top.tg) else (0, s.mode, s.top.pa + 1, s.top.ip, s.top.tg) := by
    intro m
    unfold F_Rd_takeComma_136
    by_cases a : s.top.pa + 1 < m
    · rw [if_pos a, if_neg (i32_nle.mpr a)]
    · rw [if_neg a, if_pos (i32_nlt.mp a)]
  have h100 : F_Rd_takeComma_100 s.mode s.top.pa s.top.ip s.top.lim s.top.tg = if s.top.pa + 1 < (if s.top.lim ≠ 0 then 2 else 8) then (1, 30, s.top.pa + 1, s.top.ip, s.top.tg) else (0, s.mode, s.top.pa + 1, s.top.ip, s.top.tg) := by
    unfold F_Rd_takeComma_100
    by_cases a : s.top.lim = 0
    · rw [if_pos a, hun, if_neg (show ¬ s.top.lim ≠ 0 from fun x => x a)]
    · rw [if_neg a, hun, if_pos (show s.top.lim ≠ 0 from a)]
  have fin : (∃ s', (if s.top.pa + 1 < (if s.top.lim ≠ 0 then 2 else 8) then some ((s.s_top (s.top.s_pa (s.top.pa + 1))).goOn 30) else none) = some s' ∧ F_Rd_takeComma_100 s.mode s.top.pa s.top.ip s.top.lim s.top.tg = (1, s'.mode, s'.top.pa, s'.top.ip, s'.top.tg) ∧ RV s' c ∧ s'.levels = s.levels ∧ s'.signs = s.signs ∧ s'.loops = s.loops ∧ s'.rest = s.rest ∧ s'.top.k = s.top.k ∧ s'.top.pl = s.top.pl ∧ s'.top.wd = s.top.wd ∧ s'.top.sec = s.top.sec ∧ s'.top.ipl = s.top.ipl ∧ s'.top.iw = s.top.iw ∧ s'.top.sg = s.top.sg ∧ s'.top.wb = s.top.wb ∧ s'.top.lim = s.top.lim ∧ s'.top.lb = s.top.lb ∧ s'.draft = s.draft ∧ s'.wait = s.wait ∧ s'.funs = s.funs) ∨ ((if s.top.pa + 1 < (if s.top.lim ≠ 0 then 2 else 8) then some ((s.s_top (s.top.s_pa (s.top.pa + 1))).goOn 30) else none) = none ∧ ∃ y1 y2 y3 y4, F_Rd_takeComma_100 s.mode s.top.pa s.top.ip s.top.lim s.top.tg = (0, y1, y2, y3, y4) ∧ RVd c s.rest.length) := by
    rw [h100]
    by_cases a : s.top.pa + 1 < (if s.top.lim ≠ 0 then 2 else 8)
    · rw [if_pos a, if_pos a]
      exact Or.inl ⟨_, rfl, rfl, h, ⟨rfl, rfl, rfl, rfl, rfl, rfl, rfl, rfl, rfl, rfl, rfl, rfl, rfl, rfl, rfl, rfl, rfl⟩⟩
    · rw [if_neg a, if_neg a]
      exact Or.inr ⟨rfl, _, _, _, _, rfl, h.dead⟩
  unfold F_Rd_takeComma Rs.takeComma
  by_cases a : s.top.k = 36
  · rw [if_pos a, if_pos a]
    by_cases b : s.top.tg = 0
    · rw [if_pos b, if_neg (show ¬ (s.top.tg ≠ 0 ∧ s.top.ip + 1 < 8) from fun x => x.1 b)]
      exact Or.inl ⟨_, rfl, rfl, h, ⟨rfl, rfl, rfl, rfl, rfl, rfl, rfl, rfl, rfl, rfl, rfl, rfl, rfl, rfl, rfl, rfl, rfl⟩⟩
    · rw [if_neg b, room]
      unfold nm
      dsimp only
      by_cases d : s.top.ip + 1 < 8
      · rw [if_pos d, if_neg (show ¬ (1 : Int32) = 0 by decide), if_pos (show s.top.tg ≠ 0 ∧ s.top.ip + 1 < 8 from ⟨b, d⟩)]
        exact Or.inl ⟨_, rfl, rfl, h, ⟨rfl, rfl, rfl, rfl, rfl, rfl, rfl, rfl, rfl, rfl, rfl, rfl, rfl, rfl, rfl, rfl, rfl⟩⟩
      · rw [if_neg d, if_pos rfl, if_neg (show ¬ (s.top.tg ≠ 0 ∧ s.top.ip + 1 < 8) from fun x => d x.2)]
        exact Or.inl ⟨_, rfl, rfl, h, ⟨rfl, rfl, rfl, rfl, rfl, rfl, rfl, rfl, rfl, rfl, rfl, rfl, rfl, rfl, rfl, rfl, rfl⟩⟩
  · rw [if_neg a, if_neg a, isCall_eq]
    unfold nm
    dsimp only
    by_cases b : Rs.isCallK s.top.k = true
    · rw [if_pos b, if_neg (show ¬ (1 : Int32) = 0 by decide), if_neg (show ¬ (Rs.isCallK s.top.k = false ∧ s.top.k ≠ 18 ∧ s.top.k ≠ 19) from fun x => by rw [b] at x; exact absurd x.1 (by decide))]
      exact fin
    · rw [if_neg b, if_pos rfl]
      by_cases d : s.top.k = 18
      · rw [if_pos d, if_neg (show ¬ (Rs.isCallK s.top.k = false ∧ s.top.k ≠ 18 ∧ s.top.k ≠ 19) from fun x => x.2.1 d)]
        exact fin
      · by_cases e : s.top.k = 19
        · rw [if_neg d, if_pos e, if_neg (show ¬ (Rs.isCallK s.top.k = false ∧ s.top.k ≠ 18 ∧ s.top.k ≠ 19) from fun x => x.2.2 e)]
          exact fin
        · rw [if_neg d, if_neg e, if_pos (show Rs.isCallK s.top.k = false ∧ s.top.k ≠ 18 ∧ s.top.k ≠ 19 from ⟨Bool.eq_false_iff.mpr b, d, e⟩)]
          exact Or.inr ⟨rfl, _, _, _, _, rfl, h.dead⟩
end
