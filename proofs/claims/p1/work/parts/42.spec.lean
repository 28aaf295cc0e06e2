/-! THE MIDDLE: the document's shell as pure functions over clean values. spW: what all shells share: open files (kind, of, position), lines in the pipes, files, input, output, trace, commands begun, subshells, lines made, stopped. spF: what a subshell copies: status, handles, nesting, variables, functions, actions, pipefail, depth, background, first nesting. spS: a shell with its end and its jobs (state 0 waiting 1 run 2 running, status, chain, subshell). -/
abbrev spL : Type := List Int32
abbrev spO : Type := Nat × Nat × Nat
abbrev spW : Type := List spO × List (List spL) × List (Int64 × List spL) × List spL × List spL × List (Int32 × Int32 × Int32) × Nat × Nat × Nat × Bool
abbrev spH : Type := Nat → Option Nat
abbrev spF : Type := Int32 × spH × Nat × List (Int64 × spL) × List (Int64 × Int32) × (Nat → Int64) × Bool × Int32 × Bool × Nat
abbrev spJ : Type := Nat × Int32 × Int32 × spF
abbrev spS : Type := spF × Bool × List spJ
abbrev wO (w : spW) : List spO := w.1
abbrev wU (w : spW) : List (List spL) := w.2.1
abbrev wF (w : spW) : List (Int64 × List spL) := w.2.2.1
abbrev wI (w : spW) : List spL := w.2.2.2.1
abbrev wP (w : spW) : List spL := w.2.2.2.2.1
abbrev wT (w : spW) : List (Int32 × Int32 × Int32) := w.2.2.2.2.2.1
abbrev wB (w : spW) : Nat := w.2.2.2.2.2.2.1
abbrev wK (w : spW) : Nat := w.2.2.2.2.2.2.2.1
abbrev wM (w : spW) : Nat := w.2.2.2.2.2.2.2.2.1
abbrev wX (w : spW) : Bool := w.2.2.2.2.2.2.2.2.2
abbrev uO (w : spW) (v : List spO) : spW := (v, w.2)
abbrev uU (w : spW) (v : List (List spL)) : spW := (w.1, v, w.2.2)
abbrev uF (w : spW) (v : List (Int64 × List spL)) : spW := (w.1, w.2.1, v, w.2.2.2)
abbrev uI (w : spW) (v : List spL) : spW := (w.1, w.2.1, w.2.2.1, v, w.2.2.2.2)
abbrev uP (w : spW) (v : List spL) : spW := (w.1, w.2.1, w.2.2.1, w.2.2.2.1, v, w.2.2.2.2.2)
abbrev uT (w : spW) (v : List (Int32 × Int32 × Int32)) : spW := (w.1, w.2.1, w.2.2.1, w.2.2.2.1, w.2.2.2.2.1, v, w.2.2.2.2.2.2)
abbrev uB (w : spW) (v : Nat) : spW := (w.1, w.2.1, w.2.2.1, w.2.2.2.1, w.2.2.2.2.1, w.2.2.2.2.2.1, v, w.2.2.2.2.2.2.2)
abbrev uK (w : spW) (v : Nat) : spW := (w.1, w.2.1, w.2.2.1, w.2.2.2.1, w.2.2.2.2.1, w.2.2.2.2.2.1, w.2.2.2.2.2.2.1, v, w.2.2.2.2.2.2.2.2)
abbrev uM (w : spW) (v : Nat) : spW := (w.1, w.2.1, w.2.2.1, w.2.2.2.1, w.2.2.2.2.1, w.2.2.2.2.2.1, w.2.2.2.2.2.2.1, w.2.2.2.2.2.2.2.1, v, w.2.2.2.2.2.2.2.2.2)
abbrev uX (w : spW) (v : Bool) : spW := (w.1, w.2.1, w.2.2.1, w.2.2.2.1, w.2.2.2.2.1, w.2.2.2.2.2.1, w.2.2.2.2.2.2.1, w.2.2.2.2.2.2.2.1, w.2.2.2.2.2.2.2.2.1, v)
abbrev fS (f : spF) : Int32 := f.1
abbrev fH (f : spF) : spH := f.2.1
abbrev fN (f : spF) : Nat := f.2.2.1
abbrev fV (f : spF) : List (Int64 × spL) := f.2.2.2.1
abbrev fU (f : spF) : List (Int64 × Int32) := f.2.2.2.2.1
abbrev fA (f : spF) : Nat → Int64 := f.2.2.2.2.2.1
abbrev fP (f : spF) : Bool := f.2.2.2.2.2.2.1
abbrev fD (f : spF) : Int32 := f.2.2.2.2.2.2.2.1
abbrev fG (f : spF) : Bool := f.2.2.2.2.2.2.2.2.1
abbrev fB (f : spF) : Nat := f.2.2.2.2.2.2.2.2.2
abbrev vS (f : spF) (v : Int32) : spF := (v, f.2)
abbrev vH (f : spF) (v : spH) : spF := (f.1, v, f.2.2)
abbrev vN (f : spF) (v : Nat) : spF := (f.1, f.2.1, v, f.2.2.2)
abbrev vV (f : spF) (v : List (Int64 × spL)) : spF := (f.1, f.2.1, f.2.2.1, v, f.2.2.2.2)
abbrev vU (f : spF) (v : List (Int64 × Int32)) : spF := (f.1, f.2.1, f.2.2.1, f.2.2.2.1, v, f.2.2.2.2.2)
abbrev vA (f : spF) (v : Nat → Int64) : spF := (f.1, f.2.1, f.2.2.1, f.2.2.2.1, f.2.2.2.2.1, v, f.2.2.2.2.2.2)
abbrev vP (f : spF) (v : Bool) : spF := (f.1, f.2.1, f.2.2.1, f.2.2.2.1, f.2.2.2.2.1, f.2.2.2.2.2.1, v, f.2.2.2.2.2.2.2)
abbrev vG (f : spF) (v : Bool) : spF := (f.1, f.2.1, f.2.2.1, f.2.2.2.1, f.2.2.2.2.1, f.2.2.2.2.2.1, f.2.2.2.2.2.2.1, f.2.2.2.2.2.2.2.1, v, f.2.2.2.2.2.2.2.2.2)
/-- names with values, in the order in which they came -/
def tbF {β : Type} (l : List (Int64 × β)) (k : Int64) : Option Nat := l.findIdx? (fun q => decide (q.1 = k))
def tbP {β : Type} (l : List (Int64 × β)) (k : Int64) (v : β) : List (Int64 × β) := match tbF l k with
  | some i => l.set i (k, v)
  | none => l ++ [(k, v)]
/-- the next line by an open file: 0 the line, 1 the end, 2 none can be read, 3 the shell is in the background -/
def rdLine (w : spW) (oh : Option Nat) (bg : Bool) : (Nat × spL) × spW := match oh with
  | none => ((2, []), w)
  | some o =>
    let q := (wO w).getD o (0, 0, 0)
    if q.1 = 1 then
      if bg then ((3, []), w) else match wI w with
        | [] => ((1, []), w)
        | l :: r => ((0, l), uI w r)
    else if q.1 = 2 then match ((wF w).getD q.2.1 (0, [])).2[q.2.2]? with
        | some l => ((0, l), uO w ((wO w).set o (q.1, q.2.1, q.2.2 + 1)))
        | none => ((1, []), w)
    else if q.1 = 5 then match (wU w).getD q.2.1 [] with
        | [] => ((1, []), w)
        | l :: r => ((0, l), uU w ((wU w).set q.2.1 r))
    else ((2, []), w)
def putAt (ls : List spL) (p : Nat) (l : spL) : List spL := if p < ls.length then ls.set p l else ls ++ List.replicate (p - ls.length) [] ++ [l]
abbrev setF (w : spW) (f : Nat) (ls : List spL) : spW := uF w ((wF w).set f (((wF w).getD f (0, [])).1, ls))
abbrev lnsOf (w : spW) (f : Nat) : List spL := ((wF w).getD f (0, [])).2
/-- a line is written to an open file -/
def wrLine (w : spW) (oh : Option Nat) (l : spL) : Bool × spW := match oh with
  | none => (false, w)
  | some o =>
    let q := (wO w).getD o (0, 0, 0)
    if q.1 = 1 then if 100 ≤ (wP w).length then (false, w) else (true, uP w (wP w ++ [l]))
    else if q.1 = 3 then if 40 ≤ q.2.2 then (false, w) else (true, uO (setF w q.2.1 (putAt (lnsOf w q.2.1) q.2.2 l)) ((wO w).set o (q.1, q.2.1, q.2.2 + 1)))
    else if q.1 = 4 then if 40 ≤ (lnsOf w q.2.1).length then (false, w) else (true, setF w q.2.1 (lnsOf w q.2.1 ++ [l]))
    else if q.1 = 6 then (true, uU w ((wU w).set q.2.1 ((wU w).getD q.2.1 [] ++ [l])))
    else (false, w)
/-- a new open file -/
abbrev opn (w : spW) (k o : Nat) : Nat × spW := ((wO w).length, uO w (wO w ++ [(k, o, 0)]))
/-- the file of a name, made if there is none -/
def mkF (w : spW) (n : Int64) : Option (Nat × spW) := match tbF (wF w) n with
  | some i => some (i, w)
  | none => if 8 ≤ (wF w).length then none else some ((wF w).length, uF w (wF w ++ [(n, [])]))
/-- a redirection: 0 from a file, 1 to a file, 2 behind a file, 3 as another handle, 4 closed -/
abbrev spR : Type := Nat × Nat × Int64
def redOp (r : spR) (w : spW) (f : spF) : Option (spW × spF) :=
  if r.1 = 0 then match tbF (wF w) r.2.2 with
    | none => none
    | some i => some ((opn w 2 i).2, vH f (fup (fH f) r.2.1 (some (opn w 2 i).1)))
  else if r.1 = 1 then match mkF w r.2.2 with
    | none => none
    | some (i, w1) => let w2 := setF w1 i []; some ((opn w2 3 i).2, vH f (fup (fH f) r.2.1 (some (opn w2 3 i).1)))
  else if r.1 = 2 then match mkF w r.2.2 with
    | none => none
    | some (i, w1) => some ((opn w1 4 i).2, vH f (fup (fH f) r.2.1 (some (opn w1 4 i).1)))
  else if r.1 = 3 then match fH f r.2.2.toNatClampNeg with
    | none => none
    | some o => some (w, vH f (fup (fH f) r.2.1 (some o)))
  else some (w, vH f (fup (fH f) r.2.1 none))
def redOps : List spR → spW → spF → Bool × spW × spF
  | [], w, f => (true, w, f)
  | r :: l, w, f => match redOp r w f with
    | none => (false, w, f)
    | some (w1, f1) => redOps l w1 f1
/-- the bytes of a name; of a number's digits -/
def chrV (c : Int32) : Int32 := (if 27 ≤ c then (48 + c) - 27 else (97 + c) - 1).toInt8.toInt32
def spell : Nat → Int64 → spL
  | 0, _ => []
  | n + 1, v => (if 37 ≤ v then spell n (v / 37) else []) ++ [chrV (v - v / 37 * 37).toInt32]
def digits : Nat → Nat → spL
  | 0, _ => []
  | n + 1, v => (if 9 < v then digits n (v / 10) else []) ++ [nI (48 + v % 10)]
/-- an argument: 0 a word, 1 a variable, 2 the status -/
abbrev spA : Type := Nat × Int64
def evA (f : spF) (a : spA) : spL := if a.1 = 0 then spell 13 a.2 else if a.1 = 2 then digits 10 (fS f).toNatClampNeg else match tbF (fV f) a.2 with
  | none => []
  | some i => ((fV f).getD i (0, [])).2
def isLt (c : Int32) : Bool := (decide (97 ≤ c) && decide (c ≤ 122)) || (decide (48 ≤ c) && decide (c ≤ 57))
def ltV (c : Int32) : Int64 := if 97 ≤ c then ((c - 97) + 1).toInt64 else ((c - 48) + 27).toInt64
def nmV (l : spL) : Int64 := l.foldl (fun v c => 37 * v + ltV c) 0
/-- the name that a text is, else 0; the number, else -1 -/
def nmL (l : spL) : Int64 := if 1 ≤ l.length ∧ l.length ≤ 12 ∧ l.all isLt = true then nmV l else 0
def nuL (l : spL) : Int32 := if 1 ≤ l.length ∧ l.length ≤ 5 ∧ (l.all fun c => decide (48 ≤ c) && decide (c ≤ 57)) = true then l.foldl (fun v c => 10 * v + c - 48) 0 else -1
def cmdNames : List Int64 := [1038484, 11312755, 257683, 918640, 4164, 286309, 1037755, 26216, 286474, 33798580, 1166741, 229]
def sigNames : List Int64 := [11745, 12859, 1020584, 286474]
/-- 0 a function's name, 1 true 2 false 3 echo 4 read 5 cat 6 exec 7 trap 8 set 9 exit 10 raise 11 wait 12 fg -/
def cmdK (n : Int64) : Nat := match cmdNames.findIdx? (fun q => decide (q = n)) with
  | some i => i + 1
  | none => 0
def sigK (n : Int64) : Option Nat := sigNames.findIdx? (fun q => decide (q = n))
def joinA : List spL → spL
  | [] => []
  | [a] => a
  | a :: b :: l => a ++ 32 :: joinA (b :: l)
def asgn (f : spF) (n : Int64) (l : spL) : Option spF := match tbF (fV f) n with
  | some _ => some (vV f (tbP (fV f) n l))
  | none => if 20 ≤ (fV f).length then none else some (vV f (tbP (fV f) n l))
def opEcho (as : List spL) (w : spW) (f : spF) : Int32 × spW × spF :=
  let q := wrLine (uM w (wM w + 1)) (fH f 1) ((joinA as).take 80)
  (if q.1 then 0 else 1, q.2, f)
/-- -2: the shell ends, because it read in the background -/
def opRead (as : List spL) (w : spW) (f : spF) : Int32 × spW × spF :=
  if as.length ≠ 1 ∨ nmL (as.getD 0 []) = 0 then (2, w, f) else
  let q := rdLine w (fH f 0) (fG f)
  if q.1.1 = 3 then (-2, q.2, f) else if q.1.1 = 2 then (1, q.2, f) else match asgn f (nmL (as.getD 0 [])) q.1.2 with
    | none => (1, q.2, f)
    | some f1 => (if q.1.1 = 0 then 0 else 1, q.2, f1)
def opTrap (as : List spL) (w : spW) (f : spF) : Int32 × spW × spF :=
  if as.length ≠ 2 ∨ nmL (as.getD 0 []) = 0 then (2, w, f) else match sigK (nmL (as.getD 1 [])) with
    | none => (2, w, f)
    | some g => (0, w, vA f (fup (fA f) g (if nmL (as.getD 0 []) = 10620950253 then 0 else if nmL (as.getD 0 []) = 637945088 then -2 else nmL (as.getD 0 []))))
def opSet (as : List spL) (w : spW) (f : spF) : Int32 × spW × spF :=
  if as.length ≠ 2 ∨ nmL (as.getD 0 []) ≠ 1543120751558 ∨ (nmL (as.getD 1 []) ≠ 569 ∧ nmL (as.getD 1 []) ≠ 20763) then (2, w, f) else (0, w, vP f (decide (nmL (as.getD 1 []) = 569)))
def opAsgn (n : Int64) (a : spL) (w : spW) (f : spF) : Int32 × spW × spF := match asgn f n (a.take 80) with
  | none => (1, uM w (wM w + 1), f)
  | some f1 => (0, uM w (wM w + 1), f1)
/-- the status that exit ends the shell with; else 2 -/
def opExit (as : List spL) (f : spF) : Option Int32 := match as with
  | [] => some (fS f)
  | [a] => if nuL a = -1 then none else some (nuL a % 256)
  | _ => none
/-- a subshell -/
def subF (f : spF) : spF := (fS f, fH f, fN f, fV f, fU f, (fun k => if fA f k = -2 then -2 else 0), fP f, fD f + 1, fG f, fN f)
abbrev frk (w : spW) : spW := uK w (wK w + 1)
def rec60 (t : List (Int32 × Int32 × Int32)) (r : Int32 × Int32 × Int32) : List (Int32 × Int32 × Int32) := if t.length = 60 then t.tail ++ [r] else t ++ [r]
/-- cat: all lines, at most so many readings; 0 at the end, 1 where it fails, -2 in the background -/
def catN : Nat → spW → spF → Option (Int32 × spW)
  | 0, _, _ => none
  | n + 1, w, f =>
    let q := rdLine w (fH f 0) (fG f)
    if q.1.1 = 3 then some (-2, q.2) else if q.1.1 = 2 then some (1, q.2) else if q.1.1 = 1 then some (0, q.2) else
    let p := wrLine q.2 (fH f 1) q.1.2
    if p.1 = true then catN n p.2 f else some (1, p.2)
