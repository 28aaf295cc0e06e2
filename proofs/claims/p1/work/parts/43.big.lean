/-! THE MIDDLE: the big steps of a script, over the nodes of its text (kind, a, b, c, redirected, next, at, name: rows by number; -1 none) -/
abbrev spT : Type := (Nat → Int32) × (Nat → Int32) × (Nat → Int32) × (Nat → Int32) × (Nat → Int32) × (Nat → Int32) × (Nat → Int32) × (Nat → Int64)
abbrev tK (T : spT) (n : Int32) : Int32 := T.1 n.toNatClampNeg
abbrev tA (T : spT) (n : Int32) : Int32 := T.2.1 n.toNatClampNeg
abbrev tB (T : spT) (n : Int32) : Int32 := T.2.2.1 n.toNatClampNeg
abbrev tC (T : spT) (n : Int32) : Int32 := T.2.2.2.1 n.toNatClampNeg
abbrev tR (T : spT) (n : Int32) : Int32 := T.2.2.2.2.1 n.toNatClampNeg
abbrev tN (T : spT) (n : Int32) : Int32 := T.2.2.2.2.2.1 n.toNatClampNeg
abbrev tO (T : spT) (n : Int32) : Int32 := T.2.2.2.2.2.2.1 n.toNatClampNeg
abbrev tM (T : spT) (n : Int32) : Int64 := T.2.2.2.2.2.2.2 n.toNatClampNeg
/-- the nodes from v on -/
def chn (T : spT) : Nat → Int32 → List Int32
  | 0, _ => []
  | k + 1, v => if v = -1 then [] else v :: chn T k (tN T v)
/-- a redirection, an argument, out of its node -/
def dRed (T : spT) (r : Int32) : spR :=
  if tB T r = 15398 ∨ tB T r = 15910 then (if tC T r = -1 then (4, (tA T r).toNatClampNeg, 0) else (3, (tA T r).toNatClampNeg, (tC T r).toInt64))
  else if tB T r = 60 then (0, (tA T r).toNatClampNeg, tM T r)
  else if tB T r = 62 then (1, (tA T r).toNatClampNeg, tM T r)
  else (2, (tA T r).toNatClampNeg, tM T r)
def dArg (T : spT) (a : Int32) : spA := if tK T a = 11 then (0, tM T a) else if tK T a = 13 then (2, 0) else (1, tM T a)
def redsOf (T : spT) (c : Int32) : List spR := (chn T 3000 (tR T c)).map (dRed T)
def argsOf (T : spT) (c : Int32) : List spA := (chn T 3000 (tA T c)).map (dArg T)
abbrev spX : Type := spW × spS
abbrev spC : Type := Nat × Int32 × Int32 × Int32 × Option Nat
abbrev xw (x : spX) : spW := x.1
abbrev xf (x : spX) : spF := x.2.1
abbrev xe (x : spX) : Bool := x.2.2.1
abbrev xj (x : spX) : List spJ := x.2.2.2
abbrev zf (x : spX) (f : spF) : spX := (x.1, f, x.2.2)
abbrev zwf (x : spX) (w : spW) (f : spF) : spX := (w, f, x.2.2)
abbrev zSt (x : spX) (v : Int32) : spX := zf x (vS (xf x) v)
/-- the shell ends with a status -/
abbrev zEnd (x : spX) (v : Int32) : spX := (x.1, vS (xf x) v, true, xj x)
abbrev hlt (x : spX) : Bool := wX (xw x) || xe x
section MXG
variable (T : spT) (rec : spC → spX → Option spX)
/-- the tasks -/
abbrev cScr (n : Int32) : spC := (0, n, 0, 0, none)
abbrev cChs (n : Int32) : spC := (1, n, 0, 0, none)
abbrev cCh (n : Int32) : spC := (2, n, 0, 0, none)
abbrev cPps (n : Int32) : spC := (3, n, 0, 0, none)
abbrev cPp (n : Int32) : spC := (4, n, 0, 0, none)
abbrev cSev (n l r : Int32) (p : Option Nat) : spC := (5, n, l, r, p)
abbrev cCmd (n : Int32) : spC := (6, n, 0, 0, none)
abbrev cBdy (n : Int32) : spC := (7, n, 0, 0, none)
abbrev cWhl (n l : Int32) : spC := (8, n, l, 0, none)
abbrev cCal (n : Int32) : spC := (9, n, 0, 0, none)
abbrev cFin : spC := (10, 0, 0, 0, none)
abbrev cJbs (j : Nat) : spC := (11, 0, 0, 0, some j)
abbrev cJob (j : Nat) (b : Int32) : spC := (12, 0, b, 0, some j)
def gScr (n : Int32) (x : spX) : Option spX := if n = -1 then some (zSt x 0) else if tA T n = -1 then some (zSt x 0) else rec (cChs (tA T n)) x
def mkJob (ch : Int32) (x : spX) : spX := if 8 ≤ (xj x).length then zSt x 1 else (frk (xw x), vS (xf x) 0, xe x, xj x ++ [(0, 0, ch, subF (xf x))])
def gChs (v : Int32) (x : spX) : Option spX := if v = -1 ∨ hlt x = true then some x else (if tB T v = 1 then some (mkJob v x) else rec (cCh v) x).bind fun x1 => rec (cChs (tN T v)) x1
def gCh (v : Int32) (x : spX) : Option spX := rec (cPps (tA T v)) x
def gPps (p : Int32) (x : spX) : Option spX := if p = -1 ∨ hlt x = true then some x else
  if (tC T p = 1 ∧ fS (xf x) ≠ 0) ∨ (tC T p = 2 ∧ fS (xf x) = 0) then rec (cPps (tN T p)) x else (rec (cPp p) x).bind fun x1 => rec (cPps (tN T p)) x1
def neg1 (x : spX) (b : Bool) : spX := if hlt x = false ∧ b = true then zSt x (if fS (xf x) = 0 then 1 else 0) else x
def gPp (p : Int32) (x : spX) : Option spX := (if tN T (tA T p) = -1 then rec (cCmd (tA T p)) x else rec (cSev (tA T p) 0 0 none) x).bind fun x1 => some (neg1 x1 (decide (tB T p = 1)))
/-- a subshell's handle becomes a new open file -/
abbrev setH (w : spW) (f : spF) (h k o : Nat) : spW × spF := ((opn w k o).2, vH f (fup (fH f) h (some (opn w k o).1)))
/-- the subshell of a pipeline's command: its handles 0 and 1, and the end of a pipe for the next one -/
def pipd (w : spW) (f : spF) (ahead : Option Nat) (last : Bool) : spW × spF × Option Nat :=
  let f1 := match ahead with
    | none => f
    | some o => vH f (fup (fH f) 0 (some o))
  if last then (w, f1, none) else
  let q := setH (uU w (wU w ++ [[]])) f1 1 6 (wU w).length
  let r := opn q.1 5 (wU w).length
  (r.2, q.2, some r.1)
def gSev (cm l r : Int32) (ahead : Option Nat) (x : spX) : Option spX :=
  if cm = -1 ∨ wX (xw x) = true then some (if wX (xw x) = true then x else zSt x (if fP (xf x) = true then r else l)) else
  let q := pipd (frk (xw x)) (subF (xf x)) ahead (decide (tN T cm = -1))
  (rec (cCmd cm) (q.1, q.2.1, false, [])).bind fun y1 =>
  (if wX (xw y1) = true then some y1 else rec cFin y1).bind fun y2 =>
  rec (cSev (tN T cm) (fS (xf y2)) (if fS (xf y2) = 0 then r else fS (xf y2)) q.2.2) (xw y2, x.2)
def isRec (k : Int32) : Bool := decide (k = 9) || decide (k = 10)
/-- the end of a command: its handles are set back, it is recorded -/
def cmdEnd (cm : Int32) (hs : spH) (back : Bool) (x : spX) : spX :=
  let x1 := if back then zf x (vH (xf x) hs) else x
  if hlt x1 = false ∧ isRec (tK T cm) = true then zwf x1 (uT (xw x1) (rec60 (wT (xw x1)) (tO T cm, fS (xf x1), fD (xf x1)))) (xf x1) else x1
def stays (cm : Int32) : Bool := decide (tK T cm = 10) && decide (tM T cm = 286309) && decide (tA T cm = -1)
def gCmd (cm : Int32) (x : spX) : Option spX :=
  if wB (xw x) = 300 then some (uX (xw x) true, x.2) else
  let q := redOps (redsOf T cm) (uB (xw x) (wB (xw x) + 1)) (xf x)
  (if q.1 = true then rec (cBdy cm) (zwf x q.2.1 q.2.2) else some (zSt (zwf x q.2.1 q.2.2) 1)).bind fun x1 =>
  some (cmdEnd T cm (fH (xf x)) (decide (tR T cm ≠ -1) && !(q.1 && stays T cm)) x1)
def gRnd (cm : Int32) (x : spX) : Option spX := (rec (cScr (tA T cm)) (frk (xw x), subF (xf x), false, [])).bind fun y1 =>
  if wX (xw y1) = true then some (xw y1, x.2) else (rec cFin y1).bind fun y2 =>
  some (if wX (xw y2) = true then (xw y2, x.2) else (xw y2, vS (xf x) (fS (xf y2)), x.2.2))
def gIf (cm : Int32) (x : spX) : Option spX := (rec (cCh (tA T cm)) x).bind fun x1 =>
  if hlt x1 = true then some x1 else rec (cScr (if fS (xf x1) = 0 then tB T cm else tC T cm)) x1
def gWhl (cm l : Int32) (x : spX) : Option spX := if hlt x = true then some x else if fS (xf x) ≠ 0 then some (zSt x l) else
  (rec (cScr (tB T cm)) x).bind fun x1 => if hlt x1 = true then some x1 else (rec (cCh (tA T cm)) x1).bind fun x2 => rec (cWhl cm (fS (xf x1))) x2
def gDef (cm : Int32) (x : spX) : spX := match tbF (fU (xf x)) (tM T cm) with
  | some _ => zf x (vS (vU (xf x) (tbP (fU (xf x)) (tM T cm) (tA T cm))) 0)
  | none => if 10 ≤ (fU (xf x)).length then zSt x 1 else zf x (vS (vU (xf x) (tbP (fU (xf x)) (tM T cm) (tA T cm))) 0)
def gCal (n : Int32) (x : spX) : Option spX := if fN (xf x) = 4 then some (zSt x 126) else
  (rec (cScr n) (zf x (vN (xf x) (fN (xf x) + 1)))).bind fun x1 => some (zf x1 (vN (xf x1) (fN (xf x1) - 1)))
/-- the last word: a status, if the shell goes on -/
def zRes (x : spX) (r : Int32 × spW × spF) : spX := if r.1 = -2 then zEnd (zwf x r.2.1 r.2.2) 149 else zSt (zwf x r.2.1 r.2.2) r.1
def zUn (x : spX) (v : Int32) : spX := if hlt x = true then x else zSt x v
def jbAt (x : spX) (j : Nat) : spJ := (xj x).getD j (0, 0, 0, xf x)
def gFnc (n : Int64) (x : spX) : Option spX := match tbF (fU (xf x)) n with
  | none => some (zSt x 127)
  | some i => rec (cCal ((fU (xf x)).getD i (0, 0)).2) x
def gRse (as : List spL) (x : spX) : Option spX :=
  if as.length ≠ 1 then some (zSt x 2) else match sigK (nmL (as.getD 0 [])) with
    | none => some (zSt x 2)
    | some g => if 3 ≤ g then some (zSt x 2) else
      if fA (xf x) g = 0 then some (zEnd x (128 + (if g = 2 then 15 else nI (g + 1)))) else
      (if 0 < fA (xf x) g then match tbF (fU (xf x)) (fA (xf x) g) with
        | none => some x
        | some i => rec (cCal ((fU (xf x)).getD i (0, 0)).2) x
      else some x).bind fun x1 => some (zUn x1 0)
def gWt (fg : Bool) (as : List spL) (x : spX) : Option spX :=
  if as.length = 0 ∧ fg = false then (rec (cJbs 0) x).bind fun x1 => some (zUn x1 0) else
  if as.length ≠ 1 then some (zSt x 2) else
  let j := nuL (as.getD 0 [])
  if j = -1 then some (zSt x 2) else
  if j < 1 ∨ nI (xj x).length < j then some (zSt x 127) else
  if (jbAt x (j.toNatClampNeg - 1)).1 ≠ 0 then some (zSt x 127) else
  (rec (cJob (j.toNatClampNeg - 1) (if fg then (if fG (xf x) = true then 1 else 0) else 1)) x).bind fun x1 => some (zUn x1 (jbAt x1 (j.toNatClampNeg - 1)).2.1)
def gPln (k : Nat) (n : Int64) (as : List spL) (x : spX) : Option spX :=
  if k = 0 then gFnc rec n x else
  if k = 1 then some (zSt x 0) else if k = 2 then some (zSt x 1) else
  if k = 3 then some (zRes x (opEcho as (xw x) (xf x))) else
  if k = 4 then some (zRes x (opRead as (xw x) (xf x))) else
  if k = 5 then (if as.length = 0 then (catN 12041 (xw x) (xf x)).bind fun q => some (zRes x (q.1, q.2, xf x)) else some (zSt x 2)) else
  if k = 6 then some (zSt x (if as.length = 0 then 0 else 2)) else
  if k = 7 then some (zRes x (opTrap as (xw x) (xf x))) else
  if k = 8 then some (zRes x (opSet as (xw x) (xf x))) else
  if k = 9 then some (match opExit as (xf x) with
    | none => zSt x 2
    | some v => zEnd x v) else
  if k = 10 then gRse rec as x else gWt rec (decide (k = 12)) as x
def gBdy (cm : Int32) (x : spX) : Option spX :=
  if tK T cm = 4 then gRnd T rec cm x else if tK T cm = 5 then rec (cScr (tA T cm)) x else if tK T cm = 6 then gIf T rec cm x else
  if tK T cm = 7 then (rec (cCh (tA T cm)) x).bind fun x1 => rec (cWhl cm 0) x1 else
  if tK T cm = 8 then some (gDef T cm x) else
  if tK T cm = 9 then some (zRes x (opAsgn (tM T cm) (((argsOf T cm).map (evA (xf x))).getD 0 []) (xw x) (xf x))) else
  gPln rec (cmdK (tM T cm)) (tM T cm) ((argsOf T cm).map (evA (xf x))) x
/-- the shell's nesting is that of its beginning -/
def zBase (x : spX) : spX := (x.1, vN (xf x) (fB (xf x)), false, xj x)
def gFin (x0 : spX) : Option spX :=
  let x := zBase x0
  let act := fA (xf x) 3
  if 0 < act then
    let x1 := zf x (vA (xf x) (fup (fA (xf x)) 3 0))
    (match tbF (fU (xf x1)) act with
      | none => some x1
      | some i => rec (cCal ((fU (xf x1)).getD i (0, 0)).2) x1).bind fun x2 =>
    if wX (xw x2) = true then some x2 else rec (cJbs 0) (zBase (if xe x2 = true then x2 else zSt x2 (fS (xf x))))
  else rec (cJbs 0) x
def gJbs (j : Nat) (x : spX) : Option spX := if (xj x).length ≤ j ∨ wX (xw x) = true then some x else
  (if (jbAt x j).1 = 0 then rec (cJob j 1) x else some x).bind fun x1 => rec (cJbs (j + 1)) x1
def zJob (x : spX) (j : Nat) (st v : Int32) (q : Nat) : spX := (x.1, xf x, xe x, (xj x).set j (q, v, st, (jbAt x j).2.2.2))
def gJob (j : Nat) (b : Int32) (x : spX) : Option spX :=
  let ch := (jbAt x j).2.2.1
  let x1 := zJob x j ch (jbAt x j).2.1 2
  (rec (cCh ch) (xw x, vG (jbAt x j).2.2.2 (decide (b = 1)), false, [])).bind fun y1 =>
  (if wX (xw y1) = true then some y1 else rec cFin y1).bind fun y2 =>
  some (if wX (xw y2) = true then (xw y2, x1.2) else zJob (xw y2, x1.2) j ch (fS (xf y2)) 1)
def gStep (c : spC) (x : spX) : Option spX := match c with
  | (0, n, _, _, _) => gScr T rec n x
  | (1, n, _, _, _) => gChs T rec n x
  | (2, n, _, _, _) => gCh T rec n x
  | (3, n, _, _, _) => gPps T rec n x
  | (4, n, _, _, _) => gPp T rec n x
  | (5, n, l, r, p) => gSev T rec n l r p x
  | (6, n, _, _, _) => gCmd T rec n x
  | (7, n, _, _, _) => gBdy T rec n x
  | (8, n, l, _, _) => gWhl T rec n l x
  | (9, n, _, _, _) => gCal rec n x
  | (10, _, _, _, _) => gFin rec x
  | (11, _, _, _, some j) => gJbs rec j x
  | (12, _, b, _, some j) => gJob rec j b x
  | _ => none
end MXG
/-- a task, done with so much fuel -/
def gEx (T : spT) : Nat → spC → spX → Option spX
  | 0, _, _ => none
  | k + 1, c, x => gStep T (gEx T k) c x
