/-! THE PARSER, PURE. t: the bytes, z of them. A token: where it begins, its code (0 the end, 1 a word, 2 a wrong byte, else the sign, 256 times the first byte and the second where it has two), where it ends. A result: none (no fuel), a fault (where, which kind), or what was read. -/
abbrev qzT : Type := Nat × Int32 × Nat
abbrev qzR (α : Type) : Type := Option ((Nat × Int32) ⊕ α)
abbrev qzF {α : Type} (s : Nat) (k : Int32) : qzR α := some (.inl (s, k))
abbrev qzK {α : Type} (a : α) : qzR α := some (.inr a)
def qzB {α β : Type} (x : qzR α) (f : α → qzR β) : qzR β := match x with
  | none => none
  | some (.inl e) => some (.inl e)
  | some (.inr a) => f a
/-- a node: kind, a, b, c, redirected, next, at, name; its code's place, its depth -/
abbrev qzN : Type := Int32 × Int32 × Int32 × Int32 × Int32 × Int32 × Int32 × Int64 × Nat × Nat
/-- a step: what, operand, target, the node that begins behind it -/
abbrev qzC : Type := Nat × Nat × Nat × Int32
/-- a command: kind, offset, name, arguments, redirections -/
abbrev qzM : Type := Int32 × Int32 × Int64 × List spA × List spR
/-- what a script, a chain are: the token behind it, nodes, code, commands, how many chains -/
abbrev qzX : Type := qzT × List qzN × List qzC × List qzM × Nat
/-- a body: the token behind it; kind, a, b, c, name; nodes, code, commands; the command's kind, name, arguments -/
abbrev qzH : Type := Int32 × Int32 × Int32 × Int32 × Int64
abbrev qzY : Type := qzT × qzH × List qzN × List qzC × List qzM × Int32 × Int64 × List spA
/-- a command: the token behind it; its node but for the next one's number; nodes, code, commands -/
abbrev qzZ : Type := qzT × qzH × Int32 × List qzN × List qzC × List qzM
def isBk (c : Int32) : Bool := decide (c = 32) || (decide (c = 9) || decide (c = 10))
def two2 (a b : Int32) : Int32 := if a = 38 ∧ b = 38 then 9766 else if a = 124 ∧ b = 124 then 31868 else if a = 62 ∧ b = 62 then 15934 else if a = 60 ∧ b = 38 then 15398 else if a = 62 ∧ b = 38 then 15910 else 0
def isSg (c : Int32) : Bool := decide (c = 59 ∨ c = 38 ∨ c = 124 ∨ c = 33 ∨ c = 40 ∨ c = 41 ∨ c = 123 ∨ c = 125 ∨ c = 60 ∨ c = 62 ∨ c = 61 ∨ c = 45 ∨ c = 36 ∨ c = 63)
/-- words that open a body, that go on in one -/
abbrev wOp (v : Int64) : Prop := v = 339 ∨ v = 43523697 ∨ v = 5667
abbrev wCt (v : Int64) : Prop := v = 1024211 ∨ v = 270401 ∨ v = 231 ∨ v = 163 ∨ v = 223670
section QZ
variable (t : Nat → Int32) (z : Nat)
def skB : Nat → Nat → Nat
  | 0, e => e
  | n + 1, e => if e < z ∧ isBk (t e) = true then skB n (e + 1) else e
def skW : Nat → Nat → Nat
  | 0, e => e
  | n + 1, e => if e < z ∧ isLt (t e) = true then skW n (e + 1) else e
/-- the token at s -/
def tkA (s : Nat) : qzT := if z ≤ s then (s, 0, s) else if isLt (t s) = true then (s, 1, skW t z (z - s) s) else
  if s + 1 < z ∧ two2 (t s) (t (s + 1)) ≠ 0 then (s, two2 (t s) (t (s + 1)), s + 2) else (s, if isSg (t s) = true then t s else 2, s + 1)
def tkN (e : Nat) : qzT := tkA t z (skB t z (z - e) e)
/-- a word's bytes, its name -/
def wdB (k : qzT) : spL := (List.range (k.2.2 - k.1)).map fun i => t (k.1 + i)
def wdN (k : qzT) : Int64 := nmV (wdB t k)
/-- a word that is too long -/
abbrev tooL (k : qzT) : Prop := k.2.1 = 1 ∧ 12 < k.2.2 - k.1
/-- the next token; a sign that has to come; a word -/
def pAdv (k : qzT) : qzR qzT := if tooL (tkN t z k.2.2) then qzF (tkN t z k.2.2).1 3 else qzK (tkN t z k.2.2)
def pEx (k : qzT) (c : Int32) : qzR qzT := if k.2.1 = c then pAdv t z k else qzF k.1 1
abbrev isW (k : qzT) (v : Int64) : Prop := k.2.1 = 1 ∧ wdN t k = v
def pEw (k : qzT) (v : Int64) : qzR qzT := if isW t k v then pAdv t z k else qzF k.1 1
/-- a word of one digit; one ahead of a sign of redirection -/
abbrev isD1 (k : qzT) : Prop := k.2.1 = 1 ∧ k.2.2 = k.1 + 1 ∧ t k.1 ≤ 57
abbrev isHd (k : qzT) : Prop := isD1 t k ∧ k.2.2 < z ∧ (t k.2.2 = 60 ∨ t k.2.2 = 62)
abbrev isRs (c : Int32) : Prop := c = 60 ∨ c = 62 ∨ c = 15934 ∨ c = 15398 ∨ c = 15910
abbrev stRd (k : qzT) : Prop := isHd t z k ∨ isRs k.2.1
abbrev stCh (k : qzT) : Prop := k.2.1 = 33 ∨ k.2.1 = 40 ∨ k.2.1 = 123 ∨ (k.2.1 = 1 ∧ ¬ wCt (wdN t k))
/-- an argument: the token behind it, the node's kind, the name -/
def pArg (k : qzT) : qzR (qzT × Int32 × Int64) := if k.2.1 = 1 then qzB (pAdv t z k) fun k1 => qzK (k1, 11, wdN t k) else
  if k.2.1 = 36 then qzB (pAdv t z k) fun k1 => if k1.2.1 = 63 then qzB (pAdv t z k1) fun k2 => qzK (k2, 13, 0) else if k1.2.1 = 1 then qzB (pAdv t z k1) fun k2 => qzK (k2, 12, wdN t k1) else qzF k1.1 1
  else qzF k.1 1
def aKd (q : Int32) : Nat := if q = 11 then 0 else if q = 13 then 2 else 1
abbrev aNd (s : Nat) (q : Int32 × Int64) (nx : Int32) : qzN := (q.1, -1, -1, -1, -1, nx, nI s, q.2, 0, 0)
def pAs : Nat → qzT → Nat → qzR (qzT × List qzN × List spA)
  | 0, _, _ => none
  | j + 1, k, n => if (k.2.1 = 1 ∨ k.2.1 = 36) ∧ ¬ isHd t z k then qzB (pArg t z k) fun r => qzB (pAs j r.1 (n + 1)) fun q => qzK (q.1, aNd k.1 r.2 (if q.2.1 = [] then -1 else nI (n + 1)) :: q.2.1, (aKd r.2.1, r.2.2) :: q.2.2) else qzK (k, [], [])
/-- a redirection: the token behind it, the handle, the sign, the other handle, the name -/
def pRd (k : qzT) : qzR (qzT × Int32 × Int32 × Int32 × Int64) := qzB (if isHd t z k then pAdv t z k else qzK k) fun k1 => qzB (pAdv t z k1) fun k2 =>
  if k1.2.1 = 15398 ∨ k1.2.1 = 15910 then
    if k2.2.1 = 45 then qzB (pAdv t z k2) fun k3 => qzK (k3, (if isHd t z k then t k.1 - 48 else if k1.2.1 = 60 ∨ k1.2.1 = 15398 then 0 else 1), k1.2.1, -1, 0)
    else if isD1 t k2 then qzB (pAdv t z k2) fun k3 => qzK (k3, (if isHd t z k then t k.1 - 48 else if k1.2.1 = 60 ∨ k1.2.1 = 15398 then 0 else 1), k1.2.1, t k2.1 - 48, 0)
    else qzF k2.1 1
  else if k2.2.1 = 1 then qzB (pAdv t z k2) fun k3 => qzK (k3, (if isHd t z k then t k.1 - 48 else if k1.2.1 = 60 ∨ k1.2.1 = 15398 then 0 else 1), k1.2.1, -1, wdN t k2) else qzF k2.1 1
abbrev rNd (s : Nat) (q : Int32 × Int32 × Int32 × Int64) (nx : Int32) : qzN := (14, q.1, q.2.1, q.2.2.1, -1, nx, nI s, q.2.2.2, 0, 0)
def rSp (q : Int32 × Int32 × Int32 × Int64) : spR := if q.2.1 = 15398 ∨ q.2.1 = 15910 then (if q.2.2.1 = -1 then (4, q.1.toNatClampNeg, 0) else (3, q.1.toNatClampNeg, q.2.2.1.toInt64))
  else if q.2.1 = 60 then (0, q.1.toNatClampNeg, q.2.2.2) else if q.2.1 = 62 then (1, q.1.toNatClampNeg, q.2.2.2) else (2, q.1.toNatClampNeg, q.2.2.2)
def pRs : Nat → qzT → Nat → qzR (qzT × List qzN × List spR)
  | 0, _, _ => none
  | j + 1, k, n => if stRd t z k then qzB (pRd t z k) fun r => qzB (pRs j r.1 (n + 1)) fun q => qzK (q.1, rNd k.1 r.2 (if q.2.1 = [] then -1 else nI (n + 1)) :: q.2.1, rSp r.2 :: q.2.2) else qzK (k, [], [])
section
variable (rS rC : Nat → qzT → Nat → Nat → Nat → qzR qzX)
/-- bodies: k the token, n the next node's number, p the next step's, c the next command's, cm the body's own -/
def pPar (d : Nat) (k1 : qzT) (n p c : Nat) : qzR qzY := qzB (rS (d + 1) k1 n (p + 1) c) fun r => qzB (pEx t z r.1 41) fun k2 => qzK (k2, (4, nI n, -1, -1, 0), r.2.1, (15, 0, p + 1 + r.2.2.1.length + 1, 0) :: (r.2.2.1 ++ [(21, 0, 0, 0)]), r.2.2.2.1, -2, 0, [])
def pCur (d : Nat) (k1 : qzT) (n p c : Nat) : qzR qzY := qzB (rS (d + 1) k1 n p c) fun r => qzB (pEx t z r.1 125) fun k2 => qzK (k2, (5, nI n, -1, -1, 0), r.2.1, r.2.2.1, r.2.2.2.1, -2, 0, [])
abbrev chNd (s n d p : Nat) (b nx : Int32) : qzN := (2, nI (n + 1), b, -1, -1, nx, nI s, 0, p, d)
/-- the other script of an if -/
def pEls (d : Nat) (k : qzT) (n p c : Nat) : qzR (qzX × Int32) := if isW t k 270401 then qzB (pAdv t z k) fun k4 => qzB (rS (d + 1) k4 n p c) fun r2 => qzK (r2, nI n) else qzK ((k, [], [(7, 0, 0, 0)], [], 0), -1)
def pIf (d : Nat) (k1 : qzT) (n p c : Nat) : qzR qzY := qzB (rC (d + 1) k1 n p c) fun r => qzB (pEx t z r.1 59) fun k2 => qzB (pEw t z k2 1024211) fun k3 =>
  qzB (rS (d + 1) k3 (n + 1 + r.2.1.length) (p + r.2.2.1.length + 1) (c + r.2.2.2.1.length)) fun r1 =>
  qzB (pEls t z rS d r1.1 (n + 1 + r.2.1.length + r1.2.1.length) (p + r.2.2.1.length + 1 + r1.2.2.1.length + 1) (c + r.2.2.2.1.length + r1.2.2.2.1.length)) fun r2 => qzB (pEw t z r2.1.1 231) fun k5 =>
  qzK (k5, (6, nI n, nI (n + 1 + r.2.1.length), r2.2, 0), chNd k1.1 n (d + 1) p (-1) (-1) :: (r.2.1 ++ (r1.2.1 ++ r2.1.2.1)),
    r.2.2.1 ++ ((11, 0, p + r.2.2.1.length + 1 + r1.2.2.1.length + 1, 0) :: (r1.2.2.1 ++ ((9, 0, p + r.2.2.1.length + 1 + r1.2.2.1.length + 1 + r2.1.2.2.1.length, 0) :: r2.1.2.2.1))), r.2.2.2.1 ++ (r1.2.2.2.1 ++ r2.1.2.2.2.1), -2, 0, [])
def pWhl (d : Nat) (k1 : qzT) (n p c : Nat) : qzR qzY := qzB (rC (d + 1) k1 n (p + 1) c) fun r => qzB (pEx t z r.1 59) fun k2 => qzB (pEw t z k2 163) fun k3 =>
  qzB (rS (d + 1) k3 (n + 1 + r.2.1.length) (p + 1 + r.2.2.1.length + 1) (c + r.2.2.2.1.length)) fun r1 => qzB (pEw t z r1.1 223670) fun k5 =>
  qzK (k5, (7, nI n, nI (n + 1 + r.2.1.length), -1, 0), chNd k1.1 n (d + 1) (p + 1) (-1) (-1) :: (r.2.1 ++ r1.2.1),
    (12, 0, 0, 0) :: (r.2.2.1 ++ ((13, 0, p + 1 + r.2.2.1.length + 1 + r1.2.2.1.length + 1, 0) :: (r1.2.2.1 ++ [(14, 0, p + 1, 0)]))), r.2.2.2.1 ++ r1.2.2.2.1, -2, 0, [])
def pDef (d : Nat) (k1 : qzT) (n p c cm : Nat) : qzR qzY := if k1.2.1 = 1 ∧ ¬ wOp (wdN t k1) ∧ ¬ wCt (wdN t k1) ∧ cmdK (wdN t k1) = 0 then
  qzB (pAdv t z k1) fun k2 => qzB (pEx t z k2 123) fun k3 => qzB (rS (d + 1) k3 n (p + 1) c) fun r => qzB (pEx t z r.1 125) fun k4 =>
  qzK (k4, (8, nI n, -1, -1, wdN t k1), r.2.1, (5, cm, p + 1 + r.2.2.1.length + 1, nI n) :: (r.2.2.1 ++ [(6, 0, 0, 0)]), r.2.2.2.1, -2, wdN t k1, []) else qzF k1.1 1
def pNam (k : qzT) (n cm : Nat) : qzR qzY := qzB (pAdv t z k) fun k1 => if k1.2.1 = 61 then qzB (pAdv t z k1) fun k2 => qzB (pArg t z k2) fun r =>
    qzK (r.1, (9, nI n, -1, -1, wdN t k), [aNd k2.1 r.2 (-1)], [(4, cm, 0, 0)], [], -1, wdN t k, [(aKd r.2.1, r.2.2)])
  else qzB (pAs t z 701 k1 n) fun r => qzK (r.1, (10, (if r.2.1 = [] then -1 else nI n), -1, -1, wdN t k), r.2.1, [(3, cm, 0, 0)], [], nI (cmdK (wdN t k)), wdN t k, r.2.2)
def pBdy (d : Nat) (k : qzT) (n p c cm : Nat) : qzR qzY := if k.2.1 = 40 ∨ k.2.1 = 123 ∨ (k.2.1 = 1 ∧ wOp (wdN t k)) then
    if d = 5 then qzF k.1 2 else qzB (pAdv t z k) fun k1 =>
    if k.2.1 = 40 then pPar t z rS d k1 n p c else if k.2.1 = 123 then pCur t z rS d k1 n p c else if wdN t k = 339 then pIf t z rS rC d k1 n p c else if wdN t k = 43523697 then pWhl t z rS rC d k1 n p c else pDef t z rS d k1 n p c cm
  else if k.2.1 = 1 ∧ ¬ wCt (wdN t k) then pNam t z k n cm else qzF k.1 1
def pCmd (d : Nat) (k : qzT) (n p c : Nat) : qzR qzZ := qzB (pBdy t z rS rC d k (n + 1) (p + 1) (c + 1) c) fun r => qzB (pRs t z 701 r.1 (n + 1 + r.2.2.1.length)) fun q =>
  qzK (q.1, r.2.1, (if q.2.1 = [] then -1 else nI (n + 1 + r.2.2.1.length)), r.2.2.1 ++ q.2.1, (1, c, p + 1 + r.2.2.2.1.length + 1, 0) :: (r.2.2.2.1 ++ [(2, c, 0, 0)]), (r.2.2.2.2.2.1, nI k.1, r.2.2.2.2.2.2.1, r.2.2.2.2.2.2.2, q.2.2) :: r.2.2.2.2.1)
abbrev cmNd (s d : Nat) (q : qzH) (rd nx : Int32) : qzN := (q.1, q.2.1, q.2.2.1, q.2.2.2.1, rd, nx, nI s, q.2.2.2.2, 0, d)
/-- commands of a pipeline; fi: the first is still to come -/
def pCms (d : Nat) : Nat → Bool → qzT → Nat → Nat → Nat → qzR qzX
  | 0, _, _, _, _, _ => none
  | j + 1, fi, k, n, p, c => qzB (pCmd t z rS rC d k n (p + 1) c) fun r => if r.1.2.1 = 124 then
      qzB (pAdv t z r.1) fun k1 => qzB (pCms d j false k1 (n + 1 + r.2.2.2.1.length) (p + 1 + r.2.2.2.2.1.length + 1) (c + r.2.2.2.2.2.length)) fun q =>
      qzK (q.1, cmNd k.1 d r.2.1 r.2.2.1 (nI (n + 1 + r.2.2.2.1.length)) :: (r.2.2.2.1 ++ q.2.1), ((if fi = true then 17 else 18), 0, p + 1 + r.2.2.2.2.1.length + 1, 0) :: (r.2.2.2.2.1 ++ ((21, 0, 0, 0) :: q.2.2.1)), r.2.2.2.2.2 ++ q.2.2.2.1, 0)
    else qzK (r.1, cmNd k.1 d r.2.1 r.2.2.1 (-1) :: r.2.2.2.1, (if fi = true then (0, 0, 0, 0) :: r.2.2.2.2.1 else (19, 0, p + 1 + r.2.2.2.2.1.length + 1, 0) :: (r.2.2.2.2.1 ++ [(21, 0, 0, 0), (20, 0, 0, 0)])), r.2.2.2.2.2, 0)
/-- a pipeline; n is its own node's number -/
def pPip (d : Nat) (k : qzT) (n p c : Nat) : qzR qzX := qzB (if k.2.1 = 33 then pAdv t z k else qzK k) fun k1 => qzB (pCms t z rS rC d 701 true k1 (n + 1) p c) fun r => qzK (r.1, r.2.1, (if k.2.1 = 33 then r.2.2.1 ++ [(8, 0, 0, 0)] else r.2.2.1), r.2.2.2.1, 0)
abbrev ppNd (s n d p : Nat) (b c nx : Int32) : qzN := (3, nI (n + 1), b, c, -1, nx, nI s, 0, p, d)
/-- pipelines of a chain; by: 0 the first, 1 behind the sign and, 2 behind or -/
def pPps (d : Nat) : Nat → Nat → qzT → Nat → Nat → Nat → qzR qzX
  | 0, _, _, _, _, _ => none
  | j + 1, b, k, n, p, c => qzB (pPip t z rS rC d k n (if b = 0 then p else p + 1) c) fun r => if r.1.2.1 = 9766 ∨ r.1.2.1 = 31868 then
      qzB (pAdv t z r.1) fun k1 => qzB (pPps d j (if r.1.2.1 = 9766 then 1 else 2) k1 (n + 1 + r.2.1.length) ((if b = 0 then p else p + 1) + r.2.2.1.length) (c + r.2.2.2.1.length)) fun q =>
      qzK (q.1, ppNd k.1 n d (if b = 0 then p else p + 1) (if k.2.1 = 33 then 1 else 0) (nI b) (nI (n + 1 + r.2.1.length)) :: (r.2.1 ++ q.2.1), (if b = 0 then [] else [((if b = 1 then 11 else 10), 0, p + 1 + r.2.2.1.length, 0)]) ++ (r.2.2.1 ++ q.2.2.1), r.2.2.2.1 ++ q.2.2.2.1, 0)
    else qzK (r.1, ppNd k.1 n d (if b = 0 then p else p + 1) (if k.2.1 = 33 then 1 else 0) (nI b) (-1) :: r.2.1, (if b = 0 then [] else [((if b = 1 then 11 else 10), 0, p + 1 + r.2.2.1.length, 0)]) ++ r.2.2.1, r.2.2.2.1, 0)
/-- a chain; n is its own node's number -/
def pChn (d : Nat) (k : qzT) (n p c : Nat) : qzR qzX := pPps t z rS rC d 701 0 k (n + 1) p c
/-- chains of a script -/
def pChs (d : Nat) : Nat → qzT → Nat → Nat → Nat → qzR qzX
  | 0, _, _, _, _ => none
  | j + 1, k, n, p, c => if stCh t k then qzB (pChn t z rS rC d k n (p + 1) c) fun r => qzB (if r.1.2.1 = 38 then pAdv t z r.1 else pEx t z r.1 59) fun k1 =>
      qzB (pChs d j k1 (n + 1 + r.2.1.length) (p + 1 + r.2.2.1.length + (if r.1.2.1 = 38 then 1 else 0)) (c + r.2.2.2.1.length)) fun q =>
      qzK (q.1, chNd k.1 n d (p + 1) (if r.1.2.1 = 38 then 1 else 0) (if q.2.1 = [] then -1 else nI (n + 1 + r.2.1.length)) :: (r.2.1 ++ q.2.1), (if r.1.2.1 = 38 then (16, 0, p + 1 + r.2.2.1.length + 1, nI n) :: (r.2.2.1 ++ ((21, 0, 0, 0) :: q.2.2.1)) else (0, 0, 0, 0) :: (r.2.2.1 ++ q.2.2.1)), r.2.2.2.1 ++ q.2.2.2.1, q.2.2.2.2 + 1)
    else qzK (k, [], [], [], 0)
/-- a script, with its own node -/
def pScr (d : Nat) (k : qzT) (n p c : Nat) : qzR qzX := qzB (pChs t z rS rC d 701 k (n + 1) p c) fun q => qzK (q.1, (1, (if q.2.1 = [] then -1 else nI (n + 1)), -1, -1, -1, -1, nI k.1, 0, p, d) :: q.2.1, (if q.2.1 = [] then [(7, 0, 0, 0)] else q.2.2.1), q.2.2.2.1, q.2.2.2.2)
end
/-- so many levels of bodies -/
def pRec : Nat → Bool → Nat → qzT → Nat → Nat → Nat → qzR qzX
  | 0, _ => fun _ _ _ _ _ => none
  | j + 1, false => pScr t z (pRec j false) (pRec j true)
  | j + 1, true => pChn t z (pRec j false) (pRec j true)
/-- a whole text -/
def pTop : qzR qzX := qzB (pAdv t z (0, 0, 0)) fun k => qzB (pRec t z 7 false 0 k 0 0 0) fun r => if r.1.2.1 = 0 then qzK r else qzF r.1.1 1
end QZ
