/-! THE CLASS'S MACHINE, pure. pmF: a frame (kind 1 handles kept, 2 called, 3 raised, 4 at exit, 5 loop, 6 pipeline, 8 pipeline whose last command has begun; three numbers; the kept handles; the end of a pipe for the next command). pmL: a shell that executes: what a subshell copies, whether it ends, its jobs, its frames (uppermost first). pmM: world, place, shell, the shells that wait for it, each with where it goes on, the purpose, the job. -/
abbrev pmF : Type := Nat × Int32 × Int32 × Int32 × spH × Option Nat
abbrev pmL : Type := spF × Bool × List spJ × List pmF
abbrev pmU : Type := Int32 × Nat × Nat
abbrev pmM : Type := spW × Nat × pmL × List (pmU × pmL)
/-- the code: steps, operands, targets, size; of commands: kind, offset, name, arguments, redirections; of steps: the node that begins behind it; of nodes: their places -/
abbrev pmC : Type := (Nat → Nat) × (Nat → Nat) × (Nat → Nat) × Nat × (Nat → Int32) × (Nat → Int32) × (Nat → Int64) × (Nat → List spA) × (Nat → List spR) × (Nat → Int32) × (Int32 → Nat)
abbrev kSt (D : pmC) (p : Nat) : Nat := D.1 p
abbrev kOp (D : pmC) (p : Nat) : Nat := D.2.1 p
abbrev kTg (D : pmC) (p : Nat) : Nat := D.2.2.1 p
abbrev kZ (D : pmC) : Nat := D.2.2.2.1
abbrev kKd (D : pmC) (c : Nat) : Int32 := D.2.2.2.2.1 c
abbrev kOf (D : pmC) (c : Nat) : Int32 := D.2.2.2.2.2.1 c
abbrev kNm (D : pmC) (c : Nat) : Int64 := D.2.2.2.2.2.2.1 c
abbrev kAr (D : pmC) (c : Nat) : List spA := D.2.2.2.2.2.2.2.1 c
abbrev kRd (D : pmC) (c : Nat) : List spR := D.2.2.2.2.2.2.2.2.1 c
abbrev kAn (D : pmC) (p : Nat) : Int32 := D.2.2.2.2.2.2.2.2.2.1 p
abbrev kPl (D : pmC) (v : Int32) : Nat := D.2.2.2.2.2.2.2.2.2.2 v
def pmN : spH := fun _ => none
/-- the handles when the frames are left -/
def unw : List pmF → spH → spH
  | [], h => h
  | q :: r, h => unw r (if q.1 = 1 then q.2.2.2.2.1 else h)
section MXPM
variable (D : pmC) (w : spW) (p : Nat) (f : spF) (en : Bool) (js : List spJ) (fr : List pmF) (K : List (pmU × pmL))
abbrev pmGo1 (w : spW) (q : Nat) (f : spF) (js : List spJ) (fr : List pmF) : Option (Nat × pmM) := some (0, (w, q, (f, en, js, fr), K))
def pmRec (c : Nat) (w : spW) (f : spF) : spW := if kKd D c = -2 then w else uT w (rec60 (wT w) (kOf D c, fS f, fD f))
def pmBeg (c t : Nat) : Option (Nat × pmM) :=
  if wB w = 300 then some (1, (uX w true, p + 1, (f, en, js, fr), K)) else
  if kRd D c = [] then pmGo1 en K (uB w (wB w + 1)) (p + 1) f js fr else
  let q := redOps (kRd D c) (uB w (wB w + 1)) f
  if q.1 = true then pmGo1 en K q.2.1 (p + 1) q.2.2 js ((1, 0, 0, 0, fH f, none) :: fr) else
  pmGo1 en K (pmRec D c q.2.1 (vS (vH q.2.2 (fH f)) 1)) t (vS (vH q.2.2 (fH f)) 1) js fr
def pmFns (c : Nat) : Option (Nat × pmM) :=
  if kRd D c = [] then pmGo1 en K (pmRec D c w f) (p + 1) f js fr else match fr with
  | [] => none
  | q :: fr' => if q.1 = 1 then
      let f1 := if kKd D c = 6 ∧ kAr D c = [] then f else vH f q.2.2.2.2.1
      pmGo1 en K (pmRec D c w f1) (p + 1) f1 js fr'
    else none
/-- the shell ends with a status -/
def pmEnd (w : spW) (f : spF) (v : Int32) : Option (Nat × pmM) := pmGo1 en K w (kZ D - 1) (vS f v) js fr
def pmRes (r : Int32 × spW × spF) : Option (Nat × pmM) := if r.1 = -2 then pmEnd D en js fr K r.2.1 r.2.2 149 else pmGo1 en K r.2.1 (p + 1) (vS r.2.2 r.1) js fr
/-- a function is called -/
def pmCal (kd : Nat) (v : Int32) (i : Nat) (a b : Int32) : Option (Nat × pmM) := pmGo1 en K w (kPl D ((fU f).getD i (0, 0)).2) (vN f (fN f + 1)) js ((kd, v, a, b, pmN, none) :: fr)
def pmFnc (n : Int64) : Option (Nat × pmM) := match tbF (fU f) n with
  | none => pmGo1 en K w (p + 1) (vS f 127) js fr
  | some i => if 4 ≤ fN f then pmGo1 en K w (p + 1) (vS f 126) js fr else pmCal D w f en js fr K 2 (nI (p + 1)) i 0 0
def pmRse (as : List spL) : Option (Nat × pmM) :=
  if as.length ≠ 1 then pmGo1 en K w (p + 1) (vS f 2) js fr else match sigK (nmL (as.getD 0 [])) with
  | none => pmGo1 en K w (p + 1) (vS f 2) js fr
  | some g => if 3 ≤ g then pmGo1 en K w (p + 1) (vS f 2) js fr else
    if fA f g = 0 then pmEnd D en js fr K w f (128 + (if g = 2 then 15 else nI (g + 1))) else
    if fA f g = -2 then pmGo1 en K w (p + 1) (vS f 0) js fr else match tbF (fU f) (fA f g) with
    | none => pmGo1 en K w (p + 1) (vS f 0) js fr
    | some i => if 4 ≤ fN f then pmGo1 en K w (p + 1) (vS f 0) js fr else pmCal D w f en js fr K 3 (nI (p + 1)) i 0 0
/-- the first job that waits -/
def pmFw (js : List spJ) : Option Nat := js.findIdx? fun q => decide (q.1 = 0)
abbrev pmJb (js : List spJ) (f : spF) (j : Nat) : spJ := js.getD j (0, 0, 0, f)
/-- a job's shell begins to execute -/
def pmRun (en : Bool) (j : Nat) (bg : Bool) (pu : Nat) (behind : Nat) : Option (Nat × pmM) :=
  some (0, (w, kPl D (pmJb js f j).2.2.1, (vG (pmJb js f j).2.2.2 bg, false, [], []), ((nI behind, pu, j), (f, en, js.set j (2, (pmJb js f j).2), fr)) :: K))
def pmWt (fg : Bool) (as : List spL) : Option (Nat × pmM) :=
  if as.length = 0 ∧ fg = false then match pmFw js with
    | some j => pmRun D w f js fr K en j true 3 p
    | none => pmGo1 en K w (p + 1) (vS f 0) js fr
  else if as.length ≠ 1 then pmGo1 en K w (p + 1) (vS f 2) js fr else
  let j := nuL (as.getD 0 [])
  if j = -1 then pmGo1 en K w (p + 1) (vS f 2) js fr else
  if j < 1 ∨ nI js.length < j then pmGo1 en K w (p + 1) (vS f 127) js fr else
  if (pmJb js f (j.toNatClampNeg - 1)).1 ≠ 0 then pmGo1 en K w (p + 1) (vS f 127) js fr else
  pmRun D w f js fr K en (j.toNatClampNeg - 1) (if fg then fG f else true) 2 (p + 1)
def pmCll (k : Nat) (n : Int64) (as : List spL) : Option (Nat × pmM) :=
  if k = 0 then pmFnc D w p f en js fr K n else
  if k = 1 then pmGo1 en K w (p + 1) (vS f 0) js fr else if k = 2 then pmGo1 en K w (p + 1) (vS f 1) js fr else
  if k = 3 then pmRes D p en js fr K (opEcho as w f) else
  if k = 4 then pmRes D p en js fr K (opRead as w f) else
  if k = 5 then (if as.length = 0 then (catN 12041 w f).bind fun q => pmRes D p en js fr K (q.1, q.2, f) else pmGo1 en K w (p + 1) (vS f 2) js fr) else
  if k = 6 then pmGo1 en K w (p + 1) (vS f (if as.length = 0 then 0 else 2)) js fr else
  if k = 7 then pmRes D p en js fr K (opTrap as w f) else
  if k = 8 then pmRes D p en js fr K (opSet as w f) else
  if k = 9 then (match opExit as f with
    | none => pmGo1 en K w (p + 1) (vS f 2) js fr
    | some v => pmEnd D en js fr K w f v) else
  if k = 10 then pmRse D w p f en js fr K as else pmWt D w p f en js fr K (decide (k = 12)) as
def pmDef (t : Nat) (c : Nat) : Option (Nat × pmM) := match tbF (fU f) (kNm D c) with
  | some _ => pmGo1 en K w t (vS (vU f (tbP (fU f) (kNm D c) (kAn D p))) 0) js fr
  | none => if 10 ≤ (fU f).length then pmGo1 en K w t (vS f 1) js fr else pmGo1 en K w t (vS (vU f (tbP (fU f) (kNm D c) (kAn D p))) 0) js fr
def pmRet : Option (Nat × pmM) := match fr with
  | [] => none
  | q :: fr' => if q.1 = 2 ∨ q.1 = 3 ∨ q.1 = 4 then
      pmGo1 en K w q.2.1.toNatClampNeg (if q.1 = 3 then vS (vN f (fN f - 1)) 0 else if q.1 = 4 then vS (vN f (fN f - 1)) q.2.2.1 else vN f (fN f - 1)) js fr'
    else none
def pmTst (t : Nat) : Option (Nat × pmM) := if fS f = 0 then pmGo1 en K w (p + 1) f js fr else match fr with
  | [] => none
  | q :: fr' => if q.1 = 5 then pmGo1 en K w t (vS f q.2.1) js fr' else none
def pmAgn (t : Nat) : Option (Nat × pmM) := match fr with
  | [] => none
  | q :: fr' => if q.1 = 5 then pmGo1 en K w t f js ((5, fS f, q.2.2) :: fr') else none
def pmFrk (t : Nat) : Option (Nat × pmM) := some (0, (frk w, p + 1, (subF f, false, [], []), ((nI t, 0, 0), (f, en, js, fr)) :: K))
def pmMkj (t : Nat) : Option (Nat × pmM) := if 8 ≤ js.length then pmGo1 en K w t (vS f 1) js fr else pmGo1 en K (frk w) t (vS f 0) (js ++ [(0, 0, kAn D p, subF f)]) fr
def pmPip (last : Bool) (t : Nat) : Option (Nat × pmM) := match fr with
  | [] => none
  | q :: fr' => if q.1 = 6 then
      let r := pipd (frk w) (subF f) q.2.2.2.2.2 last
      some (0, (r.1, p + 1, (r.2.1, false, [], []), ((nI t, 1, 0), (f, en, js, ((if last then 8 else 6), q.2.1, q.2.2.1, if last then q.2.2.2.1 else nI (wU w).length, pmN, r.2.2) :: fr')) :: K))
    else none
def pmPpd : Option (Nat × pmM) := match fr with
  | [] => none
  | q :: fr' => if q.1 = 8 then pmGo1 en K w (p + 1) (vS f (if fP f = true then q.2.2.1 else q.2.1)) js fr' else none
/-- a shell is left: its status goes to the one that waits for it -/
def pmLev (g : spF) : Option (Nat × pmM) := match K with
  | [] => some (2, (w, kZ D - 1, (g, true, js, []), []))
  | (u, (f', en', js', fr')) :: K' =>
    if u.2.1 = 0 then some (0, (w, u.1.toNatClampNeg, (vS f' (fS g), en', js', fr'), K')) else
    if u.2.1 = 1 then (match fr' with
      | [] => none
      | q :: r => if q.1 = 6 ∨ q.1 = 8 then some (0, (w, u.1.toNatClampNeg, (f', en', js', (q.1, fS g, (if fS g = 0 then q.2.2.1 else fS g), q.2.2.2) :: r), K')) else none) else
    if u.2.1 = 2 then some (0, (w, u.1.toNatClampNeg, (vS f' (fS g), en', js'.set u.2.2 (1, fS g, (pmJb js' f' u.2.2).2.2), fr'), K')) else
    some (0, (w, u.1.toNatClampNeg, (f', en', js'.set u.2.2 (1, fS g, (pmJb js' f' u.2.2).2.2), fr'), K'))
def pmJbs (g : spF) : Option (Nat × pmM) := match pmFw js with
  | some j => pmRun D w g js [] K true j true 3 (kZ D - 1)
  | none => pmLev D w js K g
def pmFin : Option (Nat × pmM) :=
  let f1 := vN (vH f (unw fr (fH f))) (fB f)
  if en = true then pmJbs D w js K f1 else
  if fA f 3 = 0 ∨ fA f 3 = -2 then pmJbs D w js K f1 else
  let f2 := vA f1 (fup (fA f) 3 0)
  match tbF (fU f) (fA f 3) with
  | none => pmJbs D w js K f2
  | some i => if 4 ≤ fB f then pmJbs D w js K f2 else pmCal D w f2 true js [] K 4 (nI (kZ D - 1)) i (fS f) 0
end MXPM
def pmSel (D : pmC) (w : spW) (p : Nat) (f : spF) (en : Bool) (js : List spJ) (fr : List pmF) (K : List (pmU × pmL)) (s : Nat) : Option (Nat × pmM) := match s with
    | 1 => pmBeg D w p f en js fr K (kOp D p) (kTg D p)
    | 2 => pmFns D w p f en js fr K (kOp D p)
    | 3 => pmCll D w p f en js fr K (kKd D (kOp D p)).toNatClampNeg (kNm D (kOp D p)) ((kAr D (kOp D p)).map (evA f))
    | 4 => pmRes D p en js fr K (opAsgn (kNm D (kOp D p)) (((kAr D (kOp D p)).map (evA f)).getD 0 []) w f)
    | 5 => pmDef D w p f en js fr K (kTg D p) (kOp D p)
    | 6 => pmRet w f en js fr K
    | 7 => pmGo1 en K w (p + 1) (vS f 0) js fr
    | 8 => pmGo1 en K w (p + 1) (vS f (if fS f = 0 then 1 else 0)) js fr
    | 9 => pmGo1 en K w (kTg D p) f js fr
    | 10 => pmGo1 en K w (if fS f = 0 then kTg D p else p + 1) f js fr
    | 11 => pmGo1 en K w (if fS f = 0 then p + 1 else kTg D p) f js fr
    | 12 => pmGo1 en K w (p + 1) f js ((5, 0, 0, 0, pmN, none) :: fr)
    | 13 => pmTst w p f en js fr K (kTg D p)
    | 14 => pmAgn w f en js fr K (kTg D p)
    | 15 => pmFrk w p f en js fr K (kTg D p)
    | 16 => pmMkj D w p f en js fr K (kTg D p)
    | 17 => pmPip w p f en js ((6, 0, 0, -1, pmN, none) :: fr) K false (kTg D p)
    | 18 => pmPip w p f en js fr K false (kTg D p)
    | 19 => pmPip w p f en js fr K true (kTg D p)
    | 20 => pmPpd w p f en js fr K
    | 21 => pmFin D w f en js fr K
    | _ => pmGo1 en K w (p + 1) f js fr
def pmStep (D : pmC) : pmM → Option (Nat × pmM)
  | (w, p, (f, en, js, fr), K) => pmSel D w p f en js fr K (kSt D p)
theorem stp {D : pmC} {w : spW} {p : Nat} {f : spF} {en : Bool} {js : List spJ} {fr : List pmF} {K : List (pmU × pmL)} {s : Nat} (h : kSt D p = s) : pmStep D (w, p, (f, en, js, fr), K) = pmSel D w p f en js fr K s := by subst h; rfl
/-- so many steps, each from a state with I; the last one may stop or leave the main shell -/
def pmIt (D : pmC) (I : pmM → Prop) : Nat → pmM → Nat → pmM → Prop
  | 0, m, fl, m' => fl = 0 ∧ m' = m
  | n + 1, m, fl, m' => I m ∧ ∃ q, pmStep D m = some q ∧ ((q.1 = 0 ∧ pmIt D I n q.2 fl m') ∨ (q.1 ≠ 0 ∧ n = 0 ∧ fl = q.1 ∧ m' = q.2))
theorem pmIt.one {D : pmC} {I : pmM → Prop} {m m1 : pmM} (i : I m) (h : pmStep D m = some (0, m1)) : pmIt D I 1 m 0 m1 := ⟨i, _, h, Or.inl ⟨rfl, rfl, rfl⟩⟩
theorem pmIt.last {D : pmC} {I : pmM → Prop} {m m1 : pmM} {fl : Nat} (i : I m) (h : pmStep D m = some (fl, m1)) (hf : fl ≠ 0) : pmIt D I 1 m fl m1 := ⟨i, _, h, Or.inr ⟨hf, rfl, rfl, rfl⟩⟩
theorem pmIt.nil {D : pmC} {I : pmM → Prop} {m : pmM} : pmIt D I 0 m 0 m := ⟨rfl, rfl⟩
theorem pmIt.step {D : pmC} {I : pmM → Prop} {m m1 m' : pmM} {n fl : Nat} (i : I m) (h : pmStep D m = some (0, m1)) (k : pmIt D I n m1 fl m') : pmIt D I (n + 1) m fl m' := ⟨i, _, h, Or.inl ⟨rfl, k⟩⟩
theorem pmIt.tr {D : pmC} {I : pmM → Prop} {n fl : Nat} {m2 : pmM} : ∀ {n1 : Nat} {m m1 : pmM}, pmIt D I n1 m 0 m1 → pmIt D I n m1 fl m2 → pmIt D I (n1 + n) m fl m2
  | 0, m, m1, h1, h2 => by
    obtain ⟨-, rfl⟩ := h1
    rw [Nat.zero_add]; exact h2
  | n1 + 1, m, m1, h1, h2 => by
    obtain ⟨i, q, e, c⟩ := h1
    rw [show n1 + 1 + n = n1 + n + 1 by omega]
    rcases c with ⟨c1, c2⟩ | ⟨c1, c2, c3, c4⟩
    · exact ⟨i, q, e, Or.inl ⟨c1, pmIt.tr c2 h2⟩⟩
    · exact absurd c3.symm c1
