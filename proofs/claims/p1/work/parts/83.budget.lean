/-! THE REFERENCE'S RUN: a budget of calls and shells; what a task's method does -/
section MXBU
/-- the shells of jobs that wait -/
def jG (S : spS) (js : List Nat) : List spE := (S.2.2.zip js).filterMap fun q => if q.1.1 = 0 then some (q.2, (q.1.2.2.2, false, []), []) else none
section
variable (T : spT) (rec : spC → spX → Option spX) (B : Nat → Nat → spC → spX → Prop) (d g : Nat)
def bFnc (d : Nat) (nm : Int64) (x : spX) : Prop := ∀ i, tbF (fU (xf x)) nm = some i → B d g (cCal ((fU (xf x)).getD i (0, 0)).2) x
def bWt (d : Nat) (fg : Bool) (as : List spL) (x : spX) : Prop := (as.length = 0 ∧ fg = false → B (d - 1) g (cJbs 0) x) ∧
  (¬ (as.length = 0 ∧ fg = false) → as.length = 1 → nuL (as.getD 0 []) ≠ -1 → ¬ (nuL (as.getD 0 []) < 1 ∨ nI (xj x).length < nuL (as.getD 0 [])) → (jbAt x ((nuL (as.getD 0 [])).toNatClampNeg - 1)).1 = 0 → B (d - 1) g (cJob ((nuL (as.getD 0 [])).toNatClampNeg - 1) (if fg then (if fG (xf x) = true then 1 else 0) else 1)) x)
def bPln (d : Nat) (k : Nat) (nm : Int64) (as : List spL) (x : spX) : Prop := (k = 0 → bFnc B g (d - 1) nm x) ∧ (k = 10 → ∀ s, sigK (nmL (as.getD 0 [])) = some s → s < 3 → 0 < fA (xf x) s → bFnc B g (d - 2) (fA (xf x) s) x) ∧ (11 ≤ k → bWt B g (d - 1) (decide (k = 12)) as x)
def bSev (cm l r : Int32) (ahead : Option Nat) (x : spX) : Prop := cm = -1 ∨ wX (xw x) = true ∨ (1 ≤ g ∧
  B (d - 1) (g - 1) (cCmd cm) ((pipd (frk (xw x)) (subF (xf x)) ahead (decide (tN T cm = -1))).1, (pipd (frk (xw x)) (subF (xf x)) ahead (decide (tN T cm = -1))).2.1, false, []) ∧
  ∀ y1, rec (cCmd cm) ((pipd (frk (xw x)) (subF (xf x)) ahead (decide (tN T cm = -1))).1, (pipd (frk (xw x)) (subF (xf x)) ahead (decide (tN T cm = -1))).2.1, false, []) = some y1 → (wX (xw y1) = false → B (d - 1) (g - 1) cFin y1) ∧
  ∀ y2, (if wX (xw y1) = true then some y1 else rec cFin y1) = some y2 → B d g (cSev (tN T cm) (fS (xf y2)) (if fS (xf y2) = 0 then r else fS (xf y2)) (pipd (frk (xw x)) (subF (xf x)) ahead (decide (tN T cm = -1))).2.2) (xw y2, x.2))
def bCmd (cm : Int32) (x : spX) : Prop := wB (xw x) = 300 ∨ ((redOps (redsOf T cm) (uB (xw x) (wB (xw x) + 1)) (xf x)).1 = true → B (d - 1) g (cBdy cm) (zwf x (redOps (redsOf T cm) (uB (xw x) (wB (xw x) + 1)) (xf x)).2.1 (redOps (redsOf T cm) (uB (xw x) (wB (xw x) + 1)) (xf x)).2.2))
def bBdy (cm : Int32) (x : spX) : Prop :=
  (tK T cm = 4 → 1 ≤ g ∧ B (d - 2) (g - 1) (cScr (tA T cm)) (frk (xw x), subF (xf x), false, []) ∧ ∀ y1, rec (cScr (tA T cm)) (frk (xw x), subF (xf x), false, []) = some y1 → wX (xw y1) = false → B (d - 2) (g - 1) cFin y1) ∧
  (tK T cm = 5 → B (d - 1) g (cScr (tA T cm)) x) ∧
  (tK T cm = 6 → B (d - 1) g (cCh (tA T cm)) x ∧ ∀ x1, rec (cCh (tA T cm)) x = some x1 → hlt x1 = false → B (d - 1) g (cScr (if fS (xf x1) = 0 then tB T cm else tC T cm)) x1) ∧
  (tK T cm = 7 → B (d - 2) g (cCh (tA T cm)) x ∧ ∀ x1, rec (cCh (tA T cm)) x = some x1 → B (d - 1) g (cWhl cm 0) x1) ∧
  (tK T cm = 10 → bPln B g (d - 1) (cmdK (tM T cm)) (tM T cm) ((argsOf T cm).map (evA (xf x))) x)
def bFin (x0 : spX) : Prop :=
  (0 < fA (xf x0) 3 → (∀ i, tbF (fU (xf x0)) (fA (xf x0) 3) = some i → B (d - 1) g (cCal ((fU (xf x0)).getD i (0, 0)).2) (zf (zBase x0) (vA (xf (zBase x0)) (fup (fA (xf (zBase x0))) 3 0)))) ∧
    ∀ x2, (match tbF (fU (xf x0)) (fA (xf x0) 3) with
      | none => some (zf (zBase x0) (vA (xf (zBase x0)) (fup (fA (xf (zBase x0))) 3 0)))
      | some i => rec (cCal ((fU (xf x0)).getD i (0, 0)).2) (zf (zBase x0) (vA (xf (zBase x0)) (fup (fA (xf (zBase x0))) 3 0)))) = some x2 → wX (xw x2) = false → B (d - 1) g (cJbs 0) (zBase (if xe x2 = true then x2 else zSt x2 (fS (xf x0))))) ∧
  (¬ 0 < fA (xf x0) 3 → B (d - 1) g (cJbs 0) (zBase x0))
def bJob (j : Nat) (b : Int32) (x : spX) : Prop := 1 ≤ g ∧ B (d - 1) (g - 1) (cCh (jbAt x j).2.2.1) (xw x, vG (jbAt x j).2.2.2 (decide (b = 1)), false, []) ∧
  ∀ y1, rec (cCh (jbAt x j).2.2.1) (xw x, vG (jbAt x j).2.2.2 (decide (b = 1)), false, []) = some y1 → wX (xw y1) = false → B (d - 1) (g - 1) cFin y1
/-- with d calls and g shells the task can be done -/
def bStep (c : spC) (x : spX) : Prop := 20 ≤ d ∧ match c with
  | (0, v, _, _, _) => v = -1 ∨ tA T v = -1 ∨ B d g (cChs (tA T v)) x
  | (1, v, _, _, _) => v = -1 ∨ hlt x = true ∨ ((tB T v ≠ 1 → B (d - 1) g (cCh v) x) ∧ ∀ x1, (if tB T v = 1 then some (mkJob v x) else rec (cCh v) x) = some x1 → B d g (cChs (tN T v)) x1)
  | (2, v, _, _, _) => B d g (cPps (tA T v)) x
  | (3, p, _, _, _) => p = -1 ∨ hlt x = true ∨ (((tC T p = 1 ∧ fS (xf x) ≠ 0) ∨ (tC T p = 2 ∧ fS (xf x) = 0) → B d g (cPps (tN T p)) x) ∧
      (¬ ((tC T p = 1 ∧ fS (xf x) ≠ 0) ∨ (tC T p = 2 ∧ fS (xf x) = 0)) → B (d - 1) g (cPp p) x ∧ ∀ x1, rec (cPp p) x = some x1 → B d g (cPps (tN T p)) x1))
  | (4, p, _, _, _) => (tN T (tA T p) = -1 → B (d - 1) g (cCmd (tA T p)) x) ∧ (tN T (tA T p) ≠ -1 → B (d - 1) g (cSev (tA T p) 0 0 none) x)
  | (5, v, l, r, p) => bSev T rec B d g v l r p x
  | (6, v, _, _, _) => bCmd T B d g v x
  | (7, v, _, _, _) => bBdy T rec B d g v x
  | (8, v, l, _, _) => hlt x = true ∨ fS (xf x) ≠ 0 ∨ (B (d - 1) g (cScr (tB T v)) x ∧ ∀ x1, rec (cScr (tB T v)) x = some x1 → hlt x1 = false → B (d - 1) g (cCh (tA T v)) x1 ∧ ∀ x2, rec (cCh (tA T v)) x1 = some x2 → B d g (cWhl v (fS (xf x1))) x2)
  | (9, v, _, _, _) => fN (xf x) = 4 ∨ B (d - 1) g (cScr v) (zf x (vN (xf x) (fN (xf x) + 1)))
  | (10, _, _, _, _) => bFin rec B d g x
  | (11, _, _, _, some j) => (xj x).length ≤ j ∨ wX (xw x) = true ∨ (((jbAt x j).1 = 0 → B (d - 1) g (cJob j 1) x) ∧ ∀ x1, (if (jbAt x j).1 = 0 then rec (cJob j 1) x else some x) = some x1 → B d g (cJbs (j + 1)) x1)
  | (12, _, b, _, some j) => bJob rec B d g j b x
  | _ => True
end
def bEx (T : spT) : Nat → Nat → Nat → spC → spX → Prop
  | 0, _, _, _, _ => True
  | k + 1, d, g, c, x => bStep T (gEx T k) (bEx T k) d g c x
/-- before a task, behind it -/
def Pre (b : Nat) (h0 h : mxH) (x : spX) (s : Nat) (js : List Nat) (G : List spE) (V : List (Option (Option Nat))) (P : List spX) (Z : List (Int32 × Nat)) (n m g : Nat) : Prop :=
  RG h0 h (xw x) ((s, x.2, js) :: (jG x.2 js ++ G)) V P ([], [], Z) (n + wM (xw x)) (m + 12 * wB (xw x) + 2 * b) 1000 ∧ wX (xw x) = false ∧ V.length ≤ 10 + 11 * wB (xw x) + b ∧ G.length + 9 * g ≤ 980 ∧ n ≤ 3900 ∧ m ≤ 300
def Pst (h0 : mxH) (x : spX) (s : Nat) (G : List spE) (V : List (Option (Option Nat))) (P : List spX) (Z : List (Int32 × Nat)) (n m : Nat) (h : mxH) : Prop :=
  (wX (xw x) = false ∧ ∃ js, RG h0 h (xw x) ((s, x.2, js) :: (jG x.2 js ++ G)) V P ([], [], Z) (n + wM (xw x)) (m + 12 * wB (xw x)) 1000) ∨ (wX (xw x) = true ∧ ∃ js, RGs h0 h (xw x) ((s, x.2, js) :: G) V P)
/-- a method does a task -/
def SMc (h0 : mxH) (T : spT) (n k b : Nat) (Y : mxY) (As : List Value) (c : spC) : Prop := ∀ d g h x x' s js G V P Z n0 m0, gEx T k c x = some x' → bEx T k d g c x → Hz T n c x → (xe x = false ∨ 10 ≤ c.1) → Pre b h0 h x s js G V P Z n0 m0 g →
  mx_SM Y d (.ref 320 :: .int (nI s) :: As) h (mx_KV (Pst h0 x' s G V P Z n0 m0) fun _ _ => False)
/-- a loop does a task -/
def SXc (h0 : mxH) (T : spT) (n k : Nat) (Y : mxY) (pc : Nat) (L : List (Nat × Value)) (c : spC) : Prop := ∀ d g h x x' s js G V P Z n0 m0, gEx T k c x = some x' → bEx T k d g c x → Hz T n c x → Pre 0 h0 h x s js G V P Z n0 m0 g →
  mx_SX Y d pc ((0, .ref 320) :: (1, .int (nI s)) :: L) [] h (mx_KV (Pst h0 x' s G V P Z n0 m0) fun _ _ => False)
/-- the pipe ahead of a pipeline's next command -/
def Ahd (w : spW) (u : Nat) (Z : List (Int32 × Nat)) (W : List (Option (Option Nat))) (Z' : List (Int32 × Nat)) (x6 : Int32) : Option Nat → Prop
  | none => x6 = -1 ∧ Z' = Z ∧ ∃ i, W = List.replicate i none
  | some o => ∃ b pp i ps, x6 = nI b ∧ b < 400 ∧ Z' = (nI b, pp) :: Z ∧ W = List.replicate i none ++ [some (some o)] ∧ (wO w)[o]? = some (5, pp, ps) ∧ u ≤ pp
/-- an old open file: no end of a pipe from u on -/
def oldO (w : spW) (u a : Nat) : Prop := ∃ q : spO, (wO w)[a]? = some q ∧ ((q.1 = 5 ∨ q.1 = 6) → q.2.1 < u)
def Olds (w : spW) (u : Nat) (G : List spE) (V : List (Option (Option Nat))) (Z : List (Int32 × Nat)) : Prop :=
  (∀ e ∈ G, ∀ k, k < 10 → ∀ a, fH e.2.1.1 k = some a → oldO w u a) ∧ (∀ x ∈ V, ∀ a, x = some (some a) → oldO w u a) ∧ ∀ z ∈ Z, z.2 < u
def SVc (h0 : mxH) (T : spT) (n k : Nat) : Prop := ∀ d g h x x' s js G V W P Z Z' n0 m0 cm l r p x6 u, gEx T k (cSev cm l r p) x = some x' → bEx T k d g (cSev cm l r p) x → Hz T n (cSev cm l r p) x →
  RG h0 h (xw x) ((s, x.2, js) :: (jG x.2 js ++ G)) (V ++ W) P ([], [], Z') (n0 + wM (xw x)) (m0 + 12 * wB (xw x)) 1000 → wX (xw x) = false → (V ++ W).length ≤ 10 + 11 * wB (xw x) → G.length + 9 * g ≤ 980 → n0 ≤ 3900 → m0 ≤ 300 →
  Ahd (xw x) u Z W Z' x6 p → Olds (xw x) u ((s, x.2, js) :: (jG x.2 js ++ G)) V Z → u ≤ (wU (xw x)).length →
  mx_SX mY_X12_runsSeveral d 17 [(0, .ref 320), (1, .int (nI s)), (3, .int (nI V.length)), (4, .int l), (5, .int r), (6, .int x6), (7, .int cm)] [] h (mx_KV (Pst h0 x' s G V P Z n0 m0) fun _ _ => False)
/-- all methods do their tasks, with so much fuel -/
def Ctr (h0 : mxH) (T : spT) (n k : Nat) : Prop :=
  (∀ v, SMc h0 T n k 0 mY_X12_runsScript [.int v] (cScr v)) ∧
  (∀ v, SXc h0 T n k mY_X12_runsScript 39 [(3, .int v)] (cChs v)) ∧
  (∀ v, SMc h0 T n k 0 mY_X12_runsChain [.int v] (cCh v)) ∧
  (∀ v, SXc h0 T n k mY_X12_runsChain 7 [(3, .int v)] (cPps v)) ∧
  (∀ v, SMc h0 T n k 0 mY_X12_runsPipes [.int v] (cPp v)) ∧
  (∀ v, SMc h0 T n k 0 mY_X12_runsSeveral [.int v] (cSev v 0 0 none)) ∧
  (SVc h0 T n k) ∧
  (∀ v, SMc h0 T n k 1 mY_X12_runsCommand [.int v] (cCmd v)) ∧
  (∀ v, SMc h0 T n k 0 mY_X12_runsBody [.int v] (cBdy v)) ∧
  (∀ v, SMc h0 T n k 0 mY_X12_calls [.int v] (cCal v)) ∧
  (SMc h0 T n k 0 mY_X12_finishes [] cFin) ∧
  (∀ j, j ≤ 8 → SXc h0 T n k mY_X12_runsJobs 2 [(2, .int (nI j))] (cJbs j)) ∧
  (∀ v l, SXc h0 T n k mY_X12_runsWhile 13 [(2, .int v), (3, .int l)] (cWhl v l)) ∧
  (∀ j b, (b = 0 ∨ b = 1) → SMc h0 T n k 0 mY_X12_runsJob [.int (nI j), .int b] (cJob j b))
theorem Ctr.scr {h0 : mxH} {T : spT} {n k : Nat} (h : Ctr h0 T n k) : ∀ v, SMc h0 T n k 0 mY_X12_runsScript [.int v] (cScr v) := h.1
theorem Ctr.chs {h0 : mxH} {T : spT} {n k : Nat} (h : Ctr h0 T n k) : ∀ v, SXc h0 T n k mY_X12_runsScript 39 [(3, .int v)] (cChs v) := h.2.1
theorem Ctr.ch {h0 : mxH} {T : spT} {n k : Nat} (h : Ctr h0 T n k) : ∀ v, SMc h0 T n k 0 mY_X12_runsChain [.int v] (cCh v) := h.2.2.1
theorem Ctr.pps {h0 : mxH} {T : spT} {n k : Nat} (h : Ctr h0 T n k) : ∀ v, SXc h0 T n k mY_X12_runsChain 7 [(3, .int v)] (cPps v) := h.2.2.2.1
theorem Ctr.pp {h0 : mxH} {T : spT} {n k : Nat} (h : Ctr h0 T n k) : ∀ v, SMc h0 T n k 0 mY_X12_runsPipes [.int v] (cPp v) := h.2.2.2.2.1
theorem Ctr.sev {h0 : mxH} {T : spT} {n k : Nat} (h : Ctr h0 T n k) : ∀ v, SMc h0 T n k 0 mY_X12_runsSeveral [.int v] (cSev v 0 0 none) := h.2.2.2.2.2.1
theorem Ctr.svl {h0 : mxH} {T : spT} {n k : Nat} (h : Ctr h0 T n k) : SVc h0 T n k := h.2.2.2.2.2.2.1
theorem Ctr.cmd {h0 : mxH} {T : spT} {n k : Nat} (h : Ctr h0 T n k) : ∀ v, SMc h0 T n k 1 mY_X12_runsCommand [.int v] (cCmd v) := h.2.2.2.2.2.2.2.1
theorem Ctr.bdy {h0 : mxH} {T : spT} {n k : Nat} (h : Ctr h0 T n k) : ∀ v, SMc h0 T n k 0 mY_X12_runsBody [.int v] (cBdy v) := h.2.2.2.2.2.2.2.2.1
theorem Ctr.cal {h0 : mxH} {T : spT} {n k : Nat} (h : Ctr h0 T n k) : ∀ v, SMc h0 T n k 0 mY_X12_calls [.int v] (cCal v) := h.2.2.2.2.2.2.2.2.2.1
theorem Ctr.fin {h0 : mxH} {T : spT} {n k : Nat} (h : Ctr h0 T n k) : SMc h0 T n k 0 mY_X12_finishes [] cFin := h.2.2.2.2.2.2.2.2.2.2.1
theorem Ctr.jbs {h0 : mxH} {T : spT} {n k : Nat} (h : Ctr h0 T n k) : ∀ j, j ≤ 8 → SXc h0 T n k mY_X12_runsJobs 2 [(2, .int (nI j))] (cJbs j) := h.2.2.2.2.2.2.2.2.2.2.2.1
theorem Ctr.whl {h0 : mxH} {T : spT} {n k : Nat} (h : Ctr h0 T n k) : ∀ v l, SXc h0 T n k mY_X12_runsWhile 13 [(2, .int v), (3, .int l)] (cWhl v l) := h.2.2.2.2.2.2.2.2.2.2.2.2.1
theorem Ctr.job {h0 : mxH} {T : spT} {n k : Nat} (h : Ctr h0 T n k) : ∀ j b, (b = 0 ∨ b = 1) → SMc h0 T n k 0 mY_X12_runsJob [.int (nI j), .int b] (cJob j b) := h.2.2.2.2.2.2.2.2.2.2.2.2.2
end MXBU
/-! after a shell's end none of its jobs waits -/
section MXNZ
variable {T : spT} {x x' : spX}
theorem job_sh {k j : Nat} {b : Int32} (h : gEx T k (cJob j b) x = some x') : ∃ q, xj x' = (xj x).set j q ∧ (wX (xw x') = false → q.1 = 1) := by
  cases k with
  | zero => cases h
  | succ k =>
    have h : gJob (gEx T k) j b x = some x' := h
    unfold gJob at h
    simp only [] at h
    obtain ⟨y1, hy1, h2⟩ := Option.bind_eq_some_iff.mp h
    obtain ⟨y2, hy2, h3⟩ := Option.bind_eq_some_iff.mp h2
    split at h3
    · rename_i cx
      cases h3
      exact ⟨_, rfl, fun e => by rw [cx] at e; cases e⟩
    · cases h3
      exact ⟨(1, _, _, _), List.set_set .., fun _ => rfl⟩
theorem nz_jbs : ∀ k (j : Nat) (x : spX), gEx T k (cJbs j) x = some x' → wX (xw x') = false → (∀ i (hi : i < (xj x).length), i < j → (xj x)[i].1 ≠ 0) → ∀ q ∈ xj x', q.1 ≠ 0 := by
  intro k
  induction k with
  | zero => intro j x h; cases h
  | succ k ih =>
    intro j x h hX hn
    have h : gJbs (gEx T k) j x = some x' := h
    unfold gJbs at h
    split at h
    · rename_i c
      cases h
      rcases c with c | c
      · intro q hq
        obtain ⟨i, hi, rfl⟩ := List.mem_iff_getElem.mp hq
        exact hn i hi (by omega)
      · rw [c] at hX; cases hX
    · rename_i c
      have lt : j < (xj x).length := by
        rcases Nat.lt_or_ge j (xj x).length with g | g
        · exact g
        · exact absurd (Or.inl g) c
      obtain ⟨x1, hx1, h2⟩ := Option.bind_eq_some_iff.mp h
      have e0 : jbAt x j = (xj x)[j] := by unfold jbAt; rw [gd_at lt]
      split at hx1
      · obtain ⟨q, q1, q2⟩ := job_sh hx1
        by_cases cx : wX (xw x1) = false
        · refine ih (j + 1) x1 h2 hX fun i hi hj => ?_
          have hi2 : i < ((xj x).set j q).length := by rw [← q1]; exact hi
          have e : (xj x1)[i] = ((xj x).set j q)[i] := by simp only [q1]
          rw [e]
          by_cases ci : i = j
          · subst ci
            rw [List.getElem_set_self, q2 cx]; decide
          · rw [List.getElem_set_ne (fun e => ci e.symm)]
            exact hn i (by rw [List.length_set] at hi2; exact hi2) (by omega)
        · have cx' : wX (xw x1) = true := by cases e : wX (xw x1) with
            | true => rfl
            | false => exact absurd e cx
          cases k with
          | zero => cases h2
          | succ k =>
            have h2 : gJbs (gEx T k) (j + 1) x1 = some x' := h2
            unfold gJbs at h2
            rw [if_pos (Or.inr cx')] at h2
            cases h2
            rw [cx'] at hX; cases hX
      · rename_i c0
        cases hx1
        refine ih (j + 1) x h2 hX fun i hi hj => ?_
        by_cases ci : i = j
        · subst ci; rw [← e0]; exact c0
        · exact hn i hi (by omega)
theorem nz_fin {k : Nat} (h : gEx T k cFin x = some x') (hX : wX (xw x') = false) : ∀ q ∈ xj x', q.1 ≠ 0 := by
  cases k with
  | zero => cases h
  | succ k =>
    have h : gFin (gEx T k) x = some x' := h
    unfold gFin at h
    simp only [] at h
    split at h
    · obtain ⟨x2, hx2, h2⟩ := Option.bind_eq_some_iff.mp h
      split at h2
      · rename_i cx; cases h2; rw [cx] at hX; cases hX
      · exact nz_jbs k 0 _ h2 hX fun i _ hi => absurd hi (Nat.not_lt_zero _)
    · exact nz_jbs k 0 _ h hX fun i _ hi => absurd hi (Nat.not_lt_zero _)
theorem jG_nil {S : spS} {js : List Nat} (h : ∀ q ∈ S.2.2, q.1 ≠ 0) : jG S js = [] := by
  unfold jG
  rw [List.filterMap_eq_nil_iff]
  intro q hq
  have := h q.1 (List.of_mem_zip hq).1
  rw [if_neg this]
theorem jG_eq {S S' : spS} {js : List Nat} (h : S'.2.2 = S.2.2) : jG S' js = jG S js := by unfold jG; rw [h]
theorem jG_snoc {S S' : spS} {js : List Nat} {c : Int32} {F : spF} {q : Nat} {v : Int32} (h : S'.2.2 = S.2.2 ++ [(0, v, c, F)]) (hl : js.length = S.2.2.length) : jG S' (js ++ [q]) = jG S js ++ [(q, (F, false, []), [])] := by
  unfold jG
  rw [h, List.zip_append hl.symm, List.filterMap_append]
  rfl
end MXNZ
