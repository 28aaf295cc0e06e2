/-! THE REFERENCE AND THE MIDDLE: what its rows say -/
section MXRG
/-- a number of the store of lines stands for a line -/
abbrev isB (x : Int32) : Prop := x.toInt8.toInt32 = x
def RLr (t n u : Nat → Int32) (v : Int32) (l : spL) : Prop := ∃ i, v = nI i ∧ i < 4400 ∧ u i = 1 ∧ l.length ≤ 80 ∧ n i = nI l.length ∧ ∀ k (hk : k < l.length), t (80 * i + k) = l[k] ∧ isB l[k]
abbrev RLn (h : mxH) : Int32 → spL → Prop := RLr (hpI h 339) (hpI h 340) (hpI h 341)
/-- places from j on of a row stand for lines -/
def RLs (ln : Int32 → spL → Prop) (f : Nat → Int32) (j : Nat) (ls : List spL) : Prop := ∀ k (hk : k < ls.length), ln (f (j + k)) ls[k]
/-- files, input, output: the rows world and fileName -/
def RW (ln : Int32 → spL → Prop) (f : Nat → Int32) (g : Nat → Int64) (w : spW) : Prop :=
  (f 0 = nI (wF w).length ∧ (wF w).length ≤ 8 ∧ ∀ i (hi : i < (wF w).length), g i = (wF w)[i].1 ∧ f (1 + 41 * i) = nI (wF w)[i].2.length ∧ (wF w)[i].2.length ≤ 40 ∧ RLs ln f (2 + 41 * i) (wF w)[i].2) ∧
  (∀ i, (wF w).length ≤ i → i < 8 → ∃ ls : List spL, f (1 + 41 * i) = nI ls.length ∧ ls.length ≤ 40 ∧ RLs ln f (2 + 41 * i) ls) ∧
  (f 329 = nI (wI w).length ∧ (wI w).length ≤ 40 ∧ RLs ln f 330 (wI w)) ∧
  (f 370 = nI (wP w).length ∧ (wP w).length ≤ 100 ∧ RLs ln f 371 (wP w))
/-- the counts and the trace: the row told -/
def RT (f : Nat → Int32) (w : spW) : Prop := f 0 = nI (wB w) ∧ wB w ≤ 300 ∧ f 1 = nI (wK w) ∧ f 2 = (if wX w = true then 1 else 0) ∧ f 3 = nI (wT w).length ∧ (wT w).length ≤ 60 ∧ ∀ k (hk : k < (wT w).length), f (4 + 3 * k) = (wT w)[k].1 ∧ f (5 + 3 * k) = (wT w)[k].2.1 ∧ f (6 + 3 * k) = (wT w)[k].2.2
/-- a handle's number stands for an open file of the middle -/
def RHv (A : Nat → Option Nat) (v : Int32) (x : Option Nat) : Prop := (x = none ∧ v = -1) ∨ ∃ o a, x = some a ∧ v = nI o ∧ o < 4000 ∧ A o = some a
/-- the open files: A tells the middle's, B the reference's pipe of a pipe of the middle -/
def RO (k o p : Nat → Int32) (A B : Nat → Option Nat) (w : spW) : Prop :=
  (∀ i a, A i = some a → i < 4000 ∧ ∃ q, (wO w)[a]? = some q ∧ k i = nI q.1 ∧ 1 ≤ q.1 ∧ q.1 ≤ 6 ∧ p i = nI q.2.2 ∧ q.2.2 ≤ 40 ∧
    ((q.1 = 2 ∨ q.1 = 3 ∨ q.1 = 4) → o i = nI q.2.1 ∧ q.2.1 < (wF w).length) ∧ ((q.1 = 5 ∨ q.1 = 6) → ∃ b, B q.2.1 = some b ∧ o i = nI b)) ∧
  (∀ i j a, A i = some a → A j = some a → i = j)
/-- a queue: its numbers from v on -/
def RQ (nx : Nat → Int32) : Int32 → List Nat → Prop
  | v, [] => v = -1
  | v, q :: l => v = nI q ∧ q < 13000 ∧ RQ nx (nx q) l
/-- the pipes: first, last, isPipe, queueLine, queueNext, queueFree -/
def RP (ln : Int32 → spL → Prop) (fi la ip ql qn : Nat → Int32) (qf : Int32) (B : Nat → Option Nat) (Qs : Nat → List Nat) (w : spW) : Prop :=
  ∃ (fr : List Nat), RQ qn qf fr ∧
    (∀ b, b < 400 → RQ qn (fi b) (Qs b) ∧ (Qs b = [] → la b = -1) ∧ (∀ x, (Qs b).getLast? = some x → la b = nI x) ∧ (ip b = 0 → Qs b = [])) ∧
    (∀ b, 400 ≤ b → Qs b = []) ∧ (fr.Nodup ∧ (∀ b, (Qs b).Nodup) ∧ (∀ b x, x ∈ Qs b → x ∉ fr) ∧ ∀ b c x, b ≠ c → x ∈ Qs b → x ∉ Qs c) ∧
    (∀ x, x < 13000 → x ∈ fr ∨ ∃ b, b < 400 ∧ x ∈ Qs b) ∧
    (∀ a b, B a = some b → a < (wU w).length ∧ b < 400 ∧ ip b = 1 ∧ (Qs b).length = ((wU w).getD a []).length ∧ ∀ k (h1 : k < (Qs b).length) (h2 : k < ((wU w).getD a []).length), ln (ql (Qs b)[k]) ((wU w).getD a [])[k]) ∧
    (∀ a c b, B a = some b → B c = some b → a = c) ∧ (∀ b, b < 400 → ip b = 0 ∨ ip b = 1) ∧ (∀ b, b < 400 → ip b = 1 → ∃ a, B a = some b)
/-- a shell's row: what a subshell copies, but its handles -/
def RF (ln : Int32 → spL → Prop) (f : Nat → Int32) (g : Nat → Int64) (F : spF) : Prop :=
  (f 0 = nI (fV F).length ∧ (fV F).length ≤ 20 ∧ ∀ k (hk : k < (fV F).length), g k = (fV F)[k].1 ∧ ln (f (1 + k)) (fV F)[k].2) ∧
  (f 21 = nI (fU F).length ∧ (fU F).length ≤ 10 ∧ ∀ k (hk : k < (fU F).length), g (20 + k) = (fU F)[k].1 ∧ f (22 + k) = (fU F)[k].2) ∧
  (∀ k, k < 4 → g (30 + k) = fA F k) ∧ f 32 = (if fP F = true then 1 else 0) ∧ f 33 = fS F ∧ f 34 = fD F ∧ f 35 = (if fG F = true then 1 else 0) ∧
  f 46 = nI (fN F) ∧ fN F ≤ 4 ∧ f 47 = nI (fB F) ∧ fB F ≤ 4
def RFh (A : Nat → Option Nat) (f : Nat → Int32) (hs : spH) : Prop := ∀ k, k < 10 → RHv A (f (36 + k)) (hs k)
/-- ... its end, its jobs (js: their subshells) -/
def RJ (f : Nat → Int32) (e : Bool) (jb : List spJ) (js : List Nat) : Prop :=
  f 48 = (if e = true then 1 else 0) ∧ f 49 = nI jb.length ∧ jb.length ≤ 8 ∧ js.length = jb.length ∧
  ∀ k (hk : k < jb.length) (hj : k < js.length), f (50 + 4 * k) = nI jb[k].1 ∧ jb[k].1 ≤ 2 ∧ f (51 + 4 * k) = jb[k].2.1 ∧ f (52 + 4 * k) = jb[k].2.2.1 ∧ f (53 + 4 * k) = nI js[k]
/-- a row of the table of shells, of names -/
abbrev shR (f : Nat → Int32) (s : Nat) : Nat → Int32 := fun k => f (83 * s + k)
abbrev shN (g : Nat → Int64) (s : Nat) : Nat → Int64 := fun k => g (34 * s + k)
/-- the shells that live: number, shell, subshells of its jobs -/
abbrev spE : Type := Nat × spS × List Nat
def RE (ln : Int32 → spL → Prop) (A : Nat → Option Nat) (f : Nat → Int32) (g : Nat → Int64) (G : List spE) : Prop :=
  (∀ e ∈ G, e.1 < 1000 ∧ f (83 * e.1 + 82) = 1 ∧ RF ln (shR f e.1) (shN g e.1) e.2.1.1 ∧ RFh A (shR f e.1) (fH e.2.1.1) ∧ RJ (shR f e.1) e.2.1.2.1 e.2.1.2.2 e.2.2) ∧ (G.map (fun e => e.1)).Nodup ∧
  (∀ s, s < 1000 → f (83 * s + 82) = 1 → s ∈ G.map (fun e => e.1))
/-- the kept handles: rows saved, savedMany; none: whatever it is, it is not used any more -/
def RV (A : Nat → Option Nat) (f : Nat → Int32) (n : Int32) (V : List (Option (Option Nat))) : Prop := n = nI V.length ∧ ∀ k (hk : k < V.length), match V[k] with
  | none => f k = -1 ∨ ∃ o, f k = nI o ∧ o < 4000
  | some x => RHv A (f k) x
/-- the numbers of lines that a row names: world, shell -/
def RCw (f : Nat → Int32) (L : Int32 → Prop) : Prop := (∀ i, i < 8 → ∀ k, k < (f (1 + 41 * i)).toNatClampNeg → L (f (2 + 41 * i + k))) ∧ (∀ k, k < (f 329).toNatClampNeg → L (f (330 + k))) ∧ (∀ k, k < (f 370).toNatClampNeg → L (f (371 + k)))
def RCs (f : Nat → Int32) (L : Int32 → Prop) : Prop := ∀ k, k < (f 0).toNatClampNeg → L (f (1 + k))
/-- a kept state: rows past, pastLongs from their place on -/
def RK1 (f : Nat → Int32) (w : spW) (hs : spH) : Prop := ∀ i, i < 10 → match hs i with
  | none => f (738 + 4 * i) = nI i ∧ f (739 + 4 * i) = 0
  | some a => ∃ q m, (wO w)[a]? = some q ∧ m ≤ i ∧ hs m = some a ∧ (∀ j, j < m → hs j ≠ some a) ∧ f (738 + 4 * i) = nI m ∧ f (739 + 4 * i) = nI q.1 ∧ 1 ≤ q.1 ∧ q.1 ≤ 4 ∧ f (740 + 4 * i) = nI q.2.1 ∧ f (741 + 4 * i) = nI q.2.2 ∧ q.2.2 ≤ 40 ∧ (q.1 ≠ 1 → q.2.1 < (wF w).length)
def RK (ln : Int32 → spL → Prop) (f : Nat → Int32) (g : Nat → Int64) (x : spX) : Prop :=
  RW ln f g (xw x) ∧ RF ln (fun k => f (471 + k)) (fun k => g (8 + k)) (xf x) ∧ (∃ js, RJ (fun k => f (471 + k)) (xe x) (xj x) js) ∧ f (471 + 82) = 1 ∧ RT (fun k => f (554 + k)) (xw x) ∧ RK1 f (xw x) (fH (xf x))
/-- the numbers of the lines that are named, and of the open files that are held (but by the shell xs): not too many -/
def RC (f : Nat → Int32) (sh : Nat → Int32) (ql : Nat → Int32) (pa : Nat → Int32) (Qs : Nat → List Nat) (D n : Nat) (X : List (Int32 × spL)) : Prop :=
  ∃ Lr : List Int32, (Lr.length ≤ n ∧ (0 : Int32) ∈ Lr) ∧ RCw f (· ∈ Lr) ∧ (∀ s, s < 1000 → sh (83 * s + 82) = 1 → RCs (shR sh s) (· ∈ Lr)) ∧ (∀ b, b < 400 → ∀ x ∈ Qs b, ql x ∈ Lr) ∧
    (∀ d, d < D → RCw (fun k => pa (778 * d + k)) (· ∈ Lr) ∧ RCs (fun k => pa (778 * d + (471 + k))) (· ∈ Lr)) ∧ ∀ q ∈ X, q.1 ∈ Lr
def RCo (sh sv : Nat → Int32) (V m xs : Nat) (Y : List (Int32 × Nat)) : Prop := ∃ Lo : List Int32, Lo.length ≤ m ∧ (∀ s, s < 1000 → s ≠ xs → sh (83 * s + 82) = 1 → ∀ k, k < 10 → sh (83 * s + 36 + k) ∈ Lo) ∧ (∀ k, k < V → sv k ∈ Lo) ∧ ∀ q ∈ Y, q.1 ∈ Lo
/-- what is in hand: numbers of lines, of open files, of pipes -/
abbrev spN : Type := List (Int32 × spL) × List (Int32 × Nat) × List (Int32 × Nat)
/-- what a run may change: rows of ints, of longs, fields of the reference -/
def frS (a : Nat) : Bool := (decide (339 ≤ a) && decide (a ≤ 342)) || (decide (344 ≤ a) && decide (a ≤ 354)) || (decide (356 ≤ a) && decide (a ≤ 361))
def frL (a : Nat) : Bool := decide (a = 343) || decide (a = 355) || decide (a = 362)
def frF (k : Nat) : Bool := decide (k = 0) || decide (k = 55) || decide (k = 66) || decide (k = 67) || decide (k = 69) || decide (k = 77) || decide (k = 78) || decide (k = 82)
def Fr (h0 h : mxH) : Prop := (hpN h = hpN h0 ∧ hpC h = hpC h0 ∧ hpS h = hpS h0 ∧ hpK h = hpK h0 ∧ hpZ h = hpZ h0 ∧ hpR h = hpR h0) ∧
  (∀ a, a ≠ 320 → frS a = false → hpI h a = hpI h0 a) ∧ (∀ a, frL a = false → hpL h a = hpL h0 a) ∧ ∀ k, frF k = false → hpI h 320 k = hpI h0 320 k
/-- ALL OF THE REFERENCE'S ROWS, but its text's nodes: since h0 the frame is kept; the middle's w, the shells that live G, the kept handles V, the kept states P, what is in hand N; n bounds the lines named, m the open files held (but by shell xs) -/
def RG (h0 h : mxH) (w : spW) (G : List spE) (V : List (Option (Option Nat))) (P : List spX) (N : spN) (n m xs : Nat) : Prop :=
  ∃ (A B : Nat → Option Nat) (Qs : Nat → List Nat), Fr h0 h ∧ SR h ∧ RW (RLn h) (hpI h 342) (hpL h 343) w ∧ RT (hpI h 356) w ∧ RO (hpI h 344) (hpI h 345) (hpI h 346) A B w ∧
    RP (RLn h) (hpI h 347) (hpI h 348) (hpI h 349) (hpI h 350) (hpI h 351) (hpI h 320 66) B Qs w ∧ RE (RLn h) A (hpI h 354) (hpL h 355) G ∧ RV A (hpI h 352) (hpI h 320 69) V ∧
    (hpI h 320 82 = nI P.length ∧ P.length ≤ 6 ∧ ∀ d (hd : d < P.length), RK (RLn h) (fun k => hpI h 361 (778 * d + k)) (fun k => hpL h 362 (42 * d + k)) P[d]) ∧
    RC (hpI h 342) (hpI h 354) (hpI h 350) (hpI h 361) Qs P.length n N.1 ∧ RCo (hpI h 354) (hpI h 352) V.length m xs N.2.1 ∧
    (RLn h 0 [] ∧ (∃ i, hpI h 320 55 = nI i ∧ i < 4400) ∧ (∃ i, hpI h 320 67 = nI i ∧ i < 4000) ∧ (∀ i, i < 4000 → ∃ k, hpI h 344 i = nI k ∧ k ≤ 6)) ∧
    ((∀ q ∈ N.1, RLn h q.1 q.2) ∧ (∀ q ∈ N.2.1, RHv A q.1 (some q.2)) ∧ ∀ q ∈ N.2.2, ∃ b, q.1 = nI b ∧ B q.2 = some b)
/-- the nodes of the reference's text -/
def rtabs (h : mxH) : spT := (hpI h 323, hpI h 324, hpI h 325, hpI h 326, hpI h 327, hpI h 328, hpI h 329, hpL h 330)
theorem Fr.rf {h : mxH} : Fr h h := ⟨⟨rfl, rfl, rfl, rfl, rfl, rfl⟩, fun _ _ _ => rfl, fun _ _ => rfl, fun _ _ => rfl⟩
theorem Fr.tr {h0 h1 h2 : mxH} (a : Fr h0 h1) (b : Fr h1 h2) : Fr h0 h2 := by
  obtain ⟨⟨a1, a2, a3, a4, a5, a6⟩, a7, a8, a9⟩ := a
  obtain ⟨⟨b1, b2, b3, b4, b5, b6⟩, b7, b8, b9⟩ := b
  exact ⟨⟨b1.trans a1, b2.trans a2, b3.trans a3, b4.trans a4, b5.trans a5, b6.trans a6⟩, fun a h1 h2 => (b7 a h1 h2).trans (a7 a h1 h2), fun a h1 => (b8 a h1).trans (a8 a h1), fun k hk => (b9 k hk).trans (a9 k hk)⟩
theorem Fr.rI {h0 h : mxH} (r : Fr h0 h) {a : Nat} {f : Nat → Int32} (ha : frS a = true) : Fr h0 (hrI h a f) := by
  have n320 : a ≠ 320 := fun e => by subst e; cases ha
  refine ⟨r.1, fun b hb1 hb2 => ?_, r.2.2.1, fun k hk => ?_⟩
  · rw [hpI_rI, if_neg (fun e => by rw [e, ha] at hb2; cases hb2)]; exact r.2.1 b hb1 hb2
  · rw [hpI_rI, if_neg (fun e => n320 e.symm)]; exact r.2.2.2 k hk
theorem Fr.rL {h0 h : mxH} (r : Fr h0 h) {a : Nat} {f : Nat → Int64} (ha : frL a = true) : Fr h0 (hrL h a f) :=
  ⟨r.1, r.2.1, fun b hb => by rw [hpL_rL, if_neg (fun e => by rw [e, ha] at hb; cases hb)]; exact r.2.2.1 b hb, r.2.2.2⟩
theorem Fr.sF {h0 h : mxH} (r : Fr h0 h) {k : Nat} {v : Int32} (hk : frF k = true) : Fr h0 (hsI h 320 k v) := by
  refine ⟨r.1, fun b hb1 hb2 => ?_, r.2.2.1, fun j hj => ?_⟩
  · show hpI (hrI h 320 _) b = _
    rw [hpI_rI, if_neg hb1]; exact r.2.1 b hb1 hb2
  · show hpI (hrI h 320 (fup (hpI h 320) k v)) 320 j = _
    rw [hpI_rI, if_pos rfl]
    show (if j = k then v else hpI h 320 j) = _
    rw [if_neg (fun e => by rw [e, hk] at hj; cases hj)]
    exact r.2.2.2 j hj
theorem Fr.rt {h0 h : mxH} (r : Fr h0 h) : rtabs h = rtabs h0 := by
  unfold rtabs
  rw [r.2.1 323 (by decide) rfl, r.2.1 324 (by decide) rfl, r.2.1 325 (by decide) rfl, r.2.1 326 (by decide) rfl, r.2.1 327 (by decide) rfl, r.2.1 328 (by decide) rfl, r.2.1 329 (by decide) rfl, r.2.2.1 330 rfl]
end MXRG
