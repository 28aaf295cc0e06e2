/-! THE CLASS'S CELLS AND THE PURE MACHINE: definitions -/
section MXCM
/-- a number of the class's rows of lines stands for a line -/
def CLr (t n u : Nat → Int32) (v : Int32) (l : spL) : Prop := ∃ i, v = nI i ∧ i < 3200 ∧ (i = 0 ∨ u i = 1) ∧ l.length ≤ 80 ∧ n i = nI l.length ∧ ∀ k (hk : k < l.length), t (80 * i + k) = l[k] ∧ isB l[k]
abbrev CLn (h : mxH) : Int32 → spL → Prop := CLr (hpI h 132) (hpI h 133) (hpI h 134)
/-- a world: its numbers, lengths, lines, input, output, records, names; at most s records were made -/
def CW (ln : Int32 → spL → Prop) (f0 f2 f3 f4 f5 f9 : Nat → Int32) (g1 : Nat → Int64) (s : Nat) (w : spW) : Prop :=
  (f0 3 = nI (wF w).length ∧ (wF w).length ≤ 8 ∧ ∀ i (hi : i < (wF w).length), g1 i = (wF w)[i].1 ∧ f2 i = nI (wF w)[i].2.length ∧ (wF w)[i].2.length ≤ 40 ∧ RLs ln f3 (40 * i) (wF w)[i].2) ∧
  (f0 5 = nI (wI w).length ∧ (wI w).length ≤ 40 ∧ RLs ln f4 0 (wI w)) ∧ (f0 7 = nI (wP w).length ∧ (wP w).length ≤ 100 ∧ RLs ln f5 0 (wP w)) ∧
  (f0 11 = nI (wB w) ∧ wB w ≤ 300 ∧ f0 12 = nI (wK w) ∧ f0 13 = (if wX w = true then 1 else 0)) ∧
  ∃ n, f0 10 = nI n ∧ n ≤ s ∧ (wT w).length = min n 60 ∧ ∀ k (hk : k < (wT w).length), f9 (3 * ((n - (wT w).length + k) % 60)) = (wT w)[k].1 ∧ f9 (3 * ((n - (wT w).length + k) % 60) + 1) = (wT w)[k].2.1 ∧ f9 (3 * ((n - (wT w).length + k) % 60) + 2) = (wT w)[k].2.2
abbrev CWh (h : mxH) (W : Nat) (s : Nat) (w : spW) : Prop := CW (CLn h) (hpI h W) (hpI h (W + 2)) (hpI h (W + 3)) (hpI h (W + 4)) (hpI h (W + 5)) (hpI h (W + 19)) (hpL h (W + 1)) s w
/-- a queue of nodes -/
def CQ (nx : Nat → Int32) : Int32 → List Nat → Prop
  | v, [] => v = -1
  | v, q :: l => v = nI q ∧ q < 12040 ∧ CQ nx (nx q) l
/-- the pipes: Channels' numbers, first and last nodes, the nodes' lines and next ones -/
def CP (ln : Int32 → spL → Prop) (c fi la ql qn : Nat → Int32) (w : spW) : Prop := ∃ (Qs : Nat → List Nat) (fr : List Nat) (made : Nat), c 3 = nI (wU w).length ∧ (wU w).length ≤ 302 ∧ c 6 = nI made ∧ made ≤ 12040 ∧ CQ qn (c 7) fr ∧
  (∀ a, a < (wU w).length → CQ qn (fi a) (Qs a) ∧ (Qs a = [] → la a = -1) ∧ (∀ x, (Qs a).getLast? = some x → la a = nI x) ∧ (Qs a).length = ((wU w).getD a []).length ∧ ∀ k (h1 : k < (Qs a).length) (h2 : k < ((wU w).getD a []).length), ln (ql (Qs a)[k]) ((wU w).getD a [])[k]) ∧
  (fr.Nodup ∧ (∀ a, (Qs a).Nodup) ∧ (∀ a x, x ∈ Qs a → x ∉ fr) ∧ ∀ a b x, a ≠ b → x ∈ Qs a → x ∉ Qs b) ∧ (∀ a, (wU w).length ≤ a → Qs a = []) ∧ (∀ x, x ∈ fr → x < made) ∧ (∀ a x, x ∈ Qs a → x < made) ∧ fr.length + totU w = made
abbrev CPh (h : mxH) (w : spW) : Prop := CP (CLn h) (hpI h 135) (hpI h 136) (hpI h 137) (hpI h 138) (hpI h 139) w
/-- a handle's cell: an open file of the middle -/
def RHc (A : Nat → Option Nat) (r x : Option Nat) : Prop := (r = none ∧ x = none) ∨ ∃ o a, r = some o ∧ x = some a ∧ A o = some a
def CO (h : mxH) (A : Nat → Option Nat) (w : spW) : Prop :=
  (∀ o a, A o = some a → mx_kd h o 5 ∧ ∃ q, (wO w)[a]? = some q ∧ hpI h o 0 = nI q.1 ∧ 1 ≤ q.1 ∧ q.1 ≤ 6 ∧ hpI h o 3 = nI q.2.2 ∧ q.2.2 ≤ 40 ∧ ((q.1 = 2 ∨ q.1 = 3 ∨ q.1 = 4) → hpI h o 1 = nI q.2.1 ∧ q.2.1 < (wF w).length) ∧ ((q.1 = 5 ∨ q.1 = 6) → hpI h o 2 = nI q.2.1 ∧ q.2.1 < (wU w).length)) ∧
  (∀ o o' a, A o = some a → A o' = some a → o = o')
/-- a shell's cells: what a subshell copies, but its handles -/
def CF (D : pmC) (ln : Int32 → spL → Prop) (h : mxH) (x : Nat) (F : spF) : Prop :=
  (hpI h (x + 1) 2 = nI (fV F).length ∧ (fV F).length ≤ 20 ∧ ∀ k (hk : k < (fV F).length), hpL h (x + 2) k = (fV F)[k].1 ∧ ln (hpI h (x + 3) k) (fV F)[k].2) ∧
  (hpI h (x + 4) 2 = nI (fU F).length ∧ (fU F).length ≤ 10 ∧ ∀ k (hk : k < (fU F).length), hpL h (x + 5) k = (fU F)[k].1 ∧ hpI h (x + 6) k = nI (kPl D (fU F)[k].2)) ∧
  (∀ k, k < 4 → hpL h (x + 7) k = fA F k) ∧ hpI h x 4 = (if fP F = true then 1 else 0) ∧ hpI h x 5 = (if fG F = true then 1 else 0) ∧ hpI h x 6 = fS F ∧ hpI h x 7 = fD F ∧ hpI h x 8 = nI (fN F) ∧ fN F ≤ 4 ∧ hpI h x 9 = nI (fB F) ∧ fB F ≤ 4
def CH (h : mxH) (A : Nat → Option Nat) (x : Nat) (hs : spH) : Prop := ∀ k, k < 10 → RHc A (hpR h (x + 9) k) (hs k)
/-- ... its end, its jobs (js: their shells) -/
def CJ (D : pmC) (h : mxH) (x : Nat) (en : Bool) (jb : List spJ) (js : List Nat) : Prop := hpI h x 10 = (if en = true then 1 else 0) ∧ hpI h x 14 = nI jb.length ∧ jb.length ≤ 8 ∧ js.length = jb.length ∧
  ∀ k (hk : k < jb.length) (hj : k < js.length), hpR h (x + 10) k = (if jb[k].1 = 0 then some js[k] else none) ∧ hpI h (x + 11) k = nI (kPl D jb[k].2.2.1) ∧ hpI h (x + 12) k = (if jb[k].1 = 1 then jb[k].2.1 else -1)
/-- a shell that lives: its place, the shell, its jobs' shells -/
abbrev cE : Type := Nat × (spF × Bool × List spJ) × List Nat
def CS (D : pmC) (h : mxH) (A : Nat → Option Nat) (e : cE) : Prop := SB h e.1 ∧ CF D (CLn h) h e.1 e.2.1.1 ∧ CH h A e.1 (fH e.2.1.1) ∧ CJ D h e.1 e.2.1.2.1 e.2.1.2.2 e.2.2
/-- a level with its place and its jobs' shells -/
abbrev cZ : Type := Nat × pmL × List Nat
def cJs (jb : List spJ) (js : List Nat) : List cE := (jb.zip js).filterMap fun q => if q.1.1 = 0 then some (q.2, (q.1.2.2.2, false, []), []) else none
def cZe (z : cZ) : List cE := (z.1, (z.2.1.1, z.2.1.2.1, z.2.1.2.2.1), z.2.2) :: cJs z.2.1.2.2.1 z.2.2
def cG (Z : List cZ) : List cE := Z.flatMap cZe
/-- the frames that a level may have -/
def CFr (h : mxH) (A : Nat → Option Nat) (w : spW) (z : cZ) : Prop := ∀ q ∈ z.2.1.2.2.2, (q.1 = 1 ∨ q.1 = 2 ∨ q.1 = 3 ∨ q.1 = 4 ∨ q.1 = 5 ∨ q.1 = 6 ∨ q.1 = 8) ∧ (q.1 = 4 → hpI h z.1 11 = q.2.2.1) ∧
  (q.1 = 6 → ∃ o pp, q.2.2.2.2.2 = some o ∧ q.2.2.2.1 = nI pp ∧ pp < (wU w).length ∧ (wO w)[o]? = some (5, pp, 0) ∧ ∀ x, A x ≠ some o)
/-- who waits for whom; how many frames lie below -/
def CPar (h : mxH) : List cZ → List (pmU × pmL) → Prop
  | [], _ => True
  | z :: Z, K => hpR h z.1 13 = (Z.head?).map (fun q => q.1) ∧ hpI h z.1 12 = nI (nFK K) ∧ CPar h Z K.tail
/-- the frames' row, uppermost first -/
abbrev cT : Type := Int32 × Int32 × Int32 × Int32
def tfr (q : pmF) : cT := (if q.1 = 8 then 6 else nI q.1, q.2.1, q.2.2.1, q.2.2.2.1)
def TFK : List (pmU × pmL) → List cT
  | [] => []
  | u :: K => (7, u.1.1, nI u.1.2.1, nI u.1.2.2) :: (u.2.2.2.2.map tfr ++ TFK K)
def cTF (m : pmM) : List cT := m.2.2.1.2.2.2.map tfr ++ TFK m.2.2.2
def CT (f : Nat → Int32) (l : List cT) : Prop := ∀ i (hi : i < l.length), f (4 * (l.length - 1 - i)) = l[i].1 ∧ f (4 * (l.length - 1 - i) + 1) = l[i].2.1 ∧ f (4 * (l.length - 1 - i) + 2) = l[i].2.2.1 ∧ f (4 * (l.length - 1 - i) + 3) = l[i].2.2.2
/-- the kept handles, uppermost first -/
def tsv (l : List pmF) : List spH := l.filterMap fun q => if q.1 = 1 then some q.2.2.2.2.1 else none
def TSK : List (pmU × pmL) → List spH
  | [] => []
  | u :: K => tsv u.2.2.2.2 ++ TSK K
def cTS (m : pmM) : List spH := tsv m.2.2.1.2.2.2 ++ TSK m.2.2.2
/-- rows of kept Handles: VS the Handles that were made, in the order of their places -/
def CV (h : mxH) (A : Nat → Option Nat) (VS : List Nat) (l : List spH) : Prop := (∀ i (hi : i < VS.length), hpR h 286 i = some VS[i] ∧ hd_at h VS[i] 135 (VS[i] + 1)) ∧ (∀ i, VS.length ≤ i → i < 300 → hpR h 286 i = none) ∧ l.length ≤ VS.length ∧ VS.length ≤ 300 ∧
  ∀ i (hi : i < l.length), ∃ v, VS[l.length - 1 - i]? = some v ∧ ∀ k, k < 10 → RHc A (hpR h (v + 1) k) (l[i] k)
/-- cells that a run leaves alone -/
def cstA (a : Nat) : Bool := decide (a ≤ 130) || (decide (160 ≤ a) && decide (a ≤ 281)) || (decide (289 ≤ a) && decide (a ≤ 318)) || (decide (320 ≤ a) && decide (a ≤ 364))
def FrC (h0 h : mxH) : Prop := FP h0 h ∧ ∀ a, cstA a = true → hpI h a = hpI h0 a ∧ hpL h a = hpL h0 a ∧ hpR h a = hpR h0 a
/-- the free shells -/
def CFs (R : Nat → Nat → Option Nat) : Option Nat → List Nat → Prop
  | r, [] => r = none
  | r, x :: l => r = some x ∧ CFs R (R x 13) l
def pastX : List Nat := [167, 187, 207, 227, 247, 267]
/-- blocks of 13 that lie apart -/
def aparT (l : List Nat) : Prop := l.Pairwise fun x y => x + 13 ≤ y ∨ y + 13 ≤ x
/-- all rows of handles: shells XL, kept Handles VS -/
def cRS (XL VS : List Nat) : List Nat := XL.map (fun x => x + 9) ++ (288 :: (pastX.map (fun x => x + 9) ++ VS.map fun v => v + 1))
/-- the lines that are in use: at most so many -/
def CU (h : mxH) (n : Nat) : Prop := hpI h 133 0 = 0 ∧ ∃ i, hpI h 131 3 = nI i ∧ 1 ≤ i ∧ i ≤ 3200 ∧ (∀ j, 1 ≤ j → j < i → hpI h 134 j = 1) ∧ (∃ r, hpI h 131 4 = nI r ∧ r ≤ 3200 ∧ ∀ j, 1 ≤ j → hpI h 134 j = 1 → j < r) ∧ (∀ j, j < 3200 → hpI h 134 j = 0 ∨ hpI h 134 j = 1) ∧ ∃ l : List Nat, l.length ≤ n ∧ ∀ j, 1 ≤ j → j < 3200 → hpI h 134 j = 1 → j ∈ l
/-- made objects: cells, slots -/
def CN (h0 h : mxH) (XL VS OS : List Nat) (RS inh : List Nat) : Prop := OS.Nodup ∧ (∀ o, o ∈ OS ↔ mx_kd h o 5) ∧ OS.length ≤ 10 * RS.length + 2 ∧ XL.length ≤ 1000 ∧ hpN h + 13 = 365 + 13 * XL.length + 2 * VS.length + (OS.length - 1) ∧ hpC h + hpN h0 = hpC h0 + hpN h ∧ hpS h + 20 * hpN h0 ≤ hpS h0 + 20 * hpN h
/-- ALL OF THE CLASS'S CELLS in a run: since h0 the frame is kept; the pure machine's state m; at most s steps were done, at most n0 lines named before the run -/
def CM (D : pmC) (h0 h : mxH) (fh : spH) (n0 s : Nat) (m : pmM) : Prop :=
  ∃ (A : Nat → Option Nat) (Z : List cZ) (XL FS VS OS : List Nat), FrC h0 h ∧ SC h ∧ CWh h 140 s m.1 ∧ CPh h m.1 ∧ CO h A m.1 ∧ OI h (cRS XL VS) [] ∧ CU h (n0 + wM m.1) ∧ n0 ≤ 2890 ∧
    (Z.map (fun z => z.2.1) = pmLs m ∧ (∀ z ∈ Z, CFr h A m.1 z) ∧ CPar h Z m.2.2.2 ∧ hpR h 282 10 = (Z.head?).map (fun z => z.1) ∧ (Z.getLast?).map (fun z => z.1) = some 146) ∧
    ((∀ e ∈ cG Z, CS D h A e) ∧ ((cG Z).map (fun e => e.1) ++ FS).Nodup ∧ (∀ x, x ∈ XL ↔ x ∈ (cG Z).map (fun e => e.1) ++ FS) ∧ aparT XL ∧ (∀ x ∈ XL, SB h x ∧ (x = 146 ∨ 365 ≤ x)) ∧ CFs (hpR h) (hpR h 282 8) FS) ∧
    (CT (hpI h 285) (cTF m) ∧ hpI h 282 4 = nI (cTF m).length ∧ (cTF m).length ≤ 2950 ∧ CV h A VS (cTS m) ∧ hpI h 282 6 = nI (cTS m).length ∧ (∀ v ∈ VS, 365 ≤ v) ∧ VS.Nodup ∧ ∀ k, k < 10 → RHc A (hpR h 288 k) (fh k)) ∧
    (hpI h 282 11 = nI m.2.1 ∧ hpI h 282 12 = 1 ∧ (hpR h 282 9 = some 289 ∨ hpR h 282 9 = some 304)) ∧
    (∀ x ∈ pastX, ∀ k, k < 10 → ∀ o, hpR h (x + 9) k = some o → A o = none ∧ ∀ c, c < 4 → hpI h o c = hpI h0 o c) ∧ CN h0 h XL VS OS (cRS XL VS) []
end MXCM
