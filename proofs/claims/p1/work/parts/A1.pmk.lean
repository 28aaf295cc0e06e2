/-! CODE AND TEXT: code from p to q is that of a node -/
section MXKS
variable (D : pmC) (T : spT)
/-- what stands in a command -/
def CI (c : Nat) (v : Int32) : Prop := kKd D c = (if tK T v = 9 then -1 else if tK T v = 10 then nI (cmdK (tM T v)) else -2) ∧ kOf D c = tO T v ∧ kRd D c = redsOf T v ∧
  (tK T v = 8 ∨ tK T v = 9 ∨ tK T v = 10 → kNm D c = tM T v) ∧ (tK T v = 9 ∨ tK T v = 10 → kAr D c = argsOf T v)
def KS : Nat → Nat → Int32 → Nat → Nat → Prop
  | 0, _, _, _, _ => False
  | k + 1, 0, v, p, q => if v = -1 ∨ tA T v = -1 then kSt D p = 7 ∧ q = p + 1 else KS k 1 (tA T v) p q
  | k + 1, 1, v, p, q => if v = -1 then q = p else ∃ r, (if tB T v = 1 then kSt D p = 16 ∧ kTg D p = r ∧ kAn D p = v ∧ kPl D v = p + 1 ∧ ∃ r', r = r' + 1 ∧ KS k 2 v (p + 1) r' ∧ kSt D r' = 21 else kSt D p = 0 ∧ KS k 2 v (p + 1) r) ∧ KS k 1 (tN T v) r q
  | k + 1, 2, v, p, q => tA T v ≠ -1 ∧ tC T (tA T v) = 0 ∧ KS k 3 (tA T v) p q
  | k + 1, 3, v, p, q => if v = -1 then q = p else ∃ r, (if tC T v = 1 then kSt D p = 11 ∧ kTg D p = r ∧ KS k 4 v (p + 1) r else if tC T v = 2 then kSt D p = 10 ∧ kTg D p = r ∧ KS k 4 v (p + 1) r else KS k 4 v p r) ∧ KS k 3 (tN T v) r q
  | k + 1, 4, v, p, q => ∃ r, (if tN T (tA T v) = -1 then kSt D p = 0 ∧ KS k 6 (tA T v) (p + 1) r else kSt D p = 17 ∧ ∃ r1, kTg D p = r1 + 1 ∧ KS k 6 (tA T v) (p + 1) r1 ∧ kSt D r1 = 21 ∧ KS k 5 (tN T (tA T v)) (r1 + 1) r) ∧ if tB T v = 1 then kSt D r = 8 ∧ q = r + 1 else q = r
  | k + 1, 5, v, p, q => if v = -1 then kSt D p = 20 ∧ q = p + 1 else ∃ r, kSt D p = (if tN T v = -1 then 19 else 18) ∧ kTg D p = r + 1 ∧ KS k 6 v (p + 1) r ∧ kSt D r = 21 ∧ KS k 5 (tN T v) (r + 1) q
  | k + 1, 6, v, p, q => ∃ r, kSt D p = 1 ∧ kTg D p = q ∧ CI D T (kOp D p) v ∧ KS k 7 v (p + 1) r ∧ kSt D r = 2 ∧ kOp D r = kOp D p ∧ q = r + 1
  | k + 1, 7, v, p, q =>
    (tK T v = 4 ∧ kSt D p = 15 ∧ kTg D p = q ∧ ∃ r, KS k 0 (tA T v) (p + 1) r ∧ kSt D r = 21 ∧ q = r + 1) ∨
    (tK T v = 5 ∧ KS k 0 (tA T v) p q) ∨
    (tK T v = 6 ∧ ∃ r1 r2, KS k 2 (tA T v) p r1 ∧ kSt D r1 = 11 ∧ kTg D r1 = r2 + 1 ∧ KS k 0 (tB T v) (r1 + 1) r2 ∧ kSt D r2 = 9 ∧ kTg D r2 = q ∧ KS k 0 (tC T v) (r2 + 1) q) ∨
    (tK T v = 7 ∧ kSt D p = 12 ∧ ∃ r1 r2, KS k 2 (tA T v) (p + 1) r1 ∧ kSt D r1 = 13 ∧ kTg D r1 = q ∧ KS k 0 (tB T v) (r1 + 1) r2 ∧ kSt D r2 = 14 ∧ kTg D r2 = p + 1 ∧ q = r2 + 1) ∨
    (tK T v = 8 ∧ kSt D p = 5 ∧ kTg D p = q ∧ CI D T (kOp D p) v ∧ kAn D p = tA T v ∧ kPl D (tA T v) = p + 1 ∧ ∃ r, KS k 0 (tA T v) (p + 1) r ∧ kSt D r = 6 ∧ q = r + 1) ∨
    (tK T v = 9 ∧ kSt D p = 4 ∧ CI D T (kOp D p) v ∧ q = p + 1) ∨
    (tK T v = 10 ∧ kSt D p = 3 ∧ CI D T (kOp D p) v ∧ q = p + 1)
  | _ + 1, _ + 8, _, _, _ => False
def KX (t : Nat) (v : Int32) (p q : Nat) : Prop := ∃ k, KS D T k t v p q
theorem KS.le : ∀ (k t : Nat) (v : Int32) (p q : Nat), KS D T k t v p q → p ≤ q
  | 0, _, _, _, _, h => h.elim
  | k + 1, 0, v, p, q, h => by
    unfold KS at h
    split at h
    · omega
    · exact KS.le k _ _ _ _ h
  | k + 1, 1, v, p, q, h => by
    unfold KS at h
    split at h
    · omega
    · obtain ⟨r, h1, h2⟩ := h
      have a := KS.le k _ _ _ _ h2
      split at h1
      · obtain ⟨-, -, -, -, r', e, h3, -⟩ := h1
        have b := KS.le k _ _ _ _ h3
        omega
      · have b := KS.le k _ _ _ _ h1.2
        omega
  | k + 1, 2, v, p, q, h => KS.le k _ _ _ _ h.2.2
  | k + 1, 3, v, p, q, h => by
    unfold KS at h
    split at h
    · omega
    · obtain ⟨r, h1, h2⟩ := h
      have a := KS.le k _ _ _ _ h2
      split at h1
      · have b := KS.le k _ _ _ _ h1.2.2
        omega
      · split at h1
        · have b := KS.le k _ _ _ _ h1.2.2
          omega
        · have b := KS.le k _ _ _ _ h1
          omega
  | k + 1, 4, v, p, q, h => by
    unfold KS at h
    obtain ⟨r, h1, h2⟩ := h
    have a : p ≤ r := by
      split at h1
      · have b := KS.le k _ _ _ _ h1.2
        omega
      · obtain ⟨-, r1, -, h3, -, h4⟩ := h1
        have b := KS.le k _ _ _ _ h3
        have c := KS.le k _ _ _ _ h4
        omega
    split at h2 <;> omega
  | k + 1, 5, v, p, q, h => by
    unfold KS at h
    split at h
    · omega
    · obtain ⟨r, -, -, h1, -, h2⟩ := h
      have a := KS.le k _ _ _ _ h1
      have b := KS.le k _ _ _ _ h2
      omega
  | k + 1, 6, v, p, q, h => by
    unfold KS at h
    obtain ⟨r, -, -, -, h1, -, -, h2⟩ := h
    have a := KS.le k _ _ _ _ h1
    omega
  | k + 1, 7, v, p, q, h => by
    unfold KS at h
    rcases h with ⟨-, -, -, r, h1, -, e⟩ | ⟨-, h1⟩ | ⟨-, r1, r2, h1, -, -, h2, -, -, h3⟩ | ⟨-, -, r1, r2, h1, -, -, h2, -, -, e⟩ | ⟨-, -, -, -, -, -, r, h1, -, e⟩ | ⟨-, -, -, e⟩ | ⟨-, -, -, e⟩
    · have a := KS.le k _ _ _ _ h1; omega
    · exact KS.le k _ _ _ _ h1
    · have a := KS.le k _ _ _ _ h1
      have b := KS.le k _ _ _ _ h2
      have c := KS.le k _ _ _ _ h3
      omega
    · have a := KS.le k _ _ _ _ h1
      have b := KS.le k _ _ _ _ h2
      omega
    · have a := KS.le k _ _ _ _ h1; omega
    · omega
    · omega
  | k + 1, t + 8, v, p, q, h => h.elim
/-- a function's script, a job's chain have code -/
def FN (v : Int32) : Prop := ∃ r, KX D T 0 v (kPl D v) r ∧ kSt D r = 6 ∧ r < kZ D
def JB (v : Int32) : Prop := ∃ r, KX D T 2 v (kPl D v) r ∧ kSt D r = 21 ∧ r < kZ D
def okX1 (f : spF) : Prop := (∀ e ∈ fU f, FN D T e.2) ∧ (∀ g, fA f g = 0 ∨ fA f g = -2 ∨ 0 < fA f g) ∧ fN f ≤ 4 ∧ fB f ≤ 4
def okX (x : spX) : Prop := okX1 D T (xf x) ∧ (xj x).length ≤ 8 ∧ ∀ e ∈ xj x, e.1 = 0 → JB D T e.2.2.1 ∧ okX1 D T e.2.2.2
end MXKS
/-- frames, kept handles in all -/
def nSL : List pmF → Nat
  | [] => 0
  | q :: r => (if q.1 = 1 then 1 else 0) + nSL r
def nFK : List (pmU × pmL) → Nat
  | [] => 0
  | u :: K => 1 + u.2.2.2.2.length + nFK K
def nSK : List (pmU × pmL) → Nat
  | [] => 0
  | u :: K => nSL u.2.2.2.2 + nSK K
theorem nSL_app : ∀ (a b : List pmF), nSL (a ++ b) = nSL a + nSL b
  | [], b => (Nat.zero_add _).symm
  | q :: a, b => by show _ + nSL (a ++ b) = _ + nSL a + nSL b; rw [nSL_app a b, Nat.add_assoc]
theorem unw_app : ∀ (a b : List pmF) (h : spH), unw (a ++ b) h = unw b (unw a h)
  | [], _, _ => rfl
  | q :: a, b, h => unw_app a b _
/-- what holds of a state from which a step is done -/
def PI (D : pmC) (m : pmM) : Prop := m.2.1 < kZ D ∧ okW m.1 0 1 ∧ wX m.1 = false ∧ (kSt D m.2.1 = 4 ∨ (kSt D m.2.1 = 3 ∧ kKd D (kOp D m.2.1) ≠ 11) → okW m.1 1 0) ∧ m.2.2.1.2.2.2.length + nFK m.2.2.2 ≤ 2900 ∧ nSL m.2.2.1.2.2.2 + nSK m.2.2.2 ≤ wB m.1 ∧ m.2.2.2.length ≤ 100 ∧
  stat (fS m.2.2.1.1) ∧ fN m.2.2.1.1 ≤ 4 ∧ fB m.2.2.1.1 ≤ 4 ∧ m.2.2.1.2.2.1.length ≤ 8
/-- alike but for the handles and the nesting -/
def feq (f f' : spF) : Prop := vN (vH f pmN) 0 = vN (vH f' pmN) 0
theorem feq.rf {f : spF} : feq f f := rfl
theorem feq.at {f f' : spF} (h : feq f f') : fS f = fS f' ∧ fV f = fV f' ∧ fU f = fU f' ∧ fA f = fA f' ∧ fP f = fP f' ∧ fD f = fD f' ∧ fG f = fG f' ∧ fB f = fB f' := by
  obtain ⟨a1, a2, a3, a4, a5, a6, a7, a8, a9, a10⟩ := f
  obtain ⟨b1, b2, b3, b4, b5, b6, b7, b8, b9, b10⟩ := f'
  unfold feq at h
  simp only [Prod.mk.injEq] at h
  obtain ⟨h1, -, -, h4, h5, h6, h7, h8, h9, h10⟩ := h
  exact ⟨h1, h4, h5, h6, h7, h8, h9, h10⟩
theorem feq.set {f f' : spF} (h : feq f f') (hs : spH) (n : Nat) : vN (vH f hs) n = vN (vH f' hs) n := by
  obtain ⟨a1, a2, a3, a4, a5, a6, a7, a8, a9, a10⟩ := f
  obtain ⟨b1, b2, b3, b4, b5, b6, b7, b8, b9, b10⟩ := f'
  unfold feq at h
  simp only [Prod.mk.injEq] at h ⊢
  obtain ⟨h1, -, -, h4, h5, h6, h7, h8, h9, h10⟩ := h
  exact ⟨h1, trivial, trivial, h4, h5, h6, h7, h8, h9, h10⟩
/-- the levels of a state -/
abbrev pmLs (m : pmM) : List pmL := m.2.2.1 :: m.2.2.2.map Prod.snd
/-- the shell has ended; the run has stopped -/
def OutE (D : pmC) (x x' : spX) (en : Bool) (F : List pmF) (K : List (pmU × pmL)) (d : Nat) (m' : pmM) : Prop := ∃ f' E, m' = (xw x', kZ D - 1, (f', en, xj x', E ++ F), K) ∧ feq f' (xf x') ∧ unw E (fH f') = fH (xf x') ∧ E.length ≤ d ∧ nSL E + wB (xw x) ≤ wB (xw x') ∧ fN f' ≤ 4
def OutS (x' : spX) (K : List (pmU × pmL)) (m' : pmM) : Prop := m'.1 = xw x' ∧ ∃ up f' en' E', pmLs m' = up ++ (f', en', xj x', E') :: K.map Prod.snd ∧ feq f' (xf x')
def Out (D : pmC) (x x' : spX) (q : Nat) (en : Bool) (F : List pmF) (K : List (pmU × pmL)) (d fl : Nat) (m' : pmM) : Prop :=
  (fl = 0 ∧ wX (xw x') = false ∧ xe x' = false ∧ m' = (xw x', q, (xf x', en, xj x', F), K)) ∨
  (fl = 0 ∧ wX (xw x') = false ∧ xe x' = true ∧ OutE D x x' en F K d m') ∨
  (fl = 1 ∧ wX (xw x') = true ∧ OutS x' K m')
/-- from m the machine does what the task does; ex: steps beside the code's length, sl: steps that are left over -/
def SR0 (D : pmC) (T : spT) (m : pmM) (x x' : spX) (p q ex sl : Nat) (O : Nat → pmM → Prop) : Prop := ∃ n fl m', pmIt D (PI D) n m fl m' ∧ n + p + 20000 * wB (xw x) + (if fl = 0 then sl else 0) ≤ q + ex + 20000 * wB (xw x') ∧ okX D T x' ∧ O fl m'
/-- room for the frames, the kept handles, the shells -/
def Rm (x : spX) (F : List pmF) (K : List (pmU × pmL)) (d g : Nat) : Prop := F.length + nFK K + d ≤ 2800 ∧ nSL F + nSK K ≤ wB (xw x) ∧ K.length + g ≤ 95
def Sm (D : pmC) (T : spT) (nn k : Nat) (c : spC) (ex sl : Nat) : Prop := ∀ d g x x' p q en F K, gEx T k c x = some x' → bEx T k d g c x → Hz T nn c x → wX (xw x) = false → xe x = false → KX D T c.1 c.2.1 p q → q < kZ D → okX D T x → Rm x F K d g →
  SR0 D T (xw x, p, (xf x, en, xj x, F), K) x x' p q ex sl (Out D x x' q en F K d)
