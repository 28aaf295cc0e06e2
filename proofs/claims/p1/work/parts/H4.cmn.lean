/-! THE CLASS'S CELLS AND THE PURE MACHINE'S STATE: CMn -/
section MXCN
/-- a frame that a level may have -/
def FrOK (P : cP) (A : Nat → Option Nat) (w : spW) (a : Nat) (q : pmF) : Prop := (q.1 = 1 ∨ q.1 = 2 ∨ q.1 = 3 ∨ q.1 = 4 ∨ q.1 = 5 ∨ q.1 = 6 ∨ q.1 = 8) ∧ ((q.1 = 2 ∨ q.1 = 3 ∨ q.1 = 4) → ∃ n, n < 2 ^ 31 ∧ q.2.1 = nI n) ∧ (q.1 = 4 → (P a).2.2 = q.2.2.1) ∧
  (q.1 = 6 → ∃ o pp, q.2.2.2.2.2 = some o ∧ q.2.2.2.1 = nI pp ∧ pp < (wU w).length ∧ (wO w)[o]? = some (5, pp, 0) ∧ ∀ z, A z ≠ some o)
/-- ends of pipes that wait for the next command -/
def pnF (fr : List pmF) : List Nat := fr.filterMap fun q => if q.1 = 6 then q.2.2.2.2.2 else none
/-- a level that waits -/
def UOK (u : pmU × pmL) : Prop := (∃ n, n < 2 ^ 31 ∧ u.1.1 = nI n) ∧ u.1.2.1 ≤ 3 ∧ (2 ≤ u.1.2.1 → ∃ j, u.2.2.2.1[u.1.2.2]? = some j ∧ j.1 = 2) ∧ (u.1.2.1 = 1 → ∃ q r, u.2.2.2.2 = q :: r ∧ (q.1 = 6 ∨ q.1 = 8))
/-- the levels below the shell at x -/
def CKr (P : cP) : Nat → List cZ → List (pmU × pmL) → Prop
  | x, [], K => K = [] ∧ x = 146 ∧ (P x).1 = none ∧ (P x).2.1 = nI 0
  | x, z :: Z, K => ∃ u K', K = u :: K' ∧ u.2 = z.2.1 ∧ (P x).1 = some z.1 ∧ (P x).2.1 = nI (nFK K) ∧ UOK u ∧ CKr P z.1 Z K'
/-- functions that are called in a level -/
def cN : List pmF → Nat
  | [] => 0
  | q :: r => (if q.1 = 2 ∨ q.1 = 3 ∨ q.1 = 4 then 1 else 0) + cN r
def FrA (P : cP) (A : Nat → Option Nat) (w : spW) (Z : List cZ) : Prop := ∀ z ∈ Z, cN z.2.1.2.2.2 ≤ fN z.2.1.1 ∧ ∀ q ∈ z.2.1.2.2.2, FrOK P A w z.1 q
def pnZ (Z : List cZ) : List Nat := Z.flatMap fun z => pnF z.2.1.2.2.2
def CMz (C : cC) (h : mxH) (s : Nat) (rn : Int32) (m : pmM) (A : Nat → Option Nat) (x : Nat) (jl : List Nat) (Z : List cZ) (P : cP) (XL FS VS OS : List Nat) : Prop :=
  CG C h s m.1 A ((x, (m.2.2.1.1, m.2.2.1.2.1, m.2.2.1.2.2.1), jl) :: (cJs m.2.2.1.2.2.1 jl ++ cG Z)) (cTf m) (cTS m) P (some x) (nI m.2.1) rn XL FS VS OS [] ∧ CKr P x Z m.2.2.2 ∧ FrA P A m.1 ((x, m.2.2.1, jl) :: Z) ∧ (pnZ ((x, m.2.2.1, jl) :: Z)).Nodup
def CMn (C : cC) (h : mxH) (s : Nat) (m : pmM) : Prop := ∃ A x jl Z P XL FS VS OS, CMz C h s 1 m A x jl Z P XL FS VS OS
variable {w w' w2 : spW} {A A' A2 : Nat → Option Nat} {P P' : cP} {x : Nat} {Z : List cZ} {K : List (pmU × pmL)} {fr fr' : List pmF} {q : pmF} {oh : Option Nat} {bg : Bool} {l : spL} {ex : Nat → Prop} {f : spF} {as : List spL}
/-- open files that nobody holds stay, pipes stay -/
def WGr (ex : Nat → Prop) (w w' : spW) (A A' : Nat → Option Nat) : Prop := (wU w).length ≤ (wU w').length ∧ ∀ o pp, ¬ ex o → (wO w)[o]? = some (5, pp, 0) → (∀ z, A z ≠ some o) → (wO w')[o]? = some (5, pp, 0) ∧ ∀ z, A' z ≠ some o
theorem WGr.rf : WGr ex w w A A := ⟨Nat.le_refl _, fun _ _ _ h1 h2 => ⟨h1, h2⟩⟩
theorem WGr.tr (a : WGr ex w w' A A') (b : WGr ex w' w2 A' A2) : WGr ex w w2 A A2 := ⟨Nat.le_trans a.1 b.1, fun o pp he h1 h2 => b.2 o pp he (a.2 o pp he h1 h2).1 (a.2 o pp he h1 h2).2⟩
theorem WGr.of (hU : (wU w).length ≤ (wU w').length) (hO : wO w' = wO w) : WGr ex w w' A A := ⟨hU, fun _ _ _ h1 h2 => ⟨by rw [hO]; exact h1, h2⟩⟩
theorem WGr.set {a : Nat} {v : spO} (ha : ∃ z, A z = some a) (hU : (wU w).length ≤ (wU w').length) (hO : wO w' = (wO w).set a v) : WGr ex w w' A A := by
  refine ⟨hU, fun o pp _ h1 h2 => ⟨?_, h2⟩⟩
  obtain ⟨z, hz⟩ := ha
  rw [hO, List.getElem?_set_ne (fun e => h2 z (by rw [hz, e]))]
  exact h1
theorem rd_wg (hA : ∀ a, oh = some a → ∃ z, A z = some a) : WGr ex w (rdLine w oh bg).2 A A := by
  cases oh with
  | none => exact WGr.rf
  | some a =>
    have ha := hA a rfl
    unfold rdLine
    simp only []
    repeat' split
    all_goals first
      | exact WGr.rf
      | exact WGr.of (Nat.le_refl _) rfl
      | exact WGr.set ha (Nat.le_refl _) rfl
      | exact WGr.of (by show _ ≤ ((wU w).set _ _).length; rw [List.length_set]; exact Nat.le_refl _) rfl
theorem wr_wg (hA : ∀ a, oh = some a → ∃ z, A z = some a) : WGr ex w (wrLine w oh l).2 A A := by
  cases oh with
  | none => exact WGr.rf
  | some a =>
    have ha := hA a rfl
    unfold wrLine
    simp only []
    repeat' split
    all_goals first
      | exact WGr.rf
      | exact WGr.of (Nat.le_refl _) rfl
      | exact WGr.set ha (Nat.le_refl _) rfl
      | exact WGr.of (by show _ ≤ ((wU w).set _ _).length; rw [List.length_set]; exact Nat.le_refl _) rfl
theorem cat_wg (h0 : ∀ a, fH f 0 = some a → ∃ z, A z = some a) (h1 : ∀ a, fH f 1 = some a → ∃ z, A z = some a) : ∀ k (w : spW) r, catN k w f = some r → WGr ex w r.2 A A
  | 0, _, _, h => nomatch h
  | k + 1, w, r, h => by
    unfold catN at h
    simp only [] at h
    have a := rd_wg (ex := ex) (w := w) (bg := fG f) h0
    split at h
    · cases h; exact a
    · split at h
      · cases h; exact a
      · split at h
        · cases h; exact a
        · have b := wr_wg (ex := ex) (w := (rdLine w (fH f 0) (fG f)).2) (l := (rdLine w (fH f 0) (fG f)).1.2) h1
          split at h
          · exact (a.tr b).tr (cat_wg h0 h1 k _ r h)
          · cases h; exact a.tr b
theorem FrOK.mono {a : Nat} (c : FrOK P A w a q) (g : WGr ex w w' A A') (hP : (P' a).2.2 = (P a).2.2) (hx : ∀ o, q.1 = 6 → q.2.2.2.2.2 = some o → ¬ ex o) : FrOK P' A' w' a q := by
  obtain ⟨c1, c2, c3, c4⟩ := c
  refine ⟨c1, c2, fun e => by rw [hP]; exact c3 e, fun e => ?_⟩
  obtain ⟨o, pp, d1, d2, d3, d4, d5⟩ := c4 e
  have r := g.2 o pp (hx o e d1) d4 d5
  exact ⟨o, pp, d1, d2, Nat.lt_of_lt_of_le d3 g.1, r.1, r.2⟩
theorem FrA.mono (c : FrA P A w Z) (g : WGr ex w w' A A') (hP : ∀ z ∈ Z, (P' z.1).2.2 = (P z.1).2.2) (hx : ∀ o ∈ pnZ Z, ¬ ex o) : FrA P' A' w' Z := fun z hz => ⟨(c z hz).1, fun q hq =>
  ((c z hz).2 q hq).mono g (hP z hz) (fun o h6 ho => hx o (List.mem_flatMap.mpr ⟨z, hz, List.mem_filterMap.mpr ⟨q, hq, by rw [if_pos h6]; exact ho⟩⟩))⟩
theorem CKr.cg : ∀ {x : Nat} {Z : List cZ} {K : List (pmU × pmL)}, CKr P x Z K → (P' x).1 = (P x).1 → (P' x).2.1 = (P x).2.1 → (∀ z ∈ Z, (P' z.1).1 = (P z.1).1 ∧ (P' z.1).2.1 = (P z.1).2.1) → CKr P' x Z K
  | x, [], K, h, e1, e2, _ => ⟨h.1, h.2.1, by rw [e1]; exact h.2.2.1, by rw [e2]; exact h.2.2.2⟩
  | x, z :: Z, K, ⟨u, K', h1, h2, h3, h4, h5, h6⟩, e1, e2, e => ⟨u, K', h1, h2, by rw [e1]; exact h3, by rw [e2]; exact h4, h5, h6.cg (e z List.mem_cons_self).1 (e z List.mem_cons_self).2 (fun y hy => e y (List.mem_cons_of_mem _ hy))⟩
theorem CKr.last : ∀ {x : Nat} {Z : List cZ} {K : List (pmU × pmL)}, CKr P x Z K → 146 ∈ x :: Z.map (fun z => z.1)
  | x, [], K, h => by rw [h.2.1]; exact List.mem_cons_self
  | x, z :: Z, K, ⟨u, K', _, _, _, _, _, h6⟩ => List.mem_cons_of_mem _ h6.last
theorem CKr.len : ∀ {x : Nat} {Z : List cZ} {K : List (pmU × pmL)}, CKr P x Z K → Z.length = K.length
  | x, [], K, h => by rw [h.1]; rfl
  | x, z :: Z, K, ⟨u, K', h1, _, _, _, _, h6⟩ => by rw [h1, List.length_cons, List.length_cons, h6.len]
/-- a level's own frames may change -/
theorem pnZ_cons {z : cZ} : pnZ (z :: Z) = pnF z.2.1.2.2.2 ++ pnZ Z := List.flatMap_cons ..
end MXCN
