/-! Machine.execute: from the main shell alone to the machine's first state -/
section MXI8
variable {C : cC} {B h h1 h2 h6 : mxH} {D : pmC} {s s' d n : Nat} {w w' : spW} {A A' : Nat → Option Nat} {F : spF} {en : Bool} {jb : List spJ} {jm XL FS VS OS : List Nat} {Q : mxRes → mxH → Prop}
/-- the main shell and the free shells -/
def IDs (D : pmC) (h : mxH) (A : Nat → Option Nat) (F : spF) (XL FS : List Nat) : Prop := (SB h 146 ∧ CF D (CLn h) h 146 F ∧ CH h A 146 (fH F)) ∧ ([146] ++ FS).Nodup ∧ (∀ x, x ∈ XL ↔ x ∈ [146] ++ FS) ∧ aparT XL ∧ (∀ x ∈ XL, SB h x ∧ (x = 146 ∨ 365 ≤ x)) ∧ CFs (hpR h) (hpR h 282 8) FS
/-- the statuses of a shell's jobs -/
def IDj (h : mxH) (x : Nat) (jl : List Int32) : Prop := hpI h x 14 = nI jl.length ∧ jl.length ≤ 8 ∧ ∀ k (hk : k < jl.length), hpI h (x + 12) k = jl[k]
/-- nothing executes: the world, the main shell -/
def ID (D : pmC) (B h : mxH) (n : Nat) (w : spW) (A : Nat → Option Nat) (F : spF) (jl : List Int32) (XL FS VS OS : List Nat) : Prop :=
  SC h ∧ (∃ s, s < 10000000 ∧ CWh h 140 s w) ∧ wU w = [] ∧ CO h A w ∧ OI h (cRS XL VS) [] ∧ CU h n ∧ (IDs D h A F XL FS ∧ IDj h 146 jl) ∧ (CV h A VS [] ∧ (∀ v ∈ VS, 365 ≤ v) ∧ VS.Nodup) ∧ (∀ x ∈ pastX, ∀ k, k < 10 → ∀ o, hpR h (x + 9) k = some o → A o = none) ∧ CN B h XL VS OS (cRS XL VS) []
/-- the statuses that stay of the jobs -/
def jSt (jb : List spJ) : List Int32 := jb.map fun j => if j.1 = 1 then j.2.1 else -1
/-- the world and the main shell at a run's begin -/
def rnW (w : spW) : spW := (wO w, [], wF w, wI w, wP w, [], 0, 0, 0, false)
def prF (F : spF) : spF := (fS F, fH F, 0, fV F, fU F, fA F, fP F, fD F, fG F, 0)
def xH5 (h : mxH) (g : Nat) : mxH := hsI (hsI (hsI (wo_forget (sh_prep (hsR (hsR h 282 9 (some g)) 282 10 (some 146)) 146) 140) 135 3 0) 135 6 0) 135 7 (-1)
theorem xH5_I {g b : Nat} (h1 : b ≠ 146) (h2 : b ≠ 140) (h3 : b ≠ 135) : hpI (xH5 h g) b = hpI h b := by
  unfold xH5 wo_forget sh_prep
  funext k
  rw [hpI_sIn h3, hpI_sIn h3, hpI_sIn h3, hpI_sIn h2, hpI_sIn h2, hpI_sIn h2, hpI_sIn h2, hpI_sIn h1]
  show hpI (hsI (hsI (hsI (hsI (hsR (hsR h 282 9 (some g)) 282 10 (some 146)) 146 9 0) 146 8 0) 146 10 0) 146 12 0) b k = _
  rw [hpI_sIn h1, hpI_sIn h1, hpI_sIn h1, hpI_sIn h1]
  rfl
theorem xH5_135 {g : Nat} : hpI (xH5 h g) 135 = fup (fup (fup (hpI h 135) 3 0) 6 0) 7 (-1) := by
  unfold xH5
  rw [hpI_sIe, hpI_sIe, hpI_sIe]
  have : hpI (wo_forget (sh_prep (hsR (hsR h 282 9 (some g)) 282 10 (some 146)) 146) 140) 135 = hpI h 135 := by
    unfold wo_forget sh_prep
    funext k
    rw [hpI_sIn (by decide), hpI_sIn (by decide), hpI_sIn (by decide), hpI_sIn (by decide), hpI_sIn (by decide)]
    show hpI (hsI (hsI (hsI (hsI (hsR (hsR h 282 9 (some g)) 282 10 (some 146)) 146 9 0) 146 8 0) 146 10 0) 146 12 0) 135 k = _
    rw [hpI_sIn (by decide), hpI_sIn (by decide), hpI_sIn (by decide), hpI_sIn (by decide)]
    rfl
  rw [this]
theorem xH5_140 {g : Nat} : hpI (xH5 h g) 140 = fup (fup (fup (fup (hpI h 140) 10 0) 11 0) 12 0) 13 0 := by
  unfold xH5
  rw [show hpI (hsI (hsI (hsI (wo_forget (sh_prep (hsR (hsR h 282 9 (some g)) 282 10 (some 146)) 146) 140) 135 3 0) 135 6 0) 135 7 (-1)) 140 = hpI (wo_forget (sh_prep (hsR (hsR h 282 9 (some g)) 282 10 (some 146)) 146) 140) 140 by funext k; rw [hpI_sIn (by decide), hpI_sIn (by decide), hpI_sIn (by decide)]]
  unfold wo_forget
  rw [hpI_sIe, hpI_sIe, hpI_sIe, hpI_sIe]
  have : hpI (sh_prep (hsR (hsR h 282 9 (some g)) 282 10 (some 146)) 146) 140 = hpI h 140 := by
    unfold sh_prep
    funext k
    rw [hpI_sIn (by decide)]
    show hpI (hsI (hsI (hsI (hsI (hsR (hsR h 282 9 (some g)) 282 10 (some 146)) 146 9 0) 146 8 0) 146 10 0) 146 12 0) 140 k = _
    rw [hpI_sIn (by decide), hpI_sIn (by decide), hpI_sIn (by decide), hpI_sIn (by decide)]
    rfl
  rw [this]
theorem xH5_146 {g : Nat} : hpI (xH5 h g) 146 = fup (fup (fup (fup (fup (hpI h 146) 9 0) 8 0) 10 0) 12 0) 14 0 := by
  unfold xH5 wo_forget
  rw [show hpI (hsI (hsI (hsI (hsI (hsI (hsI (hsI (sh_prep (hsR (hsR h 282 9 (some g)) 282 10 (some 146)) 146) 140 10 0) 140 11 0) 140 12 0) 140 13 0) 135 3 0) 135 6 0) 135 7 (-1)) 146 = hpI (sh_prep (hsR (hsR h 282 9 (some g)) 282 10 (some 146)) 146) 146 by funext k; rw [hpI_sIn (by decide), hpI_sIn (by decide), hpI_sIn (by decide), hpI_sIn (by decide), hpI_sIn (by decide), hpI_sIn (by decide), hpI_sIn (by decide)]]
  unfold sh_prep
  rw [hpI_sIe]
  show fup (hpI (hsI (hsI (hsI (hsI (hsR (hsR h 282 9 (some g)) 282 10 (some 146)) 146 9 0) 146 8 0) 146 10 0) 146 12 0) 146) 14 0 = _
  rw [hpI_sIe, hpI_sIe, hpI_sIe, hpI_sIe]
  rfl
theorem sI_R {a k : Nat} {v : Int32} : hpR (hsI h a k v) = hpR h := rfl
theorem sI_L {a k : Nat} {v : Int32} : hpL (hsI h a k v) = hpL h := rfl
theorem sI_N {a k : Nat} {v : Int32} : hpN (hsI h a k v) = hpN h ∧ hpC (hsI h a k v) = hpC h ∧ hpS (hsI h a k v) = hpS h ∧ hpK (hsI h a k v) = hpK h ∧ hpZ (hsI h a k v) = hpZ h := ⟨rfl, rfl, rfl, rfl, rfl⟩
theorem sR_N {a k : Nat} {v : Option Nat} : hpN (hsR h a k v) = hpN h ∧ hpC (hsR h a k v) = hpC h ∧ hpS (hsR h a k v) = hpS h ∧ hpK (hsR h a k v) = hpK h ∧ hpZ (hsR h a k v) = hpZ h := ⟨rfl, rfl, rfl, rfl, rfl⟩
theorem sR_L {a k : Nat} {v : Option Nat} : hpL (hsR h a k v) = hpL h := rfl
theorem xH5_R {g b k : Nat} : hpR (xH5 h g) b k = if b = 282 then (if k = 10 then some 146 else if k = 9 then some g else hpR h 282 k) else if b = 146 then (if k = 13 then none else hpR h 146 k) else hpR h b k := by
  unfold xH5 wo_forget sh_prep
  simp only [sI_R]
  rw [hpR_sR]
  simp only [sI_R]
  by_cases c1 : b = 146
  · rw [if_pos c1, if_neg (show ¬ b = 282 by omega), if_pos c1, hpR_sRn (by decide), hpR_sRn (by decide)]
  · rw [if_neg c1, hpR_sR]
    by_cases c2 : b = 282
    · rw [if_pos c2, if_pos c2, hpR_sR, if_pos rfl]
    · rw [if_neg c2, if_neg c2, if_neg c1, hpR_sRn c2]
theorem xH5_s {g : Nat} : (hpN (xH5 h g) = hpN h ∧ hpC (xH5 h g) = hpC h ∧ hpS (xH5 h g) = hpS h ∧ hpK (xH5 h g) = hpK h ∧ hpZ (xH5 h g) = hpZ h) ∧ hpL (xH5 h g) = hpL h := by
  unfold xH5 wo_forget sh_prep
  simp only [sI_L, sR_L, sI_N, sR_N, and_self]
end MXI8
