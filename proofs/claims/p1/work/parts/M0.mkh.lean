/-! HEAPS WRITTEN OUT (p1): the things from 128 on are a function of cells; what each write and each new thing makes of it -/
section MXM0
abbrev hcell : Type := Nat × Nat × (Nat → Int32) × (Nat → Int64) × (Nat → Option Nat)
def nC (kd len : Nat) : hcell := (kd, len, fun _ => 0, fun _ => 0, fun _ => none)
def hmF {α : Type} (f : Nat → α) (p : hcell → α) (P : Nat → hcell) : Nat → α := fun a => if a < 128 then f a else p (P (a - 128))
def mkH (g : mxH) (c s n : Nat) (P : Nat → hcell) : mxH := (128 + n, c, s, hmF (hpK g) (fun q => q.1) P, hmF (hpZ g) (fun q => q.2.1) P, hmF (hpI g) (fun q => q.2.2.1) P, hmF (hpL g) (fun q => q.2.2.2.1) P, hmF (hpR g) (fun q => q.2.2.2.2) P)
def oN (P : Nat → hcell) (n kd len : Nat) : Nat → hcell := fup P n (nC kd len)
def oI (P : Nat → hcell) (i : Nat) (f : Nat → Int32) : Nat → hcell := fup P i ((P i).1, (P i).2.1, f, (P i).2.2.2)
def oL (P : Nat → hcell) (i : Nat) (f : Nat → Int64) : Nat → hcell := fup P i ((P i).1, (P i).2.1, (P i).2.2.1, f, (P i).2.2.2.2)
def oR (P : Nat → hcell) (i : Nat) (f : Nat → Option Nat) : Nat → hcell := fup P i ((P i).1, (P i).2.1, (P i).2.2.1, (P i).2.2.2.1, f)
def oIk (P : Nat → hcell) (i k : Nat) (v : Int32) : Nat → hcell := oI P i (fup (P i).2.2.1 k v)
def oLk (P : Nat → hcell) (i k : Nat) (v : Int64) : Nat → hcell := oL P i (fup (P i).2.2.2.1 k v)
def oRk (P : Nat → hcell) (i k : Nat) (v : Option Nat) : Nat → hcell := oR P i (fup (P i).2.2.2.2 k v)
theorem hmF_fup {α : Type} (f : Nat → α) (p : hcell → α) (P : Nat → hcell) (i : Nat) (q : hcell) : hmF f p (fup P i q) = fup (hmF f p P) (128 + i) (p q) := by
  funext a
  show (if a < 128 then f a else p (if a - 128 = i then q else P (a - 128))) = if a = 128 + i then p q else if a < 128 then f a else p (P (a - 128))
  by_cases h1 : a < 128
  · rw [if_pos h1, if_neg (by omega), if_pos h1]
  · by_cases h2 : a = 128 + i
    · rw [if_neg h1, if_pos (by omega), if_pos h2]
    · rw [if_neg h1, if_neg (by omega), if_neg h2, if_neg h1]
theorem hmF_set {α : Type} (f : Nat → α) (p : hcell → α) (P : Nat → hcell) (i : Nat) (q : hcell) (h : p q = p (P i)) : hmF f p (fup P i q) = hmF f p P := by
  funext a
  show (if a < 128 then f a else p (if a - 128 = i then q else P (a - 128))) = if a < 128 then f a else p (P (a - 128))
  by_cases h1 : a < 128
  · rw [if_pos h1, if_pos h1]
  · by_cases h2 : a - 128 = i
    · rw [if_neg h1, if_pos h2, if_neg h1, h2, h]
    · rw [if_neg h1, if_neg h2, if_neg h1]
variable {g : mxH} {c s n i k kd len z a : Nat} {P : Nat → hcell}
theorem hpN_mkH : hpN (mkH g c s n P) = 128 + n := rfl
theorem hpC_mkH : hpC (mkH g c s n P) = c := rfl
theorem hpS_mkH : hpS (mkH g c s n P) = s := rfl
theorem hmF_at {α : Type} (f : Nat → α) (p : hcell → α) : hmF f p P (128 + i) = p (P i) := by
  show (if 128 + i < 128 then f (128 + i) else p (P (128 + i - 128))) = _
  rw [if_neg (by omega), Nat.add_sub_cancel_left]
theorem hmF_lo {α : Type} (f : Nat → α) (p : hcell → α) (h : a < 128) : hmF f p P a = f a := by
  show (if a < 128 then f a else p (P (a - 128))) = _
  rw [if_pos h]
theorem hpK_mkH : hpK (mkH g c s n P) (128 + i) = (P i).1 := by exact hmF_at (hpK g) (fun q => q.1)
theorem hpZ_mkH : hpZ (mkH g c s n P) (128 + i) = (P i).2.1 := by exact hmF_at (hpZ g) (fun q => q.2.1)
theorem hpI_mkH : hpI (mkH g c s n P) (128 + i) = (P i).2.2.1 := by exact hmF_at (hpI g) (fun q => q.2.2.1)
theorem hpL_mkH : hpL (mkH g c s n P) (128 + i) = (P i).2.2.2.1 := by exact hmF_at (hpL g) (fun q => q.2.2.2.1)
theorem hpR_mkH : hpR (mkH g c s n P) (128 + i) = (P i).2.2.2.2 := by exact hmF_at (hpR g) (fun q => q.2.2.2.2)
theorem hpK_mkLo (h : a < 128) : hpK (mkH g c s n P) a = hpK g a := by exact hmF_lo (hpK g) (fun q => q.1) h
theorem hpZ_mkLo (h : a < 128) : hpZ (mkH g c s n P) a = hpZ g a := by exact hmF_lo (hpZ g) (fun q => q.2.1) h
theorem hpI_mkLo (h : a < 128) : hpI (mkH g c s n P) a = hpI g a := by exact hmF_lo (hpI g) (fun q => q.2.2.1) h
theorem hpL_mkLo (h : a < 128) : hpL (mkH g c s n P) a = hpL g a := by exact hmF_lo (hpL g) (fun q => q.2.2.2.1) h
theorem mkH_nw : hnw (mkH g c s n P) kd len z = mkH g (c + 1) (s + z) (n + 1) (oN P n kd len) := by
  unfold mkH oN
  rw [hmF_fup, hmF_fup, hmF_fup, hmF_fup, hmF_fup]
  rfl
theorem mkH_rI {f : Nat → Int32} : hrI (mkH g c s n P) (128 + i) f = mkH g c s n (oI P i f) := by
  unfold mkH oI
  rw [hmF_set (hpK g) (fun q => q.1) P i ((P i).1, (P i).2.1, f, (P i).2.2.2) rfl, hmF_set (hpZ g) (fun q => q.2.1) P i ((P i).1, (P i).2.1, f, (P i).2.2.2) rfl, hmF_set (hpL g) (fun q => q.2.2.2.1) P i ((P i).1, (P i).2.1, f, (P i).2.2.2) rfl, hmF_set (hpR g) (fun q => q.2.2.2.2) P i ((P i).1, (P i).2.1, f, (P i).2.2.2) rfl, hmF_fup]
  rfl
theorem mkH_rL {f : Nat → Int64} : hrL (mkH g c s n P) (128 + i) f = mkH g c s n (oL P i f) := by
  unfold mkH oL
  rw [hmF_set (hpK g) (fun q => q.1) P i ((P i).1, (P i).2.1, (P i).2.2.1, f, (P i).2.2.2.2) rfl, hmF_set (hpZ g) (fun q => q.2.1) P i ((P i).1, (P i).2.1, (P i).2.2.1, f, (P i).2.2.2.2) rfl, hmF_set (hpI g) (fun q => q.2.2.1) P i ((P i).1, (P i).2.1, (P i).2.2.1, f, (P i).2.2.2.2) rfl, hmF_set (hpR g) (fun q => q.2.2.2.2) P i ((P i).1, (P i).2.1, (P i).2.2.1, f, (P i).2.2.2.2) rfl, hmF_fup]
  rfl
theorem mkH_rR {f : Nat → Option Nat} : hrR (mkH g c s n P) (128 + i) f = mkH g c s n (oR P i f) := by
  unfold mkH oR
  rw [hmF_set (hpK g) (fun q => q.1) P i ((P i).1, (P i).2.1, (P i).2.2.1, (P i).2.2.2.1, f) rfl, hmF_set (hpZ g) (fun q => q.2.1) P i ((P i).1, (P i).2.1, (P i).2.2.1, (P i).2.2.2.1, f) rfl, hmF_set (hpI g) (fun q => q.2.2.1) P i ((P i).1, (P i).2.1, (P i).2.2.1, (P i).2.2.2.1, f) rfl, hmF_set (hpL g) (fun q => q.2.2.2.1) P i ((P i).1, (P i).2.1, (P i).2.2.1, (P i).2.2.2.1, f) rfl, hmF_fup]
  rfl
theorem mkH_sI {v : Int32} : hsI (mkH g c s n P) (128 + i) k v = mkH g c s n (oIk P i k v) := by
  unfold hsI oIk
  rw [hpI_mkH, mkH_rI]
theorem mkH_sL {v : Int64} : hsL (mkH g c s n P) (128 + i) k v = mkH g c s n (oLk P i k v) := by
  unfold hsL oLk
  rw [hpL_mkH, mkH_rL]
theorem mkH_sR {v : Option Nat} : hsR (mkH g c s n P) (128 + i) k v = mkH g c s n (oRk P i k v) := by
  unfold hsR oRk
  rw [hpR_mkH, mkH_rR]
theorem mkKd (hi : i < n) (hk : (P i).1 = k) : mx_kd (mkH g c s n P) (128 + i) k := ⟨Nat.add_lt_add_left hi 128, by rw [hpK_mkH]; exact hk⟩
theorem mkRr {w r : Nat} (hi : i < n) (hk : (P i).2.2.2.2 w = some r) : mx_rr (mkH g c s n P) (128 + i) w r := ⟨Nat.add_lt_add_left hi 128, by rw [hpR_mkH]; exact hk⟩
end MXM0
