/-! SHELL.beginAnew -/
section MXSB
variable {d : Nat} {h : mxH}
/-- a Shell: its two tables, its actions, its Handles -/
def sh_at (h : mxH) (x tv tf ac hn : Nat) : Prop := hpK h x = 8 ∧ hpR h x 0 = some tv ∧ hpR h x 1 = some tf ∧ hpR h x 2 = some ac ∧ hpR h x 3 = some hn ∧ hpK h tv = 9 ∧ hpK h tf = 9 ∧ hpK h ac = 15 ∧ hpZ h ac = 4 ∧ hpK h hn = 2
def sh_acts (ac : Nat) : Nat → Nat → mxH → mxH
  | 0, _, h => h
  | m + 1, i, h => sh_acts ac m (i + 1) (hsL h ac i 0)
theorem sh_acts_same (ac : Nat) : ∀ m i (h : mxH), hpN (sh_acts ac m i h) = hpN h ∧ hpC (sh_acts ac m i h) = hpC h ∧ hpS (sh_acts ac m i h) = hpS h ∧ hpK (sh_acts ac m i h) = hpK h ∧ hpZ (sh_acts ac m i h) = hpZ h ∧ hpI (sh_acts ac m i h) = hpI h ∧ hpR (sh_acts ac m i h) = hpR h := by
  intro m
  induction m with
  | zero => intro i h; exact ⟨rfl, rfl, rfl, rfl, rfl, rfl, rfl⟩
  | succ m ih => intro i h; exact ih (i + 1) (hsL h ac i 0)
/-- the loop over the actions: from the i-th on, then what follows it -/
theorem k_X8_beginAnew_18 {x tv tf ac hn : Nat} {Q : mxRes → mxH → Prop} (K : ∀ g, sh_at g x tv tf ac hn → (∃ h0, g = sh_acts ac 4 0 h0 ∧ h0 = h) → mx_SX mY_X8_beginAnew d 18 [(0, .ref x), (1, .int (nI 4))] [] g Q) : ∀ m i (g : mxH), i + m = 4 → sh_at g x tv tf ac hn → sh_acts ac m i g = sh_acts ac 4 0 h → mx_SX mY_X8_beginAnew d 18 [(0, .ref x), (1, .int (nI i))] [] g Q := by
  intro m
  induction m with
  | zero =>
    intro i g hi hx e
    have ei : i = 4 := by omega
    rw [ei]
    exact K g hx ⟨h, e, rfl⟩
  | succ m ih =>
    intro i g hi hx e
    refine b_X8_beginAnew_18 x (nI i) ⟨fun c => absurd c (show ¬ nI 4 ≤ nI i from nI_ge (by omega) (by omega)), fun _ => ⟨hx.1, ac, hx.2.2.2.1, hx.2.2.2.2.2.2.2.1, by rw [hx.2.2.2.2.2.2.2.2.1]; exact vp_in_nI (by omega) (by omega), ?_⟩⟩
    rw [nI_clamp (by omega), nI_1]
    rintro _ rfl
    exact ih (i + 1) _ (by omega) hx e
end MXSB
