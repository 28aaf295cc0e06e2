/-! SHELL.prepare, WORLD.forgetRun, PROGRAM.emit, exact -/
section MXPR
variable {d : Nat} {h : mxH}
def sh_prep (h : mxH) (x : Nat) : mxH := hsI (hsR (hsI (hsI (hsI (hsI h x 9 0) x 8 0) x 10 0) x 12 0) x 13 none) x 14 0
theorem k_X8_prepare {x : Nat} (hx : hpK h x = 8) : mx_SM mY_X8_prepare d [.ref x] h (mx_xct (.inl none) (sh_prep h x)) := by
  refine b_X8_prepare x ⟨hx, ?_⟩
  rintro _ rfl _ rfl _ rfl _ rfl _ rfl _ rfl
  exact ⟨rfl, rfl⟩
def wo_forget (h : mxH) (x : Nat) : mxH := hsI (hsI (hsI (hsI h x 10 0) x 11 0) x 12 0) x 13 0
theorem k_X10_forgetRun {x : Nat} (hx : hpK h x = 10) : mx_SM mY_X10_forgetRun d [.ref x] h (mx_xct (.inl none) (wo_forget h x)) := by
  refine b_X10_forgetRun x ⟨hx, ?_⟩
  rintro _ rfl _ rfl _ rfl _ rfl
  exact ⟨rfl, rfl⟩
/-- the first three rows of a Program: steps, operands, targets; n steps stand -/
def pg_at (h : mxH) (x st op tg n : Nat) : Prop := hpK h x = 7 ∧ hpR h x 0 = some st ∧ hpR h x 1 = some op ∧ hpR h x 2 = some tg ∧ hpK h st = 14 ∧ hpK h op = 14 ∧ hpK h tg = 14 ∧ hpZ h st = 2801 ∧ hpZ h op = 2801 ∧ hpZ h tg = 2801 ∧ hpI h x 3 = nI n
def pg_emit (h : mxH) (x st op tg n : Nat) (a b : Int32) : mxH := hsI (hsI (hsI (hsI h st n a) op n b) tg n 0) x 3 (nI (n + 1))
theorem k_X7_emitFor {x st op tg n : Nat} {a b : Int32} (hx : pg_at h x st op tg n) (hn : n < 2801) : mx_SM mY_X7_emitFor d [.ref x, .int a, .int b] h (mx_xct (.inl (some (.int (nI n)))) (pg_emit h x st op tg n a b)) := by
  obtain ⟨h1, h2, h3, h4, h5, h6, h7, h8, h9, h10, h11⟩ := hx
  have n1 : x ≠ st := mx_neK h1 h5 (by decide)
  have n2 : x ≠ op := mx_neK h1 h6 (by decide)
  have n3 : x ≠ tg := mx_neK h1 h7 (by decide)
  have en : (nI n).toNatClampNeg = n := nI_clamp (by omega)
  refine b_X7_emitFor x a b ⟨h1, ?_⟩
  rw [h11, en]
  refine ⟨fun c => absurd c (nI_pos (by omega)), fun _ => ⟨fun _ => ⟨st, h2, h5, by rw [h8]; exact vp_in_nI hn (by omega), ?_⟩, fun c => absurd (show nI n < nI 2801 from nI_lt hn (by omega)) c⟩⟩
  rintro _ rfl
  have g1 : hpI (hsI h st n a) x 3 = nI n := by rw [hpI_sIn n1]; exact h11
  rw [g1, en]
  refine ⟨op, h3, h6, by show vp_in _ (hpZ h op); rw [h9]; exact vp_in_nI hn (by omega), ?_⟩
  rintro _ rfl
  have g2 : hpI (hsI (hsI h st n a) op n b) x 3 = nI n := by rw [hpI_sIn n2]; exact g1
  rw [g2, en]
  refine ⟨tg, h4, h7, by show vp_in _ (hpZ h tg); rw [h10]; exact vp_in_nI hn (by omega), ?_⟩
  rintro _ rfl
  have g3 : hpI (hsI (hsI (hsI h st n a) op n b) tg n 0) x 3 = nI n := by rw [hpI_sIn n3]; exact g2
  rw [g3, nI_1]
  rintro _ rfl
  have g4 : hpI (hsI (hsI (hsI (hsI h st n a) op n b) tg n 0) x 3 (nI (n + 1))) x 3 = nI (n + 1) := by rw [hpI_sI, if_pos rfl, if_pos rfl]
  refine ⟨?_, rfl⟩
  rw [g4, nI_pred]
theorem k_X7_emit (hd : 1 ≤ d) {x st op tg n : Nat} {a : Int32} (hx : pg_at h x st op tg n) (hn : n < 2801) : mx_SM mY_X7_emit d [.ref x, .int a] h (mx_xct (.inl (some (.int (nI n)))) (pg_emit h x st op tg n a 0)) :=
  b_X7_emit x a ⟨hd, hx.1, mx_xKI (r := .inl none) (k_X7_emitFor hx hn) ⟨rfl, rfl⟩⟩
end MXPR
