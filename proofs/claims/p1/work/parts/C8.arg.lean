/-! Statuses spelled; Commands.signalNamed; Commands.addArgument -/
section MXAG
variable {h h1 h2 : mxH} {d x : Nat} {l : spL}
def fitB : Nat → Int64 → Bool
  | 0, _ => false
  | n + 1, v => if 37 ≤ v then fitB n (v / 37) else true
theorem fitB_W : ∀ n v, fitB n v = true → fitW n v
  | 0, _, h => nomatch h
  | n + 1, v, h => fun g => by
    unfold fitB at h
    rw [if_pos g] at h
    exact fitB_W n (v / 37) h
theorem nmO_all : (List.range 1000).all (fun k => decide (0 < nmO (nI k)) && fitB 12 (nmO (nI k)) && decide (spell 13 (nmO (nI k)) = digits 10 k)) = true := by decide +kernel
theorem nmO_ok {k : Nat} (hk : k < 1000) : 0 < nmO (nI k) ∧ fitW 12 (nmO (nI k)) ∧ spell 13 (nmO (nI k)) = digits 10 k := by
  have := List.all_eq_true.mp nmO_all k (List.mem_range.mpr hk)
  rw [Bool.and_eq_true, Bool.and_eq_true] at this
  exact ⟨of_decide_eq_true this.1.1, fitB_W _ _ this.1.2, of_decide_eq_true this.2⟩
end MXAG
