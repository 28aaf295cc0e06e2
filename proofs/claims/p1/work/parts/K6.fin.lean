/-! from a run's end back to the idle class -/
section MXK6
variable {C : cC} {B h h1 : mxH} {s j : Nat} {w w' : spW} {lm : pmL} {r : mxRes} {F' : spF} {jl' : List Int32} {jb jb' : List spJ}
theorem jDone.st (d : jDone jb jb' 8) (l : jb'.length ≤ 8) : jSt jb' = jSt jb := by
  obtain ⟨e, d⟩ := d
  refine List.ext_getElem (by rw [jSt, jSt, List.length_map, List.length_map, e]) fun k h1 h2 => ?_
  rw [jSt, List.length_map] at h1 h2
  obtain ⟨a, b⟩ := d k h2 h1
  simp only [jSt, List.getElem_map]
  by_cases c : jb[k].1 = 0
  · rw [(b c).1 (by omega), c]
    rfl
  · rw [a c]
theorem XFin.toW (x : XFin C s w lm r h1) (hs : s < 10000000) (hv : ∀ k, k < 10 → ∀ a, fH lm.1 k = some a → ∀ q, (wO w)[a]? = some q → q.1 ≠ 5 ∧ q.1 ≠ 6) (cB : hpC (kcH C) + hpN B = hpC B + hpN (kcH C) ∧ hpS (kcH C) + 20 * hpN B ≤ hpS B + 20 * hpN (kcH C)) :
    r = .inl none ∧ FrD (kcH C) h1 ∧ (∀ j, j < 6 → ∀ D w' F' jl', WQ D (kcH C) (161 + 20 * j) w' F' jl' → WQ D h1 (161 + 20 * j) w' F' jl') ∧ ∃ XL FS VS OS, IDW (kcD C) B h1 (kcN C + wM w) (cnW w (fH lm.1)) (vH lm.1 (cnH (fH lm.1))) (jSt lm.2.2.1) XL FS VS OS := by
  obtain ⟨A, jm, T, P, pl, XL, VS, OS, rfl, jb', FS', jd, g⟩ := x
  have id := CG.toID g hv hs cB
  have l8 : jb'.length ≤ 8 := by
    have := id.2.2.2.2.2.2.1.2.2.1
    rw [jSt, List.length_map] at this
    exact this
  rw [jd.st l8] at id
  exact ⟨rfl, g.2.1, fun j hj D w' F' jl' q => g.past hj q, XL, FS', VS, OS, id.toW⟩
end MXK6
