/-! the kept states stay over a run -/
section MXK5
variable {C : cC} {D : pmC} {h : mxH} {j s i : Nat} {w w' : spW} {A : Nat → Option Nat} {G : List cE} {T : List cT} {Ks : List spH} {P : cP} {cur : Option Nat} {pl rn : Int32} {XL FS VS OS inh : List Nat} {F' : spF} {jl' : List Int32}
theorem cst_pw (hj : j < 6) (hi : i < 20) : cstA (161 + 20 * j + i) = true := by
  have a : 160 ≤ 161 + 20 * j + i := by omega
  have b : 161 + 20 * j + i ≤ 281 := by omega
  unfold cstA
  rw [decide_eq_true a, decide_eq_true b]
  simp
theorem CG.past (g : CG C h s w A G T Ks P cur pl rn XL FS VS OS inh) (hj : j < 6) (q : WQ D (kcH C) (161 + 20 * j) w' F' jl') : WQ D h (161 + 20 * j) w' F' jl' := by
  obtain ⟨k0, fc, wc0, oi, cu0, cgs, cgp, cgf, cgr, cgq, cn⟩ := g
  have I : ∀ i, i < 20 → hpI h (161 + 20 * j + i) = hpI (kcH C) (161 + 20 * j + i) := fun i hi => (fc.2 _ (cst_pw hj hi)).1
  have L : ∀ i, i < 20 → hpL h (161 + 20 * j + i) = hpL (kcH C) (161 + 20 * j + i) := fun i hi => (fc.2 _ (cst_pw hj hi)).2.1
  have I0 : hpI h (161 + 20 * j) = hpI (kcH C) (161 + 20 * j) := I 0 (by decide)
  have S : ∀ i, i < 13 → hpI h (161 + 20 * j + 6 + i) = hpI (kcH C) (161 + 20 * j + 6 + i) ∧ hpL h (161 + 20 * j + 6 + i) = hpL (kcH C) (161 + 20 * j + 6 + i) := fun i hi => by
    rw [show 161 + 20 * j + 6 + i = 161 + 20 * j + (6 + i) by omega]
    exact ⟨I _ (by omega), L _ (by omega)⟩
  have S0 : hpI h (161 + 20 * j + 6) = hpI (kcH C) (161 + 20 * j + 6) := (S 0 (by decide)).1
  obtain ⟨⟨s, s9, q1⟩, q2, ⟨⟨v1, v2, v3⟩, q3⟩, ⟨j1, j2, j3⟩, hq⟩ := q
  refine ⟨⟨s, s9, ?_⟩, q2, ⟨⟨by rw [(S 1 (by decide)).1]; exact v1, v2, fun k hk => ⟨by rw [(S 2 (by decide)).2]; exact (v3 k hk).1, ?_⟩⟩, ?_⟩, ⟨by rw [S0]; exact j1, j2, fun k hk => by rw [(S 12 (by decide)).1]; exact j3 k hk⟩, ?_⟩
  · show CW (CLn h) (hpI h (161 + 20 * j)) (hpI h (161 + 20 * j + 2)) (hpI h (161 + 20 * j + 3)) (hpI h (161 + 20 * j + 4)) (hpI h (161 + 20 * j + 5)) (hpI h (161 + 20 * j + 19)) (hpL h (161 + 20 * j + 1)) s w'
    rw [I0, I 2 (by decide), I 3 (by decide), I 4 (by decide), I 5 (by decide), I 19 (by decide), L 1 (by decide)]
    exact CW.mono q1 cgq.2
  · rw [(S 3 (by decide)).1]
    exact cgq.2 _ _ (v3 k hk).2
  · rw [(S 4 (by decide)).1, (S 5 (by decide)).2, (S 6 (by decide)).1, (S 7 (by decide)).2, S0]; exact q3
  · obtain ⟨a1, a2⟩ := hq
    have R : ∀ k, k < 10 → hpR h (161 + 20 * j + 15) k = hpR (kcH C) (161 + 20 * j + 15) k ∧ ∀ o, hpR h (161 + 20 * j + 15) k = some o → A o = none ∧ ∀ c, c < 4 → hpI h o c = hpI (kcH C) o c := fun k hk => cgq.1 _ (pw_in hj).1 k hk
    refine ⟨fun k hk => ⟨fun c => by rw [(R k hk).1]; exact (a1 k hk).1 c, fun a ha => ?_⟩, fun i k hi hk => by rw [(R i hi).1, (R k hk).1]; exact a2 i k hi hk⟩
    obtain ⟨o, q', r1, r2, r3, r4⟩ := (a1 k hk).2 a ha
    have r1' : hpR h (161 + 20 * j + 15) k = some o := by rw [(R k hk).1]; exact r1
    exact ⟨o, q', r1', fc.1.kd r2, r3, r4.cg ((R k hk).2 o r1').2⟩
end MXK5
