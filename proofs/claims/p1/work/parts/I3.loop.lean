/-! Machine.execute's loop -/
section MXI3
variable {C : cC} {h h1 h2 : mxH} {d s fl : Nat} {m m' : pmM} {Q : mxRes → mxH → Prop}
theorem x_loop (hd : 8 ≤ d) : ∀ (n i s : Nat) (m : pmM) (h : mxH), pmIt (kcD C) (PI (kcD C)) n m fl m' → fl ≠ 0 → i + n < 10000000 → s + n < 2 ^ 31 → CMn C h s m → (∀ h1 s', s' ≤ s + n → ((fl = 1 ∧ CStp C h1 s' m') ∨ (fl = 2 ∧ CEnd C h1 s' m')) → mx_SX mY_X4_execute d 96 [(0, .ref 282)] [] h1 Q) →
    mx_SX mY_X4_execute d 73 [(0, .ref 282), (2, .int (nI i))] [] h Q := by
  intro n
  induction n with
  | zero => intro i s m h it nf _ _ _ _; exact absurd it.1 nf
  | succ n ih =>
    intro i s m h it nf hi hs cm K
    obtain ⟨im, q, e, c⟩ := it
    have sc : SC h ∧ hpI h 282 12 = 1 := by
      obtain ⟨A, x, jl, Z, P, XL, FS, VS, OS, cz⟩ := cm
      exact ⟨cz.1.sc, cz.1.2.2.2.2.2.2.2.2.1.2.2.1⟩
    refine b_X4_execute_73 282 _ ⟨fun c => absurd ((nI_leI (a := 10000000) (by omega) (by omega)).mp c) (by omega), fun _ => ⟨sc_k282 sc.1, fun c => absurd (sc.2.symm.trans c) (by decide), fun _ => ⟨by omega, (s_doStep (d := d - 1) (by omega) cm im (by omega) (show pmStep (kcD C) m = some (q.1, q.2) from e)).mono ?_⟩⟩⟩
    rintro r h1 ⟨rfl, z⟩
    refine Or.inl ⟨rfl, ?_⟩
    rw [nI_1]
    rcases c with ⟨c1, c2⟩ | ⟨c1, c2, c3, c4⟩
    · rcases z with ⟨-, z⟩ | ⟨z, -⟩ | ⟨z, -⟩
      · exact ih (i + 1) (s + 1) q.2 h1 c2 nf (by omega) (by omega) z (fun h2 s' hs' => K h2 s' (by omega))
      · omega
      · omega
    · have z2 : ∃ s', s' ≤ s + (n + 1) ∧ SC h1 ∧ hpI h1 282 12 = 0 ∧ ((fl = 1 ∧ CStp C h1 s' m') ∨ (fl = 2 ∧ CEnd C h1 s' m')) := by
        rcases z with ⟨z, -⟩ | ⟨z1, z⟩ | ⟨z1, z⟩
        · exact absurd z c1
        · refine ⟨s + 1, by omega, ?_, ?_, Or.inl ⟨by rw [c3, z1], by rw [c4]; exact z⟩⟩
          · obtain ⟨A, x, jl, Z, P, XL, FS, VS, OS, k, g⟩ := z
            exact g.sc
          · obtain ⟨A, x, jl, Z, P, XL, FS, VS, OS, k, g⟩ := z
            exact g.2.2.2.2.2.2.2.2.1.2.2.1
        · refine ⟨s + 1, by omega, ?_, ?_, Or.inr ⟨by rw [c3, z1], by rw [c4]; exact z⟩⟩
          · obtain ⟨A, jl, P, XL, FS, VS, OS, k, k2, g⟩ := z
            exact g.sc
          · obtain ⟨A, jl, P, XL, FS, VS, OS, k, k2, g⟩ := z
            exact g.2.2.2.2.2.2.2.2.1.2.2.1
      obtain ⟨s', hs', s1, r0, z⟩ := z2
      have fin := K h1 s' hs' z
      exact b_X4_execute_73 282 _ ⟨fun _ => fin, fun _ => ⟨sc_k282 s1, fun _ => fin, fun c => absurd r0 c⟩⟩
end MXI3
