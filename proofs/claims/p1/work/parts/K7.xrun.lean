/-! ShellCore.run -/
section MXK7
variable {B h h1 h2 : mxH} {D : pmC} {d n m fl g nc na : Nat} {fa fd : Nat → Nat} {w : spW} {F : spF} {jl : List Int32} {XL FS VS OS : List Nat} {pi : Nat → Nat} {P : List cSn} {m' : pmM}
theorem k_X11_run (hd : 12 ≤ d) (i : IDW D B h n w F jl XL FS VS OS) (bk : BK h) (ps : PsW D h pi P) (hg : hpR h 128 10 = some g) (hK : ∀ h1 n', KpF h h1 → n' ≤ 2880 → K0 (D, h1, fH F, n', g, nc, na, fa, fd))
    (it : pmIt D (PI D) m (rnW w, 0, (prF F, false, [], []), []) fl m') (nf : fl ≠ 0) (hm : m < 9999999) (hv : ∀ lm, lstL (fH F) fl m' lm → ∀ k, k < 10 → ∀ a, fH lm.1 k = some a → ∀ q, (wO m'.1)[a]? = some q → q.1 ≠ 5 ∧ q.1 ≠ 6) :
    mx_SM mY_X11_run d [.ref 128] h (fun r h2 => ∃ lm, lstL (fH F) fl m' lm ∧ r = .inl (some (.int (fS lm.1))) ∧ ∃ h1, KpF h h1 ∧ FrD h1 h2 ∧ ∃ pi' n' XL FS VS OS, PsW D h2 pi' (kpP P (w, F, jl)) ∧ n' ≤ 2880 ∧ IDW D B h2 (n' + wM m'.1) (cnW m'.1 (fH lm.1)) (vH lm.1 (cnH (fH lm.1))) (jSt lm.2.2.1) XL FS VS OS) := by
  have s0 := i.1
  have N := s0.1
  refine b_X11_run 128 ⟨by omega, sc_k128 s0, (k_X11_remember (d := d - 1) (by omega) i bk ps).mono ?_⟩
  rintro x h1 ⟨rfl, kp, pi', n', OS', ps1, hn', i1⟩
  have s1 := i1.1
  have r10 : hpR h1 128 10 = some g := by
    rw [kp.2.2.2 128 10 (by omega) (by rw [sc_k128 s0]; decide) (by rw [sc_k128 s0]; decide) (Or.inl (by decide)) (by decide)]
    exact hg
  have k0 := hK h1 n' kp hn'
  have id1 : ID D B h1 n' w (A155 h1) F jl XL FS VS OS' := i1.toID
  have cn := i1.2.2.2.2.2.2.2.2.2
  refine Or.inl ⟨rfl, sc_k128 s1, 282, sc_r128_9 s1, g, r10, sc_k282 s1, (x_execute (C := (D, h1, fH F, n', g, nc, na, fa, fd)) (d := d - 1) (by omega) id1 k0 rfl rfl it nf hm).mono ?_⟩
  rintro r h2 ⟨s, lm, hs, hl, xf⟩
  obtain ⟨rfl, fr, past, XL', FS', VS', OS2, i2⟩ := xf.toW (B := B) (by omega) (hv lm hl) ⟨cn.2.2.2.2.2.1, cn.2.2.2.2.2.2⟩
  have s2 := i2.1
  refine Or.inl ⟨rfl, sc_k128 s2, 140, sc_r128_5 s2, (sc_w s2).k0, 146, (sc_w s2).r8, (sc_w s2).sb.k0, lm, hl, ?_, h1, kp, fr, pi', n', XL', FS', VS', OS2, ⟨ps1.1.cg ?_ ?_, fun k hk => past (pi' k) (ps1.1.2.2.1 k (by have := ps1.1.2.1; omega)).1 D _ _ _ (ps1.2 k hk)⟩, hn', i2⟩
  · have st : hpI h2 146 6 = fS lm.1 := i2.2.1.2.2.1.2.2.2.2
    rw [st]
  · exact congrFun (fr.2 128 (by decide)).1 7
  · exact (fr.2 160 (by decide)).2.2 (by
      show hpK h1 160 ≠ 18
      rw [sc_k160 s1]; decide)
end MXK7
