/-! RUN OF NO SCRIPT, the class (p1) -/
section MXN4
variable {g h h' h1 h2 : mxH} {d n k a j : Nat} {x y : Int32}
def m00 : pmM := (rnW w00, 0, (vN (vH (prF F00) (fH (prF F00))) 0, true, [], []), [])
theorem st00 : pmStep D00 (rnW w00, 0, (prF F00, false, [], []), []) = some (2, m00) := by rfl
theorem ok00 : okW (rnW w00) 0 1 := by
  refine ⟨by decide, by decide, by decide, by decide, fun q hq c => ?_, by decide, fun i => ?_⟩
  · have : q = (1, 0, 0) := by simpa using (show q ∈ [((1, 0, 0) : spO)] from hq)
    subst this
    exact absurd c (by decide)
  · show ((([] : List (Int64 × List spL)).getD i (0, [])).2).length ≤ 40
    simp
theorem pi00 : PI D00 (rnW w00, 0, (prF F00, false, [], []), []) := by
  refine ⟨by decide, ok00, rfl, fun c => ?_, by decide, by decide, by decide, ⟨0, by decide, rfl⟩, by decide, by decide, by decide⟩
  rcases c with c | c
  · exact absurd c (by decide)
  · exact absurd c.1 (by decide)
theorem it00 : pmIt D00 (PI D00) 1 (rnW w00, 0, (prF F00, false, [], []), []) 2 m00 := pmIt.last pi00 st00 (by decide)
def SGg (g : mxH) : Prop := hpZ g 2 = 4 ∧ hpL g 2 0 = 11745 ∧ hpL g 2 1 = 12859 ∧ hpL g 2 2 = 1020584 ∧ hpL g 2 3 = 286474
theorem cst_lt {a : Nat} (h : cstA a = true) : a < 365 := by
  unfold cstA at h
  simp only [Bool.or_eq_true, Bool.and_eq_true, decide_eq_true_eq] at h
  omega
theorem k000 (hg : ∀ a, a < 128 → hpK g a = 21) (hs : SGg g) {n' : Nat} (kp : KpF (H0 g) h1) (hn : n' ≤ 2880) : K0 (D00, h1, fH F00, n', 289, 0, 0, fun _ => 0, fun _ => 0) := by
  obtain ⟨k1, k2, k3, k4⟩ := kp
  have N : hpN (H0 g) = 365 := h0_N
  have eK : ∀ a, a < 365 → hpK h1 a = hpK (H0 g) a := fun a ha => (k1.2 a (by omega)).1
  have L2 : hpK (H0 g) 2 = 21 := by rw [show hpK (H0 g) 2 = hpK g 2 from hpK_mkLo (by decide)]; exact hg 2 (by decide)
  have I : ∀ b, 289 ≤ b → b < 319 → hpI h1 b = hpI (H0 g) b := fun b b1 b2 => by
    have nk : hpK (H0 g) b ≠ 5 := h0_BK hg |>.1 b (by unfold cstA; simp only [Bool.or_eq_true, Bool.and_eq_true, decide_eq_true_eq]; omega)
    exact (k2 b (by omega) nk (by omega) (by omega) (by omega)).1 (by omega)
  obtain ⟨q1, q2, q3, q4, q5, q6⟩ := rF_P
  refine ⟨fun a ha => ?_, ?_, ?_, ⟨⟨show 1 ≤ 2801 by decide, ?_, fun p hp => ?_⟩, ⟨show 0 ≤ 700 by decide, ?_, fun c hc => absurd hc (Nat.not_lt_zero _)⟩, ⟨show 0 ≤ 700 by decide, ?_, fun c hc => absurd hc (Nat.not_lt_zero _)⟩, fun c hc => absurd hc (Nat.not_lt_zero _), fun p hp c => ?_⟩, Or.inl rfl, ?_, fun c hc => absurd hc (Nat.not_lt_zero _), fun c hc => absurd hc (Nat.not_lt_zero _), ?_, fun p hp c => ?_, fun p hp c => ?_⟩
  · show hpK h1 a ≠ 5
    rw [eK a (cst_lt ha)]
    exact (h0_BK hg).1 a ha
  · show 365 ≤ hpN h1
    have := k1.1; omega
  · have eL : hpL h1 2 = hpL g 2 := by
      rw [(k2 2 (by omega) (by rw [L2]; decide) (by decide) (by decide) (by decide)).2]
      exact hpL_mkLo (by decide)
    have eZ : hpZ h1 2 = hpZ g 2 := by
      rw [(k1.2 2 (by omega)).2.1]
      exact hpZ_mkLo (by decide)
    show SGN h1
    unfold SGN
    rw [eL, eZ]
    exact hs
  · show hpI h1 289 3 = nI 1
    rw [I 289 (by decide) (by decide), h0_IJ]; exact q1
  · have p0 : p = 0 := by have : p < 1 := hp; omega
    subst p0
    refine ⟨?_, show 21 ≤ 21 by decide, ?_, show 0 < 2 ^ 31 by decide, ?_, show 0 < 2 ^ 31 by decide⟩
    · show hpI h1 290 0 = nI 21
      rw [I 290 (by decide) (by decide), h0_IJ]; exact q4
    · show hpI h1 291 0 = nI 0
      rw [I 291 (by decide) (by decide), h0_IJ]; exact q5
    · show hpI h1 292 0 = nI 0
      rw [I 292 (by decide) (by decide), h0_IJ]; exact q6
  · show hpI h1 289 11 = nI 0
    rw [I 289 (by decide) (by decide), h0_IJ]; exact q2
  · show hpI h1 289 14 = nI 0
    rw [I 289 (by decide) (by decide), h0_IJ]; exact q3
  · have e21 : kSt D00 p = 21 := rfl
    rw [e21] at c
    exact absurd c (by decide)
  · show n' ≤ 2890
    omega
  · show hpK h1 319 = 5
    rw [eK 319 (by decide)]; exact ((h0_5 hg).mpr rfl).2
  · have e21 : kSt D00 p = 21 := rfl
    rw [e21] at c
    exact absurd c (by decide)
  · have e21 : kSt D00 p = 21 := rfl
    rw [e21] at c
    exact absurd c (by decide)
theorem q_run (hd : 12 ≤ d) (hg : ∀ a, a < 128 → hpK g a = 21) (hs : SGg g) : mx_SM mY_X11_run d [.ref 128] (H0 g) (mx_KI (CA g 0) fun _ _ => False) := by
  have r10 : hpR (H0 g) 128 10 = some 289 := by rw [h0_RJ]; exact rF_C.2.2.2.2.2.2.2.1
  refine (k_X11_run (d := d) hd (h0_IDW hg) (h0_BK hg) h0_PsW r10 (fun h1 n' kp hn => k000 hg hs kp hn) it00 (by decide) (by decide) (fun lm hl k hk a ha q hq => ?_)).mono fun r h2 w => ?_
  · have e : q = (1, 0, 0) := by
      have hq' : ([((1, 0, 0) : spO)])[a]? = some q := hq
      rcases a with _ | a
      · exact (Option.some.inj hq').symm
      · exact nomatch hq'
    subst e
    exact ⟨by decide, by decide⟩
  · obtain ⟨lm, hl, rfl, h1, kp, fr, pi', n', XL, FS, VS, OS, -, -, i2⟩ := w
    have el : lm = (m00.2.2.1.1, true, m00.2.2.1.2.2.1, []) := by
      rcases hl with ⟨c, -⟩ | ⟨-, c⟩
      · exact absurd c (by decide)
      · exact c
    subst el
    obtain ⟨-, -, -, -, -, -, -, ⟨⟨-, -, -, v4, -⟩, -, -⟩, -, c1, c2, c3, c4, c5, c6, c7⟩ := i2
    obtain ⟨k1, k2, k3, k4⟩ := kp
    obtain ⟨f1, f2⟩ := fr
    have N : hpN (H0 g) = 365 := h0_N
    have C : hpC (H0 g) = 237 := rfl
    have S : hpS (H0 g) = 952454 := rfl
    have lr : (cRS XL VS).length = XL.length + (1 + (6 + VS.length)) := by
      unfold cRS
      rw [List.length_append, List.length_map, List.length_cons, List.length_append, List.length_map, List.length_map, show pastX.length = 6 from rfl]
      omega
    have K5 : ∀ a, 320 ≤ a → a < 364 → hpK (H0 g) a ≠ 5 ∧ hpK (H0 g) a ≠ 18 := fun a x1 x2 => by
      rw [(h0_SR (g := g)).1 a x1 x2]
      exact srK_no a x1 x2
    have K0' : hpK (H0 g) 0 = 21 := by rw [show hpK (H0 g) 0 = hpK g 0 from hpK_mkLo (by decide)]; exact hg 0 (by decide)
    refine Or.inl ⟨_, rfl, rfl, k1.tr f1, fun a x1 x2 => ?_, ?_, ?_, ?_⟩
    · have q := k2 a (by omega) (K5 a x1 x2).1 (by omega) (by omega) (by omega)
      have ca : cstA a = true := by unfold cstA; simp only [Bool.or_eq_true, Bool.and_eq_true, decide_eq_true_eq]; omega
      obtain ⟨z1, z2, z3⟩ := f2 a ca
      refine ⟨z1.trans (q.1 (by omega)), z2.trans q.2, ?_⟩
      rw [z3 (by rw [(k1.2 a (by omega)).1]; exact (K5 a x1 x2).2)]
      funext k
      exact k4 a k (by omega) (K5 a x1 x2).1 (K5 a x1 x2).2 (Or.inl (by omega)) (by omega)
    · rw [(f2 0 (by decide)).1, (k2 0 (by omega) (by rw [K0']; decide) (by decide) (by decide) (by decide)).1 (by decide)]
      exact hpI_mkLo (by decide)
    · rw [lr] at c3
      omega
    · rw [lr] at c3
      omega
end MXN4
