/-! ShellCore.remember: the marks of all that is kept -/
section MXK1
variable {B h h1 h2 h' : mxH} {D : pmC} {d n j k r W s nv : Nat} {L M : List Nat} {w : spW} {F : spF} {jl : List Int32} {XL FS VS OS : List Nat} {pi : Nat → Nat}
/-- a world at rest, purely -/
abbrev cSn : Type := spW × spF × List Int32
/-- the marks are those of the lines L -/
def MkAll (h h' : mxH) (L : List Nat) : Prop := ExL pMK (fun _ => False) h h' ∧ hpI h' 131 = fup (hpI h 131) 3 1 ∧ (∀ j, 1 ≤ j → hpI h' 134 j = 1 → j ∈ L) ∧ (∀ j ∈ L, j < 3200 ∧ hpI h' 134 j = 1 ∧ ∃ l, CLn h (nI j) l) ∧ ∀ j, j < 3200 → hpI h' 134 j = 0 ∨ hpI h' 134 j = 1
theorem FgD.mk (f : FgD h h1) : MkAll h h1 [] := ⟨f.1, f.2.1, fun j h1 h2 => absurd h2 (f.2.2.1 j h1), fun j hj => absurd hj List.not_mem_nil, f.2.2.2⟩
theorem MkAll.more (a : MkAll h h1 L) (m : MkLn h1 h2 M) (c : ∀ j ∈ M, j < 3200 ∧ ∃ l, CLn h (nI j) l) : MkAll h h2 (L ++ M) := by
  obtain ⟨a1, a2, a3, a4, a5⟩ := a
  refine ⟨a1.tr (m.1.wk (fun b hb => Or.inr hb) (fun b hb => hb)), by rw [m.I (by decide)]; exact a2, fun j h1 hj => ?_, fun j hj => ?_, fun j hj => ?_⟩
  · rw [m.2] at hj
    by_cases e : j ∈ M
    · exact List.mem_append_right _ e
    · rw [if_neg e] at hj
      exact List.mem_append_left _ (a3 j h1 hj)
  · rw [m.2]
    by_cases e : j ∈ M
    · rw [if_pos e]; exact ⟨(c j e).1, rfl, (c j e).2⟩
    · rw [if_neg e]; exact a4 j ((List.mem_append.mp hj).resolve_right e)
  · rw [m.2]
    by_cases e : j ∈ M
    · rw [if_pos e]; exact Or.inr rfl
    · rw [if_neg e]; exact a5 j hj
theorem MkAll.cu (a : MkAll h h1 L) (c : CU h n) : CU h1 L.length := by
  obtain ⟨a1, a2, a3, a4, a5⟩ := a
  obtain ⟨c1, i, c2, c3, c4, c5, ⟨r, r1, r2, r3⟩, -⟩ := c
  refine ⟨by rw [a1.2.2.2.2.2.2.1 133 (by decide)]; exact c1, 1, by rw [a2, fup_e]; rfl, Nat.le_refl _, by decide, fun j h1 h2 => by omega, ⟨r, by rw [a2, fup_n (by decide)]; exact r1, r2, fun j h1 hj => ?_⟩, a5, L, Nat.le_refl _, fun j h1 _ hj => a3 j h1 hj⟩
  obtain ⟨j1, -, l, i', e, i1, i2, -⟩ := a4 j (a3 j h1 hj)
  have : j = i' := (nI_eq (by omega) (by omega)).mp e
  subst this
  exact r3 j h1 (i2.resolve_left (by omega))
/-- the lines that a world names are in L -/
def NMw (h : mxH) (W : Nat) (p : cSn) (L : List Nat) : Prop := NMf (hpI h (W + 3)) p.1 (wF p.1).length L ∧ NMr (hpI h (W + 4)) (wI p.1).length L ∧ NMr (hpI h (W + 5)) (wP p.1).length L ∧ NMr (hpI h (W + 9)) (fV p.2.1).length L
theorem NMw.app {p : cSn} (a : NMw h W p L) (c : ∀ i ∈ L, i ∈ M) : NMw h W p M := ⟨a.1.app c, a.2.1.app c, a.2.2.1.app c, a.2.2.2.app c⟩
theorem CLn.at {v : Int32} {l : spL} (c : CLn h v l) : ∃ i, v = nI i ∧ i < 3200 := by
  obtain ⟨i, e, hi, -⟩ := c
  exact ⟨i, e, hi⟩
/-- World.markLines while marks are put -/
theorem x_mark1 (hd : 3 ≤ d) (sc : SC h) (wb : WB h W) (hW : 134 < W) {p : cSn} (q : WQ D h W p.1 p.2.1 p.2.2) (a : MkAll h h' L) : mx_SM mY_X10_markLines d [.ref W, .ref 131] h' (fun x h1 => x = .inl none ∧ ∃ M : List Nat, M.length ≤ 480 ∧ MkAll h h1 (L ++ M) ∧ NMw h W p M) := by
  have e := a.1
  have I : ∀ b, 134 < b → hpI h' b = hpI h b := fun b hb => e.2.2.2.2.2.2.1 b (by unfold pMK; omega)
  have eL : hpL h' = hpL h := by funext b; exact e.2.2.2.2.2.2.2 b id
  obtain ⟨⟨s, -, q1⟩, -, ⟨⟨v1, v2, v3⟩, -⟩, -⟩ := q
  refine (x_markLines (ln := CLn h) (w := p.1) (nv := (fV p.2.1).length) (s := s) hd (sc.fp e.fp) (wb.fp e.fp) hW (fun v l c => c.at) ?_ (by rw [I _ (by omega)]; exact v1) v2 (fun k hk => ⟨_, by rw [I _ (by omega)]; exact (v3 k hk).2⟩)).mono ?_
  · rw [I _ hW, I _ (by omega), I _ (by omega), I _ (by omega), I _ (by omega), I _ (by omega), eL]
    exact q1
  · rintro x h1 ⟨rfl, M, m1, m2, m3, m4, m5, m6, m7⟩
    rw [I _ (by omega)] at m4 m5 m6 m7
    exact ⟨rfl, M, m1, a.more m2 m3, m4, m5, m6, m7⟩
/-- the past states' worlds -/
def PsA (h : mxH) (pi : Nat → Nat) (c : Nat) : Prop := hpI h 128 7 = nI c ∧ c ≤ 6 ∧ (∀ j, j < 6 → pi j < 6 ∧ hpR h 160 j = some (161 + 20 * pi j)) ∧ ∀ i j, i < 6 → j < 6 → pi i = pi j → i = j
theorem x_rem98 (hd : 4 ≤ d) (sc : SC h) {P : List cSn} (pa : PsA h pi P.length) (hq : ∀ k (hk : k < P.length), WQ D h (161 + 20 * pi k) P[k].1 P[k].2.1 P[k].2.2) : ∀ q i (h' : mxH) (L : List Nat), i + q = P.length → MkAll h h' L → L.length ≤ 480 * i → (∀ k (hk : k < P.length), k < i → NMw h (161 + 20 * pi k) P[k] L) →
    mx_SX mY_X11_remember d 98 [(0, .ref 128), (1, .int (nI i))] [] h' (fun x h1 => x = .inl none ∧ ∃ L : List Nat, L.length ≤ 480 * P.length ∧ MkAll h h1 L ∧ ∀ k (hk : k < P.length), NMw h (161 + 20 * pi k) P[k] L) := by
  obtain ⟨p1, p2, p3, p4⟩ := pa
  intro q
  induction q with
  | zero =>
    intro i h' L hi a hL nm
    obtain rfl : i = P.length := by omega
    have s' := sc.fp a.1.fp
    refine b_X11_remember_98 128 _ ⟨sc_k128 s', ?_⟩
    rw [a.1.2.2.2.2.2.2.1 128 (by decide), p1]
    exact ⟨fun _ => ⟨rfl, L, hL, a, fun k hk => nm k hk hk⟩, fun c => absurd (nI_le (Nat.le_refl _) (by omega)) c⟩
  | succ q ih =>
    intro i h' L hi a hL nm
    have hi' : i < P.length := by omega
    have s' := sc.fp a.1.fp
    obtain ⟨pl, pr⟩ := p3 i (by omega)
    have wb : WB h (161 + 20 * pi i) := sc.2.2.2 _ (pw_in pl).2
    refine b_X11_remember_98 128 _ ⟨sc_k128 s', ?_⟩
    rw [a.1.2.2.2.2.2.2.1 128 (by decide), p1]
    refine ⟨fun c => absurd c (nI_ge hi' (by omega)), fun _ => ⟨fun c => absurd c (show ¬ (6 : Int32) ≤ nI i from nI_ge (b := 6) (by omega) (by omega)), fun _ => ⟨160, sc_r128_6 s', sc_k160 s', by rw [sc_z160 s']; exact vp_in_nI (by omega) (by decide), 131, sc_r128_4 s', 161 + 20 * pi i, ?_, by omega, (wb.fp a.1.fp).k0, (x_mark1 (d := d - 1) (by omega) sc wb (by omega) (hq i hi') a).mono ?_⟩⟩⟩
    · rw [nI_clamp (by omega), a.1.2.2.2.2.2.1]; exact pr
    · rintro x h1 ⟨rfl, M, m1, m2, m3⟩
      refine Or.inl ⟨rfl, ?_⟩
      rw [nI_1]
      refine ih (i + 1) h1 (L ++ M) (by omega) m2 (by rw [List.length_append]; omega) (fun k hk hlt => ?_)
      by_cases e : k = i
      · subst e
        exact m3.app (fun i hi => List.mem_append_right _ hi)
      · exact (nm k hk (by omega)).app (fun i hi => List.mem_append_left _ hi)
theorem x_rem89 (hd : 4 ≤ d) (sc : SC h) (cu : CU h n) {P : List cSn} (pa : PsA h pi P.length) (hq : ∀ k (hk : k < P.length), WQ D h (161 + 20 * pi k) P[k].1 P[k].2.1 P[k].2.2) :
    mx_SX mY_X11_remember d 89 [(0, .ref 128)] [] h (fun x h1 => x = .inl none ∧ ∃ L : List Nat, L.length ≤ 480 * P.length ∧ MkAll h h1 L ∧ ∀ k (hk : k < P.length), NMw h (161 + 20 * pi k) P[k] L) := by
  refine b_X11_remember_89 128 ⟨sc_k128 sc, 131, sc_r128_4 sc, by omega, sc_k131 sc, (k_X3_forgetMarks sc cu).mono ?_⟩
  rintro x h1 ⟨rfl, f⟩
  exact Or.inl ⟨rfl, x_rem98 hd sc pa hq P.length 0 h1 [] (Nat.zero_add _) f.mk (Nat.zero_le _) (fun k hk hlt => absurd hlt (Nat.not_lt_zero _))⟩
end MXK1
