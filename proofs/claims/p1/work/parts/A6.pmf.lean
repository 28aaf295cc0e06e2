/-! THE MACHINE DOES THE TASKS: jobs, a shell's end -/
section MXPF
variable {D : pmC} {T : spT} {nn k d d1 d2 d' g g2 p q r s : Nat} {x x0 x1 x' y y0 y1 y2 : spX} {en : Bool} {F fr E : List pmF} {K K' : List (pmU × pmL)} {m m1 m' : pmM} {v l rr ac b : Int32} {c : spC} {w w1 : spW} {f f1 f' : spF} {js : List spJ} {u : pmU} {j : Nat}
def OutJ (x x' : spX) (j bh pu : Nat) (en : Bool) (F : List pmF) (K : List (pmU × pmL)) (fl : Nat) (m' : pmM) : Prop :=
  (fl = 0 ∧ wX (xw x') = false ∧ m' = (xw x', bh, ((if pu = 2 then vS (xf x) (jbAt x' j).2.1 else xf x), en, xj x', F), K)) ∨ (fl = 1 ∧ wX (xw x') = true ∧ OutS x' K m')
def Sj (D : pmC) (T : spT) (nn k : Nat) : Prop := ∀ j b d g x x' en F K bh pu, gEx T k (cJob j b) x = some x' → bEx T k d g (cJob j b) x → Hz T nn (cJob j b) x → wX (xw x) = false → okX D T x → (pu = 2 ∨ pu = 3) → bh < 2 ^ 31 → Rm x F K d g →
  SR0 D T (xw x, kPl D (jbAt x j).2.2.1, (vG (jbAt x j).2.2.2 (decide (b = 1)), false, [], []), ((nI bh, pu, j), (xf x, en, (xj x).set j (2, (jbAt x j).2), F)) :: K) x x' 0 0 2900 5900 (OutJ x x' j bh pu en F K)
theorem jb_set {q : spJ} (hj : j < js.length) : pmJb (js.set j q) f j = q := by
  show (js.set j q).getD j _ = q
  rw [gd_at (by rw [List.length_set]; exact hj), List.getElem_set_self]
theorem okX.jset (h : okX D T x) {q : spJ} (hq : q.1 ≠ 0) (hx : xf x1 = xf x) (hj : xj x1 = (xj x).set j q) : okX D T x1 := by
  refine ⟨by rw [hx]; exact h.1, by rw [hj, List.length_set]; exact h.2.1, fun e he e0 => ?_⟩
  rw [hj] at he
  rcases List.mem_or_eq_of_mem_set he with g | g
  · exact h.2.2 e g e0
  · rw [g] at e0; exact absurd e0 hq
theorem sm_job (hc : Cd D) (hf : Sf D T nn k) (ihc : ∀ v, Sm D T nn k (cCh v) 0 9000) (wt : WT T nn) : Sj D T nn (k + 1) := by
  intro j b d g x x' en F K bh pu hx hb hz nX ox hpu hbh rm
  obtain ⟨hd, hb⟩ := bx hb
  have hb : bJob (gEx T k) (bEx T k) d g j b x := hb
  obtain ⟨g1, hb1, hb2⟩ := hb
  have hx : gJob (gEx T k) j b x = some x' := hx
  unfold gJob at hx
  simp only [] at hx
  obtain ⟨y1, hy1, h2⟩ := Option.bind_eq_some_iff.mp hx
  obtain ⟨y2, hy2, h3⟩ := Option.bind_eq_some_iff.mp h2
  obtain ⟨hj, h0⟩ : j < (xj x).length ∧ (jbAt x j).1 = 0 := hz.1
  have hm : jbAt x j ∈ xj x := by unfold jbAt; rw [gd_at hj]; exact List.getElem_mem _
  obtain ⟨-, -, okc, okf⟩ := hz.2.1.2 _ hm
  obtain ⟨⟨r, ks, kr, hr⟩, oj⟩ := ox.2.2 _ hm h0
  have kz := hc.2.2
  have hz0 : Hz T nn (cCh (jbAt x j).2.2.1) (xw x, vG (jbAt x j).2.2.2 (decide (b = 1)), false, []) := ⟨okc, ⟨okf, fun q hq => absurd hq List.not_mem_nil⟩, fun e => hz.w0 (show (12 : Nat) ≠ 6 by decide) e⟩
  obtain ⟨rm1, rm2, rm3⟩ := rm
  have rK : Rm (xw x, vG (jbAt x j).2.2.2 (decide (b = 1)), false, []) [] (((nI bh, pu, j), (xf x, en, (xj x).set j (2, (jbAt x j).2), F)) :: K) (d - 1) (g - 1) := by
    refine ⟨?_, ?_, ?_⟩
    · show 0 + (1 + F.length + nFK K) + (d - 1) ≤ 2800
      omega
    · show 0 + (nSL F + nSK K) ≤ wB (xw x)
      omega
    · show K.length + 1 + (g - 1) ≤ 95
      omega
  have p1 := mi_all wt k _ _ _ hy1 hz0
  have one := ihc (jbAt x j).2.2.1 (d - 1) (g - 1) (xw x, vG (jbAt x j).2.2.2 (decide (b = 1)), false, []) y1 (kPl D (jbAt x j).2.2.1) r false [] _ hy1 hb1 hz0 nX rfl ks hr ⟨oj, Nat.zero_le _, fun e he => absurd he List.not_mem_nil⟩ rK
  have le1 : wB (xw x) ≤ wB (xw y1) := p1.2.1.2.2.1
  have hs : wX (xw y1) = true → y2 = y1 := fun e => by rw [if_pos e] at hy2; cases hy2; rfl
  have hF : wX (xw y1) = false → gEx T k cFin y1 = some y2 := fun e => by rw [if_neg (by rw [e]; decide)] at hy2; exact hy2
  have two := sub_run (ex := 0) (sl := 6000) hc hf one kr hr le1 hs (fun e => ⟨hF e, hb2 y1 hy1 e, p1.hz (c2 := cFin) trivial (show (10 : Nat) ≠ 7 by decide) (show (10 : Nat) ≠ 6 by decide)⟩) rK (Nat.le_refl _) (by omega) (by omega) (by omega)
  obtain ⟨n1, f1, m1, a, bb, c, o⟩ := two
  have bb : n1 + kPl D (jbAt x j).2.2.1 + 20000 * wB (xw x) + (if f1 = 0 then 6000 else 0) ≤ r + 0 + 20000 * wB (xw y2) := bb
  rcases o with ⟨f0, nX2, pi2, st2⟩ | ⟨f1', yX, os⟩
  · subst f0
    rw [if_pos rfl] at bb
    rw [if_neg (by rw [nX2]; decide)] at h3
    cases h3
    have ej : (pmJb ((xj x).set j (2, (jbAt x j).2)) (xf x) j) = (2, (jbAt x j).2) := jb_set hj
    have exj : xj (zJob (xw y2, (zJob x j (jbAt x j).2.2.1 (jbAt x j).2.1 2).2) j (jbAt x j).2.2.1 (fS (xf y2)) 1) = ((xj x).set j (2, (jbAt x j).2)).set j (1, fS (xf y2), (jbAt x j).2.2) := by
      have e1 : jbAt (xw y2, (zJob x j (jbAt x j).2.2.1 (jbAt x j).2.1 2).2) j = (2, (jbAt x j).2) := ej
      show ((xj x).set j (2, (jbAt x j).2)).set j (1, fS (xf y2), (jbAt x j).2.2.1, (jbAt (xw y2, (zJob x j (jbAt x j).2.2.1 (jbAt x j).2.1 2).2) j).2.2.2) = _
      rw [e1]
    have ejs : (jbAt (zJob (xw y2, (zJob x j (jbAt x j).2.2.1 (jbAt x j).2.1 2).2) j (jbAt x j).2.2.1 (fS (xf y2)) 1) j).2.1 = fS (xf y2) := by
      have g : ∀ (X : List spJ) (dd : spJ), X = ((xj x).set j (2, (jbAt x j).2)).set j (1, fS (xf y2), (jbAt x j).2.2) → (X.getD j dd).2.1 = fS (xf y2) := fun X dd e => by
        rw [e, gd_at (by rw [List.length_set, List.length_set]; exact hj), List.getElem_set_self]
      exact g _ _ exj
    have st3 : pmStep D m1 = some (0, (xw y2, bh, ((if pu = 2 then vS (xf x) (fS (xf y2)) else xf x), en, ((xj x).set j (2, (jbAt x j).2)).set j (1, fS (xf y2), (jbAt x j).2.2), F), K)) := by
      rw [st2]
      unfold pmLev
      simp only []
      rw [nI_clamp hbh, ej]
      rcases hpu with e | e
      · subst e; rfl
      · subst e; rfl
    refine SR0.done (a.tr (pmIt.one pi2 st3)) (ox.jset (q := (1, fS (xf y2), (jbAt x j).2.2)) (show (1 : Nat) ≠ 0 by decide) rfl (by rw [exj, List.set_set])) ?_ (Or.inl ⟨rfl, nX2, ?_⟩)
    · rw [if_pos rfl]
      show n1 + 1 + 0 + 20000 * wB (xw x) + 5900 ≤ 0 + 2900 + 20000 * wB (xw y2)
      omega
    · rw [ejs, exj]
      rfl
  · subst f1'
    rw [if_neg (by decide)] at bb
    rw [if_pos yX] at h3
    cases h3
    refine SR0.done a (ox.jset (q := (2, (jbAt x j).2)) (show (2 : Nat) ≠ 0 by decide) rfl rfl) ?_ (Or.inr ⟨rfl, yX, os.par (x' := (xw y2, (zJob x j (jbAt x j).2.2.1 (jbAt x j).2.1 2).2)) rfl rfl feq.rf⟩)
    rw [if_neg (by decide)]
    show n1 + 0 + 20000 * wB (xw x) + 0 ≤ 0 + 2900 + 20000 * wB (xw y2)
    omega
theorem job_xf (h : gEx T k (cJob j b) x = some x') : xf x' = xf x ∧ xe x' = xe x := by
  cases k with
  | zero => cases h
  | succ k =>
    have h : gJob (gEx T k) j b x = some x' := h
    unfold gJob at h
    simp only [] at h
    obtain ⟨y1, hy1, h2⟩ := Option.bind_eq_some_iff.mp h
    obtain ⟨y2, hy2, h3⟩ := Option.bind_eq_some_iff.mp h2
    split at h3 <;> (cases h3; exact ⟨rfl, rfl⟩)
theorem jbs_xf : ∀ k (j : Nat) (x : spX), gEx T k (cJbs j) x = some x' → xf x' = xf x ∧ xe x' = xe x := by
  intro k
  induction k with
  | zero => intro j x h; cases h
  | succ k ih =>
    intro j x h
    have h : gJbs (gEx T k) j x = some x' := h
    unfold gJbs at h
    split at h
    · cases h; exact ⟨rfl, rfl⟩
    · obtain ⟨x1, hx1, h2⟩ := Option.bind_eq_some_iff.mp h
      obtain ⟨a1, a2⟩ := ih (j + 1) x1 h2
      split at hx1
      · obtain ⟨b1, b2⟩ := job_xf hx1
        exact ⟨a1.trans b1, a2.trans b2⟩
      · cases hx1; exact ⟨a1, a2⟩
theorem fw_at (hj : j < js.length) (h0 : (js[j]).1 = 0) (hn : ∀ i (hi : i < js.length), i < j → (js[i]).1 ≠ 0) : pmFw js = some j := by
  unfold pmFw
  rw [List.findIdx?_eq_some_iff_getElem]
  exact ⟨hj, decide_eq_true h0, fun i hi => by rw [decide_eq_true_eq]; exact hn i _ hi⟩
theorem fw_no (hn : ∀ i (hi : i < js.length), (js[i]).1 ≠ 0) : pmFw js = none := by
  unfold pmFw
  rw [List.findIdx?_eq_none_iff]
  intro q hq
  obtain ⟨i, hi, rfl⟩ := List.mem_iff_getElem.mp hq
  exact decide_eq_false (hn i hi)
def OutB (D : pmC) (x' : spX) (K : List (pmU × pmL)) (G : spW → List spJ → Option (Nat × pmM)) (fl : Nat) (m' : pmM) : Prop :=
  (fl = 0 ∧ wX (xw x') = false ∧ PI D m' ∧ pmStep D m' = G (xw x') (xj x')) ∨ (fl = 1 ∧ wX (xw x') = true ∧ OutS x' K m')
/-- the next job, or what is behind them -/
abbrev pmNx (D : pmC) (w : spW) (f : spF) (en : Bool) (js : List spJ) (F : List pmF) (K : List (pmU × pmL)) (p0 : Nat) (G : spW → List spJ → Option (Nat × pmM)) : Option (Nat × pmM) := match pmFw js with
  | some i => pmRun D w f js F K en i true 3 p0
  | none => G w js
def Sb (D : pmC) (T : spT) (nn k : Nat) : Prop := ∀ j d g x x' en F K p0 G m0, gEx T k (cJbs j) x = some x' → bEx T k d g (cJbs j) x → Hz T nn (cJbs j) x → wX (xw x) = false → okX D T x → (∀ i (hi : i < (xj x).length), i < j → ((xj x)[i]).1 ≠ 0) →
  (∀ w js, okW w 0 1 → wX w = false → nSL F + nSK K ≤ wB w → js.length ≤ 8 → PI D (w, p0, (xf x, en, js, F), K)) → (∀ w js, pmStep D (w, p0, (xf x, en, js, F), K) = pmNx D w (xf x) en js F K p0 G) → p0 < 2 ^ 31 → Rm x F K d g →
  PI D m0 → pmStep D m0 = pmNx D (xw x) (xf x) en (xj x) F K p0 G → SR0 D T m0 x x' 0 0 3000 3000 (OutB D x' K G)
theorem sm_jbs (ihj : Sj D T nn k) (ihb : Sb D T nn k) (wt : WT T nn) : Sb D T nn (k + 1) := by
  intro j d g x x' en F K p0 G m0 hx hb hz nX ox hn hP hG hp0 rm pi st
  obtain ⟨hd, hb⟩ := bx hb
  have hx : gJbs (gEx T k) j x = some x' := hx
  unfold gJbs at hx
  have nX' : ¬ wX (xw x) = true := by rw [nX]; decide
  by_cases cj : (xj x).length ≤ j
  · rw [if_pos (Or.inl cj)] at hx
    cases hx
    have e : pmFw (xj x) = none := fw_no fun i hi => hn i hi (by omega)
    refine SR0.done pmIt.nil ox (by rw [if_pos rfl]; omega) (Or.inl ⟨rfl, nX, pi, ?_⟩)
    rw [st]
    show (match pmFw (xj x) with
      | some i => pmRun D (xw x) (xf x) (xj x) F K en i true 3 p0
      | none => G (xw x) (xj x)) = _
    rw [e]
  · have lt : j < (xj x).length := Nat.lt_of_not_le cj
    rw [if_neg (fun e => e.elim cj nX')] at hx
    rcases hb with e | e | ⟨hb1, hb2⟩
    · exact absurd e cj
    · exact absurd e nX'
    obtain ⟨x1, hx1, h2⟩ := Option.bind_eq_some_iff.mp hx
    have ej : jbAt x j = (xj x)[j] := by unfold jbAt; exact gd_at lt
    have hb3 := hb2 x1 hx1
    by_cases c0 : (jbAt x j).1 = 0
    · rw [if_pos c0] at hx1
      have hz1 := hz.to (c2 := cJob j 1) (show (11 : Nat) ≠ 6 by decide) ⟨lt, c0⟩ (show (12 : Nat) ≠ 7 by decide)
      have pz : Pz T nn (cJbs j) x x1 := (mi_all wt k _ _ _ hx1 hz1).cc (show (12 : Nat) ≠ 10 by decide)
      have e : pmFw (xj x) = some j := fw_at lt (by rw [← ej]; exact c0) hn
      have st1 : pmStep D m0 = some (0, (xw x, kPl D (jbAt x j).2.2.1, (vG (jbAt x j).2.2.2 (decide ((1 : Int32) = 1)), false, [], []), ((nI p0, 3, j), (xf x, en, (xj x).set j (2, (jbAt x j).2), F)) :: K)) := by
        rw [st]
        show (match pmFw (xj x) with
          | some i => pmRun D (xw x) (xf x) (xj x) F K en i true 3 p0
          | none => G (xw x) (xj x)) = _
        rw [e]
        rfl
      have one := ihj j 1 (d - 1) g x x1 en F K p0 3 hx1 (hb1 c0) hz1 nX ox (Or.inr rfl) hp0 (rm.le (by omega) (Nat.le_refl _))
      obtain ⟨n1, f1, m1, a, bb, c, o⟩ := one
      obtain ⟨e1, e2⟩ := job_xf hx1
      obtain ⟨qq, q1, q2⟩ := job_sh hx1
      rcases o with ⟨f0, nX1, em⟩ | ⟨f1', yX, os⟩
      · subst f0
        rw [if_pos rfl] at bb
        rw [if_neg (by decide)] at em
        have w1 := pz.2.2.2 nX1
        have lx1 : wB (xw x) ≤ wB (xw x1) := pz.2.1.2.2.1
        have l8 : (xj x1).length ≤ 8 := c.2.1
        have two := ihb (j + 1) d g x1 x' en F K p0 G (xw x1, p0, (xf x, en, xj x1, F), K) h2 hb3 (pz.hz (c2 := cJbs (j + 1)) trivial (show (11 : Nat) ≠ 7 by decide) (show (11 : Nat) ≠ 6 by decide)) nX1 c
          (fun i hi hl => by
            have hi2 : i < ((xj x).set j qq).length := by rw [← q1]; exact hi
            have e : (xj x1)[i] = ((xj x).set j qq)[i] := by simp only [q1]
            rw [e]
            by_cases ci : i = j
            · subst ci
              rw [List.getElem_set_self, q2 nX1]; decide
            · rw [List.getElem_set_ne (fun e => ci e.symm)]
              exact hn i (by rw [List.length_set] at hi2; exact hi2) (by omega))
          (by rw [e1]; exact hP) (by rw [e1]; exact hG) hp0 (rm.le (Nat.le_refl _) lx1) (hP _ _ w1.lo nX1 (Nat.le_trans rm.2.1 lx1) l8) (by rw [hG, e1])
        obtain ⟨n3, f3, m3, a3, b3, c3, o3⟩ := two
        rw [em] at a
        refine ⟨n1 + 1 + n3, f3, m3, (pmIt.step pi st1 a).tr a3, ?_, c3, o3⟩
        by_cases e : f3 = 0
        · rw [if_pos e] at b3 ⊢; omega
        · rw [if_neg e] at b3 ⊢; omega
      · subst f1'
        rw [if_neg (by decide)] at bb
        have ex : x' = x1 := by
          cases k with
          | zero => cases h2
          | succ k =>
            have h2 : gJbs (gEx T k) (j + 1) x1 = some x' := h2
            unfold gJbs at h2
            rw [if_pos (Or.inr yX)] at h2
            cases h2; rfl
        rw [ex]
        exact ⟨n1 + 1, 1, m1, pmIt.step pi st1 a, by rw [if_neg (by decide)]; omega, c, Or.inr ⟨rfl, yX, os⟩⟩
    · rw [if_neg c0] at hx1
      cases hx1
      exact ihb (j + 1) d g x x' en F K p0 G m0 h2 hb3 (hz.to (c2 := cJbs (j + 1)) (show (11 : Nat) ≠ 6 by decide) trivial (show (11 : Nat) ≠ 7 by decide)) nX ox (fun i hi hl => by
        by_cases ci : i = j
        · subst ci; rw [← ej]; exact c0
        · exact hn i hi (by omega)) hP hG hp0 rm pi st
/-- the step at a shell's end, when it has called its exit function -/
theorem end_step (kp : kSt D p = 21) (ef : vN (vH f' (unw E (fH f'))) (fB f') = f) : pmStep D (w, p, (f', true, js, E), K) = pmNx D w f true js [] K (kZ D - 1) (fun w js => pmLev D w js K f) := by
  rw [stp kp]
  show pmFin D w f' true js E K = _
  have e : pmFin D w f' true js E K = pmJbs D w js K (vN (vH f' (unw E (fH f'))) (fB f')) := by
    unfold pmFin
    exact if_pos rfl
  rw [e, ef]
  rfl
theorem base_eq (fe : feq f' f) (ue : unw E (fH f') = fH f) : vN (vH f' (unw E (fH f'))) (fB f') = vN f (fB f) := by
  rw [ue, fe.set (fH f) (fB f'), fe.at.2.2.2.2.2.2.2]
theorem sm_fin (hc : Cd D) (ihc : Sc D T nn k) (ihb : Sb D T nn k) (wt : WT T nn) : Sf D T nn (k + 1) := by
  intro d g y y' p0 f' E K hx hb hz nX kp hp0 ox fe ue n4 hE hS rm
  obtain ⟨hd, hb⟩ := bx hb
  have hb : bFin (gEx T k) (bEx T k) d g y := hb
  have hx : gFin (gEx T k) y = some y' := hx
  obtain ⟨fs, fv, fu, fa, fp, fd, fg, fb⟩ := fe.at
  have w0 := hz.w0 (show (10 : Nat) ≠ 6 by decide)
  have kz := hc.2.2
  have kz0 := hc.2.1
  obtain ⟨rm1, rm2, rm3⟩ := id rm
  have rm1 : 0 + nFK K + d ≤ 2800 := rm1
  have rm2 : 0 + nSK K ≤ wB (xw y) := rm2
  have be := base_eq fe ue
  have pi0 : PI D (xw y, p0, (f', false, xj y, E), K) := PI.mk hp0 (w0 nX).lo nX kp (by omega) hE hS (by omega) (by rw [fs]; exact hz.2.1.1.1) n4 (by rw [fb]; exact ox.1.2.2.2) ox.2.1
  have st0 : pmStep D (xw y, p0, (f', false, xj y, E), K) = (if fA f' 3 = 0 ∨ fA f' 3 = -2 then pmJbs D (xw y) (xj y) K (vN (vH f' (unw E (fH f'))) (fB f')) else match tbF (fU f') (fA f' 3) with
      | none => pmJbs D (xw y) (xj y) K (vA (vN (vH f' (unw E (fH f'))) (fB f')) (fup (fA f') 3 0))
      | some i => if 4 ≤ fB f' then pmJbs D (xw y) (xj y) K (vA (vN (vH f' (unw E (fH f'))) (fB f')) (fup (fA f') 3 0)) else pmCal D (xw y) (vA (vN (vH f' (unw E (fH f'))) (fB f')) (fup (fA f') 3 0)) true (xj y) [] K 4 (nI (kZ D - 1)) i (fS f') 0) := by
    rw [stp kp]
    show pmFin D (xw y) f' false (xj y) E K = _
    unfold pmFin
    exact if_neg (show ¬ (false = true) by decide)
  rw [be, fa, fu, fs, fb] at st0
  -- the jobs
  have jobs : ∀ (z : spX) m0, gEx T k (cJbs 0) z = some y' → bEx T k (d - 1) g (cJbs 0) z → Hz T nn (cJbs 0) z → wX (xw z) = false → okX D T z → fN (xf z) = fB (xf z) → wB (xw y) ≤ wB (xw z) → stat (fS (xf z)) → PI D m0 → pmStep D m0 = pmNx D (xw z) (xf z) true (xj z) [] K (kZ D - 1) (fun w js => pmLev D w js K (xf z)) → SR0 D T m0 z y' 0 0 3000 3000 (OutF D y' K) := by
    intro z m0 h1 h2 h3 h4 h5 h6 h7 h8 h9 h10
    have q := ihb 0 (d - 1) g z y' true [] K (kZ D - 1) (fun w js => pmLev D w js K (xf z)) m0 h1 h2 h3 h4 h5 (fun i hi hl => absurd hl (Nat.not_lt_zero _))
      (fun w js a1 a2 a3 a4 => PI.mk (by omega) a1 a2 hc.1 (by omega) (by show 0 + nFK K ≤ 2900; omega) a3 (by omega) h8 h5.1.2.2.1 h5.1.2.2.2 a4)
      (fun w js => end_step hc.1 (by show vN (xf z) (fB (xf z)) = xf z; rw [← h6])) (by omega) (rm.le (by omega) h7) h9 h10
    refine q.mono fun fl m o => ?_
    rcases o with ⟨o1, o2, o3, o4⟩ | o
    · exact Or.inl ⟨o1, o2, o3, by rw [o4, (jbs_xf k 0 z h1).1]⟩
    · exact Or.inr o
  have hst := hz.2.1.1.1
  unfold gFin at hx
  simp only [] at hx
  by_cases ca : 0 < fA (xf y) 3
  · have ca' : 0 < fA (xf (zBase y)) 3 := ca
    rw [if_pos ca'] at hx
    obtain ⟨hb1, hb2⟩ := hb.1 ca
    have n0 : ¬ (fA (xf y) 3 = 0 ∨ fA (xf y) 3 = -2) := by
      rintro (e | e)
      · rw [e] at ca; exact absurd ca (by decide)
      · rw [e] at ca; exact absurd ca (by decide)
    rw [if_neg n0] at st0
    obtain ⟨x2, hx2, h2⟩ := Option.bind_eq_some_iff.mp hx
    have hx2 : (match tbF (fU (xf y)) (fA (xf y) 3) with
      | none => some (zf (zBase y) (vA (xf (zBase y)) (fup (fA (xf (zBase y))) 3 0)))
      | some i => gEx T k (cCal ((fU (xf y)).getD i (0, 0)).2) (zf (zBase y) (vA (xf (zBase y)) (fup (fA (xf (zBase y))) 3 0)))) = some x2 := hx2
    have ox1 : okX D T (zf (zBase y) (vA (xf (zBase y)) (fup (fA (xf (zBase y))) 3 0))) := by
      refine ⟨⟨ox.1.1, fun g => ?_, ox.1.2.2.2, ox.1.2.2.2⟩, ox.2⟩
      show fup (fA (xf y)) 3 0 g = 0 ∨ fup (fA (xf y)) 3 0 g = -2 ∨ 0 < fup (fA (xf y)) 3 0 g
      by_cases e : g = 3
      · rw [e, fup_e]; exact Or.inl rfl
      · rw [fup_n e]; exact ox.1.2.1 g
    -- no function is called
    have plain : ∀ v1 : Int32, x2 = zf (zBase y) (vS (vA (xf (zBase y)) (fup (fA (xf (zBase y))) 3 0)) v1) → pmStep D (xw y, p0, (f', false, xj y, E), K) = pmJbs D (xw y) (xj y) K (vA (vN (xf y) (fB (xf y))) (fup (fA (xf y)) 3 0)) → SR0 D T (xw y, p0, (f', false, xj y, E), K) y y' 0 0 9000 6000 (OutF D y' K) := by
      intro v1 e st
      have hb3 := hb2 x2 hx2 (by rw [e]; exact nX)
      rw [e] at h2 hb3
      have nX2 : ¬ wX (xw y) = true := by rw [nX]; decide
      have h2 : (if wX (xw y) = true then _ else gEx T k (cJbs 0) (zBase (zSt (zf (zBase y) (vS (vA (xf (zBase y)) (fup (fA (xf (zBase y))) 3 0)) v1)) (fS (xf (zBase y)))))) = some y' := h2
      rw [if_neg nX2] at h2
      have q := jobs (zBase (zSt (zf (zBase y) (vS (vA (xf (zBase y)) (fup (fA (xf (zBase y))) 3 0)) v1)) (fS (xf (zBase y))))) (xw y, p0, (f', false, xj y, E), K) h2 hb3 ⟨trivial, hz.2.1, fun e => w0 e⟩ nX ox1 rfl (Nat.le_refl _) hst pi0 st
      exact SR0.pre pmIt.nil q (by show 0 + 0 + 20000 * wB (xw y) + 3000 ≤ 0 + 20000 * wB (xw y) + 9000; omega) (by show 0 + 0 + 20000 * wB (xw y) + 3000 + 6000 ≤ 0 + 20000 * wB (xw y) + 9000 + 3000; omega)
    cases et : tbF (fU (xf y)) (fA (xf y) 3) with
    | none =>
      rw [et] at hx2 st0
      cases hx2
      exact plain (fS (xf y)) rfl st0
    | some i =>
      have hx2i : gEx T k (cCal ((fU (xf y)).getD i (0, 0)).2) (zf (zBase y) (vA (xf (zBase y)) (fup (fA (xf (zBase y))) 3 0))) = some x2 := by rw [et] at hx2; exact hx2
      have st1 : pmStep D (xw y, p0, (f', false, xj y, E), K) = if 4 ≤ fB (xf y) then pmJbs D (xw y) (xj y) K (vA (vN (xf y) (fB (xf y))) (fup (fA (xf y)) 3 0)) else pmCal D (xw y) (vA (vN (xf y) (fB (xf y))) (fup (fA (xf y)) 3 0)) true (xj y) [] K 4 (nI (kZ D - 1)) i (fS (xf y)) 0 := by rw [et] at st0; exact st0
      have b4 := ox.1.2.2.2
      by_cases c4 : 4 ≤ fB (xf y)
      · rw [if_pos c4] at st1
        have e4 : fN (xf (zf (zBase y) (vA (xf (zBase y)) (fup (fA (xf (zBase y))) 3 0)))) = 4 := by show fB (xf y) = 4; omega
        have e : x2 = zf (zBase y) (vS (vA (xf (zBase y)) (fup (fA (xf (zBase y))) 3 0)) 126) := by
          cases k with
          | zero => cases hx2i
          | succ k =>
            have h : gCal (gEx T k) ((fU (xf y)).getD i (0, 0)).2 (zf (zBase y) (vA (xf (zBase y)) (fup (fA (xf (zBase y))) 3 0))) = some x2 := hx2i
            unfold gCal at h
            rw [if_pos e4] at h
            cases h; rfl
        exact plain 126 e st1
      · rw [if_neg c4] at st1
        have hz1 : Hz T nn (cCal ((fU (xf y)).getD i (0, 0)).2) (zf (zBase y) (vA (xf (zBase y)) (fup (fA (xf (zBase y))) 3 0))) := ⟨hz.2.1.1.2 _ (tb_mem et), hz.2.1, fun e => w0 e⟩
        have pz := mi_all wt k _ _ _ hx2i hz1
        have cal := ihc ((fU (xf y)).getD i (0, 0)).2 (d - 1) g (zf (zBase y) (vA (xf (zBase y)) (fup (fA (xf (zBase y))) 3 0))) x2 true [] K 4 (nI (kZ D - 1)) (fS (xf y)) hx2i (hb1 i et) hz1 nX rfl (by show fB (xf y) ≠ 4; omega) (ox.1.1 _ (tb_mem et)) ox1 (Or.inr (Or.inr rfl))
          ⟨(by show 0 + 1 + nFK K + (d - 1) ≤ 2800; omega), (by show 0 + 0 + nSK K ≤ wB (xw y); omega), rm3⟩
        obtain ⟨n1, f1, m1, a, bb, c, o⟩ := cal
        have a := pmIt.step pi0 st1 a
        have bb : n1 + 0 + 20000 * wB (xw y) + (if f1 = 0 then 0 else 0) ≤ 0 + 2810 + 20000 * wB (xw x2) := bb
        have ly : wB (xw y) ≤ wB (xw x2) := pz.2.1.2.2.1
        have okz : ∀ z : spX, xw z = xw x2 → xj z = xj x2 → (∃ s, stat s ∧ xf z = vN (vS (xf x2) s) (fB (xf x2))) → Hz T nn (cJbs 0) z ∧ okX D T z := by
          rintro z z1 z2 ⟨s, z3, z4⟩
          refine ⟨⟨trivial, ⟨⟨?_, ?_⟩, ?_⟩, fun e => ?_⟩, ⟨?_, ?_, ?_, ?_⟩, ?_, ?_⟩
          · show stat (fS (xf z)); rw [z4]; exact z3
          · show ∀ q ∈ fU (xf z), _; rw [z4]; exact pz.1.1.2
          · show ∀ q ∈ xj z, _; rw [z2]; exact pz.1.2
          · show okW (xw z) 0 0; rw [z1] at e ⊢; exact pz.2.2.2 e
          · rw [z4]; exact c.1.1
          · rw [z4]; exact c.1.2.1
          · rw [z4]; exact c.1.2.2.2
          · rw [z4]; exact c.1.2.2.2
          · rw [z2]; exact c.2.1
          · rw [z2]; exact c.2.2
        -- behind the function
        have rest : ∀ z : spX, (if xe x2 = true then x2 else zSt x2 (fS (xf y))) = z → f1 = 0 → wX (xw x2) = false → PI D m1 → pmStep D m1 = pmNx D (xw (zBase z)) (xf (zBase z)) true (xj (zBase z)) [] K (kZ D - 1) (fun w js => pmLev D w js K (xf (zBase z))) → SR0 D T (xw y, p0, (f', false, xj y, E), K) y y' 0 0 9000 6000 (OutF D y' K) := by
          intro z ez f0 nX2 pi1 stn
          subst f0
          rw [if_pos rfl] at bb
          have hb3 := hb2 x2 hx2 nX2
          have h2 : (if wX (xw x2) = true then some x2 else gEx T k (cJbs 0) (zBase (if xe x2 = true then x2 else zSt x2 (fS (xf y))))) = some y' := h2
          rw [if_neg (by rw [nX2]; decide), ez] at h2
          rw [ez] at hb3
          have wz : xw z = xw x2 ∧ xj z = xj x2 ∧ ∃ s, stat s ∧ xf z = vS (xf x2) s := by
            rw [← ez]
            split
            · exact ⟨rfl, rfl, fS (xf x2), pz.1.1.1, rfl⟩
            · exact ⟨rfl, rfl, fS (xf y), hst, rfl⟩
          obtain ⟨z1, z2, s, z3, z4⟩ := wz
          have zz : xf (zBase z) = vN (vS (xf x2) s) (fB (xf x2)) := by show vN (xf z) (fB (xf z)) = _; rw [z4]
          obtain ⟨hzz, oxz⟩ := okz (zBase z) z1 z2 ⟨s, z3, zz⟩
          have q := jobs (zBase z) m1 h2 hb3 hzz (by show wX (xw z) = false; rw [z1]; exact nX2) oxz rfl (by show wB (xw y) ≤ wB (xw z); rw [z1]; exact ly) (by rw [zz]; exact z3) pi1 stn
          refine SR0.pre a q ?_ ?_
          · show n1 + 1 + 0 + 20000 * wB (xw y) + 3000 ≤ 0 + 20000 * wB (xw z) + 9000
            rw [z1]; omega
          · show n1 + 1 + 0 + 20000 * wB (xw y) + 3000 + 6000 ≤ 0 + 20000 * wB (xw z) + 9000 + 3000
            rw [z1]; omega
        rcases o with ⟨f0, nX2, ne2, em⟩ | ⟨f0, nX2, ne2, f2, E2, em, e2, e3, e4, e5, e6⟩ | ⟨f1', yX, os⟩
        · have nxe : ¬ xe x2 = true := by rw [ne2]; decide
          have em : m1 = (xw x2, (nI (kZ D - 1)).toNatClampNeg, (vS (xf x2) (fS (xf y)), true, xj x2, []), K) := em
          rw [nI_clamp (by omega)] at em
          refine rest (zSt x2 (fS (xf y))) (by rw [if_neg nxe]) f0 nX2 ?_ ?_
          · rw [em]
            exact PI.mk (by omega) (pz.2.2.2 nX2).lo nX2 hc.1 (by omega) (by show 0 + nFK K ≤ 2900; omega) (by show 0 + nSK K ≤ wB (xw x2); omega) (by omega) hst c.1.2.2.1 c.1.2.2.2 c.2.1
          · rw [em]
            exact end_step hc.1 rfl
        · rw [List.append_nil] at em
          refine rest x2 (by rw [if_pos ne2]) f0 nX2 ?_ ?_
          · rw [em]
            obtain ⟨gs, -, -, -, -, -, -, gb⟩ := e2.at
            have e5 : nSL E2 + wB (xw y) ≤ wB (xw x2) := e5
            exact PI.mk (by omega) (pz.2.2.2 nX2).lo nX2 hc.1 (by omega) (by omega) (by omega) (by omega) (by rw [gs]; exact pz.1.1.1) e6 (by rw [gb]; exact c.1.2.2.2) c.2.1
          · rw [em]
            exact end_step hc.1 (base_eq e2 e3)
        · subst f1'
          rw [if_neg (by decide)] at bb
          have h2 : (if wX (xw x2) = true then some x2 else gEx T k (cJbs 0) (zBase (if xe x2 = true then x2 else zSt x2 (fS (xf y))))) = some y' := h2
          rw [if_pos yX] at h2
          cases h2
          refine SR0.done a c ?_ (Or.inr ⟨rfl, yX, os⟩)
          rw [if_neg (by decide)]
          omega
  · have ca' : ¬ 0 < fA (xf (zBase y)) 3 := ca
    rw [if_neg ca'] at hx
    have n0 : fA (xf y) 3 = 0 ∨ fA (xf y) 3 = -2 := by
      rcases ox.1.2.1 3 with e | e | e
      · exact Or.inl e
      · exact Or.inr e
      · exact absurd e ca
    rw [if_pos n0] at st0
    have ox1 : okX D T (zBase y) := ⟨⟨ox.1.1, ox.1.2.1, ox.1.2.2.2, ox.1.2.2.2⟩, ox.2⟩
    have q := jobs (zBase y) (xw y, p0, (f', false, xj y, E), K) hx (hb.2 ca) ⟨trivial, hz.2.1, fun e => w0 e⟩ nX ox1 rfl (Nat.le_refl _) hst pi0 st0
    exact SR0.pre pmIt.nil q (by show 0 + 0 + 20000 * wB (xw y) + 3000 ≤ 0 + 20000 * wB (xw y) + 9000; omega) (by show 0 + 0 + 20000 * wB (xw y) + 3000 + 6000 ≤ 0 + 20000 * wB (xw y) + 9000 + 3000; omega)
end MXPF
