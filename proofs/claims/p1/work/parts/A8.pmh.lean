/-! THE MACHINE DOES THE TASKS: plain commands, bodies, all tasks -/
section MXPH
variable {D : pmC} {T : spT} {nn k d d1 d2 d' g g2 p q r s : Nat} {x x0 x1 x' y y0 y1 y2 : spX} {en : Bool} {F fr E : List pmF} {K K' : List (pmU × pmL)} {m m1 m' : pmM} {v l rr ac b : Int32} {c : spC} {w w1 : spW} {f f1 f' : spF} {js : List spJ} {u : pmU} {j ex sl fl : Nat} {as : List spL} {nm : Int64} {kk : Nat} {fq : pmF}
theorem sm_rse (hc : Cd D) (ihc : Sc D T nn k) (hx : gRse (gEx T k) as x = some x') (hb : ∀ s, sigK (nmL (as.getD 0 [])) = some s → s < 3 → 0 < fA (xf x) s → bFnc (bEx T k) g (d - 1 - 2) (fA (xf x) s) x) (hd : 20 ≤ d) (hz : Hz T nn (cBdy v) x) (nX : wX (xw x) = false) (ne : xe x = false) (ox : okX D T x) (rm : Rm x F K d g) (hp : p + 1 < kZ D)
    (st : pmStep D (xw x, p, (xf x, en, xj x, F), K) = pmRse D (xw x) p (xf x) en (xj x) F K as) : SR0 D T (xw x, p, (xf x, en, xj x, F), K) x x' p (p + 1) 10000 6000 (Out D x x' (p + 1) en F K d) := by
  have kz := hc.2.2
  have nh : ¬ hlt x = true := fun e => by
    have e : (wX (xw x) || xe x) = true := e
    rw [nX, ne] at e; cases e
  have z0 : zUn x 0 = zSt x 0 := by unfold zUn; rw [if_neg nh]
  unfold gRse at hx
  unfold pmRse at st
  by_cases c1 : as.length ≠ 1
  · rw [if_pos c1] at hx st
    cases hx
    exact sm_st hz nX ne ox rm (by omega) st
  rw [if_neg c1] at hx st
  cases es : sigK (nmL (as.getD 0 [])) with
  | none =>
    rw [es] at hx st
    cases hx
    exact sm_st hz nX ne ox rm (by omega) st
  | some s =>
    rw [es] at hx st
    have hx : (if 3 ≤ s then some (zSt x 2) else
      if fA (xf x) s = 0 then some (zEnd x (128 + (if s = 2 then 15 else nI (s + 1)))) else
      (if 0 < fA (xf x) s then match tbF (fU (xf x)) (fA (xf x) s) with
        | none => some x
        | some i => gEx T k (cCal ((fU (xf x)).getD i (0, 0)).2) x
      else some x).bind fun x1 => some (zUn x1 0)) = some x' := hx
    have st : pmStep D (xw x, p, (xf x, en, xj x, F), K) = (if 3 ≤ s then pmGo1 en K (xw x) (p + 1) (vS (xf x) 2) (xj x) F else
      if fA (xf x) s = 0 then pmEnd D en (xj x) F K (xw x) (xf x) (128 + (if s = 2 then 15 else nI (s + 1))) else
      if fA (xf x) s = -2 then pmGo1 en K (xw x) (p + 1) (vS (xf x) 0) (xj x) F else match tbF (fU (xf x)) (fA (xf x) s) with
      | none => pmGo1 en K (xw x) (p + 1) (vS (xf x) 0) (xj x) F
      | some i => if 4 ≤ fN (xf x) then pmGo1 en K (xw x) (p + 1) (vS (xf x) 0) (xj x) F else pmCal D (xw x) (xf x) en (xj x) F K 3 (nI (p + 1)) i 0 0) := st
    by_cases c3 : 3 ≤ s
    · rw [if_pos c3] at hx st
      cases hx
      exact sm_st hz nX ne ox rm (by omega) st
    rw [if_neg c3] at hx st
    by_cases c0 : fA (xf x) s = 0
    · rw [if_pos c0] at hx st
      cases hx
      exact sm_end hz nX ox rm (by omega) st
    rw [if_neg c0] at hx st
    by_cases ca : 0 < fA (xf x) s
    · rw [if_pos ca] at hx
      rw [if_neg (fun e => by rw [e] at ca; exact absurd ca (by decide))] at st
      cases et : tbF (fU (xf x)) (fA (xf x) s) with
      | none =>
        rw [et] at hx st
        have hx : some (zUn x 0) = some x' := hx
        cases hx
        rw [z0]
        exact sm_st hz nX ne ox rm (by omega) st
      | some i =>
        have hx : (match tbF (fU (xf x)) (fA (xf x) s) with
          | none => some x
          | some i => gEx T k (cCal ((fU (xf x)).getD i (0, 0)).2) x).bind (fun x1 => some (zUn x1 0)) = some x' := hx
        rw [et] at hx
        have st : pmStep D (xw x, p, (xf x, en, xj x, F), K) = (if 4 ≤ fN (xf x) then pmGo1 en K (xw x) (p + 1) (vS (xf x) 0) (xj x) F else pmCal D (xw x) (xf x) en (xj x) F K 3 (nI (p + 1)) i 0 0) := by rw [et] at st; exact st
        obtain ⟨x1, hx1, h2⟩ := Option.bind_eq_some_iff.mp hx
        cases h2
        by_cases n4 : 4 ≤ fN (xf x)
        · rw [if_pos n4] at st
          have e := cal4 hx1 (by have := ox.1.2.2.1; omega)
          subst e
          have ez : zUn (zSt x 126) 0 = zSt x 0 := by
            unfold zUn
            rw [if_neg nh]
          rw [ez]
          exact sm_st hz nX ne ox rm (by omega) st
        · rw [if_neg n4] at st
          have q := sm_fc (d1 := d - 1 - 2) ihc hz nX ne ox rm hp hc hd et (Or.inr rfl) (by omega) hx1 (hb s es (by omega) ca i et) n4 st
          exact (q.un (v1 := 0)).mono fun fl m o => o.out3 (by omega) (by omega)
    · rw [if_neg ca] at hx
      have c2 : fA (xf x) s = -2 := by
        rcases ox.1.2.1 s with e | e | e
        · exact absurd e c0
        · exact e
        · exact absurd e ca
      rw [if_pos c2] at st
      have hx : some (zUn x 0) = some x' := hx
      cases hx
      rw [z0]
      exact sm_st hz nX ne ox rm (by omega) st
theorem sm_wt {fg : Bool} (hc : Cd D) (ihj : Sj D T nn k) (ihb : Sb D T nn k) (wt : WT T nn) (hx : gWt (gEx T k) fg as x = some x') (hb : bWt (bEx T k) g (d - 1 - 1) fg as x) (hd : 20 ≤ d) (hz : Hz T nn (cBdy v) x) (nX : wX (xw x) = false) (ne : xe x = false) (ox : okX D T x) (rm : Rm x F K d g) (hp : p + 1 < kZ D) (kp : kSt D p = 3) (k11 : fg = false → kKd D (kOp D p) = 11)
    (st : ∀ w js, pmStep D (w, p, (xf x, en, js, F), K) = pmWt D w p (xf x) en js F K fg as) : SR0 D T (xw x, p, (xf x, en, xj x, F), K) x x' p (p + 1) 10000 6000 (Out D x x' (p + 1) en F K d) := by
  have kz := hc.2.2
  have pi := PI.at7 (en := en) hz nX ox rm (show p < kZ D by omega)
  unfold gWt at hx
  obtain ⟨hb1, hb2⟩ := hb
  have st0 := st (xw x) (xj x)
  unfold pmWt at st0
  by_cases c0 : as.length = 0 ∧ fg = false
  · rw [if_pos c0] at hx
    obtain ⟨x1, hx1, h2⟩ := Option.bind_eq_some_iff.mp hx
    cases h2
    have hz1 := hz.to (c2 := cJbs 0) (show (7 : Nat) ≠ 6 by decide) trivial (show (11 : Nat) ≠ 7 by decide)
    have pz := mi_all wt k _ _ _ hx1 hz1
    obtain ⟨e1, e2⟩ := jbs_xf k 0 x hx1
    have stG : ∀ w js, pmStep D (w, p, (xf x, en, js, F), K) = pmNx D w (xf x) en js F K p (fun w js => pmGo1 en K w (p + 1) (vS (xf x) 0) js F) := fun w js => by
      rw [st w js]
      unfold pmWt
      rw [if_pos c0]
      rfl
    have q := ihb 0 (d - 1 - 1 - 1) g x x1 en F K p (fun w js => pmGo1 en K w (p + 1) (vS (xf x) 0) js F) (xw x, p, (xf x, en, xj x, F), K) hx1 (hb1 c0) hz1 nX ox (fun i hi hl => absurd hl (Nat.not_lt_zero _))
      (fun w js a1 a2 a3 a4 => ⟨(by show p < kZ D; omega), a1, a2, fun e => by
        rcases e with e | e
        · have e : kSt D p = 4 := e
          rw [kp] at e; cases e
        · exact absurd (k11 c0.2) e.2, (by have := rm.1; show F.length + nFK K ≤ 2900; omega), a3, (by have := rm.2.2; show K.length ≤ 100; omega), hz.2.1.1.1, ox.1.2.2.1, ox.1.2.2.2, a4⟩)
      stG (by omega) (rm.le (by omega) (Nat.le_refl _)) pi (stG _ _)
    obtain ⟨n, fl, m', a, bb, cc, o⟩ := q
    rcases o with ⟨f0, nX1, pi1, st1⟩ | ⟨f1, yX, os⟩
    · subst f0
      rw [if_pos rfl] at bb
      have nh1 : ¬ hlt x1 = true := fun e => by
        have e : (wX (xw x1) || xe x1) = true := e
        rw [nX1, e2, ne] at e; cases e
      have ez : zUn x1 0 = zSt x1 0 := by unfold zUn; rw [if_neg nh1]
      rw [ez]
      refine SR0.done (a.tr (pmIt.one pi1 st1)) cc.st ?_ (Or.inl ⟨rfl, nX1, e2.trans ne, ?_⟩)
      · rw [if_pos rfl]
        show n + 1 + p + 20000 * wB (xw x) + 6000 ≤ p + 1 + 10000 + 20000 * wB (xw x1)
        omega
      · show _ = (xw x1, p + 1, (vS (xf x1) 0, en, xj x1, F), K)
        rw [e1]
    · subst f1
      rw [if_neg (by decide)] at bb
      have ez : zUn x1 0 = x1 := by unfold zUn; rw [if_pos (hlt_X yX)]
      rw [ez]
      refine SR0.done a cc ?_ (Or.inr (Or.inr ⟨rfl, yX, os⟩))
      rw [if_neg (by decide)]
      omega
  rw [if_neg c0] at hx st0
  by_cases c1 : as.length ≠ 1
  · rw [if_pos c1] at hx st0
    cases hx
    exact sm_st hz nX ne ox rm (by omega) st0
  rw [if_neg c1] at hx st0
  simp only [] at hx st0
  by_cases cn : nuL (as.getD 0 []) = -1
  · rw [if_pos cn] at hx st0
    cases hx
    exact sm_st hz nX ne ox rm (by omega) st0
  rw [if_neg cn] at hx st0
  by_cases cr : nuL (as.getD 0 []) < 1 ∨ nI (xj x).length < nuL (as.getD 0 [])
  · rw [if_pos cr] at hx st0
    cases hx
    exact sm_st hz nX ne ox rm (by omega) st0
  rw [if_neg cr] at hx st0
  have lt := wt_lt cn cr
  by_cases cz : (jbAt x ((nuL (as.getD 0 [])).toNatClampNeg - 1)).1 ≠ 0
  · rw [if_pos cz] at hx
    have cz' : (pmJb (xj x) (xf x) ((nuL (as.getD 0 [])).toNatClampNeg - 1)).1 ≠ 0 := cz
    rw [if_pos cz'] at st0
    cases hx
    exact sm_st hz nX ne ox rm (by omega) st0
  rw [if_neg cz] at hx
  have cz' : ¬ (pmJb (xj x) (xf x) ((nuL (as.getD 0 [])).toNatClampNeg - 1)).1 ≠ 0 := cz
  rw [if_neg cz'] at st0
  obtain ⟨x1, hx1, h2⟩ := Option.bind_eq_some_iff.mp hx
  cases h2
  have hz1 := hz.to (c2 := cJob ((nuL (as.getD 0 [])).toNatClampNeg - 1) (if fg = true then (if fG (xf x) = true then 1 else 0) else 1)) (show (7 : Nat) ≠ 6 by decide) ⟨lt, Decidable.byContradiction cz⟩ (show (12 : Nat) ≠ 7 by decide)
  obtain ⟨e1, e2⟩ := job_xf hx1
  have q := ihj ((nuL (as.getD 0 [])).toNatClampNeg - 1) (if fg = true then (if fG (xf x) = true then 1 else 0) else 1) (d - 1 - 1 - 1) g x x1 en F K (p + 1) 2 hx1 (hb2 c0 (Decidable.byContradiction c1) cn cr (Decidable.byContradiction cz)) hz1 nX ox (Or.inl rfl) (by omega) (rm.le (by omega) (Nat.le_refl _))
  have bg : decide ((if fg = true then (if fG (xf x) = true then (1 : Int32) else 0) else 1) = 1) = (if fg then fG (xf x) else true) := by
    cases fg
    · rfl
    · cases fG (xf x) <;> rfl
  rw [bg] at q
  obtain ⟨n, fl, m', a, bb, cc, o⟩ := q
  have a := pmIt.step pi st0 a
  rcases o with ⟨f0, nX1, em⟩ | ⟨f1, yX, os⟩
  · subst f0
    rw [if_pos rfl] at bb
    rw [if_pos rfl] at em
    have nh1 : ¬ hlt x1 = true := fun e => by
      have e : (wX (xw x1) || xe x1) = true := e
      rw [nX1, e2, ne] at e; cases e
    unfold zUn
    rw [if_neg nh1]
    refine SR0.done a cc.st ?_ (Or.inl ⟨rfl, nX1, e2.trans ne, ?_⟩)
    · rw [if_pos rfl]
      show n + 1 + p + 20000 * wB (xw x) + 6000 ≤ p + 1 + 10000 + 20000 * wB (xw x1)
      omega
    · show m' = (xw x1, p + 1, (vS (xf x1) _, en, xj x1, F), K)
      rw [em, e1]
  · subst f1
    rw [if_neg (by decide)] at bb
    unfold zUn
    rw [if_pos (hlt_X yX)]
    refine SR0.done a cc ?_ (Or.inr (Or.inr ⟨rfl, yX, os⟩))
    rw [if_neg (by decide)]
    omega
end MXPH
