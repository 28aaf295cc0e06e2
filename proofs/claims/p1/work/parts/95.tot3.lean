/-! EVERY RUN ENDS: commands, pipelines of several commands -/
section MXTC
variable {T : spT} {n : Nat} {dp : Int32 → Nat} {w w1 w2 : spW} {f f1 : spF} {v v1 l r : Int32} {x x1 x2 x' y : spX} {c c1 c2 : spC} {k d g q q2 j : Nat} {as : List spL}
theorem pip_N {p : Option Nat} {b : Bool} : fN (pipd w f p b).2.1 = fN f ∧ fB (pipd w f p b).2.1 = fB f ∧ wX (pipd w f p b).1 = wX w ∧ wB (pipd w f p b).1 = wB w := by
  unfold pipd
  cases p <;> cases b <;> exact ⟨rfl, rfl, rfl, rfl⟩
theorem tt_sev {p : Option Nat} (ih : Tot T n dp k) (wt : WT T n) (wd : WD T n dp) (hz : Hz T n (cSev v l r p) x) (iv : Iv dp q x) (ip : Ip dp q (cSev v l r p) x) (nX : wX (xw x) = false) (hk : Fu (cSev v l r p) x q < k + 1) (hd : Dn (cSev v l r p) x q ≤ d) (hg : 90 ≤ g + q) : Rs T dp (k + 1) (cSev v l r p) x q d g := by
  have h20 := Dn20 hd
  have nX' : ¬ wX (xw x) = true := by rw [nX]; decide
  by_cases c1 : v = -1
  · refine ⟨zSt x (if fP (xf x) = true then r else l), ?_, bst (B := fun _ _ => True) ⟨h20, Or.inl c1⟩, iv.st, rfl⟩
    show gSev T (gEx T k) v l r p x = _
    unfold gSev
    rw [if_pos (Or.inl c1), if_neg nX']
  obtain ⟨hk1, hl, hr⟩ : (v = -1 ∨ isK T n kCmd v) ∧ stat l ∧ stat r := hz.1
  obtain ⟨i, e1, e2, e3⟩ := hk1.resolve_left c1
  have i3 : i < 3000 := Nat.lt_of_lt_of_le e2 wt.1
  have nx := ((wt.2 i v e1 e2).2.2.2.1 e3).1
  have d5 := (wd i v e1 e2).1
  obtain ⟨ip1, u, hu, ha, hul⟩ : (v = -1 ∨ q ≤ 18 * fN (xf x) + 3 * dp v + 1) ∧ ∃ u, hvU (xw x) u (xf x) ∧ Ahe (xw x) u p ∧ u ≤ (wU (xw x)).length := ip
  have ip1 := ip1.resolve_left c1
  have w0 := hz.w0 (show (5 : Nat) ≠ 6 by decide) nX
  have N4 := iv.2.1
  have hC := rkE_drop (a := q) (b := 18 * fN (xf x) + 3 * dp v + 2) (by omega) (by omega)
  have hC1 : 1 ≤ rkC (18 * fN (xf x) + 3 * dp v + 2) := rkC_pos
  generalize eq' : 18 * fN (xf x) + 3 * dp v + 2 = q' at hC hC1
  obtain ⟨P1, P2, P3, P4⟩ := pip_N (w := frk (xw x)) (f := subF (xf x)) (p := p) (b := decide (tN T v = -1))
  obtain ⟨hv1, hv2⟩ := hvN.pip (w := frk (xw x)) (f := subF (xf x)) (p := p) (lst := decide (tN T v = -1)) (u := u) iv.1 hu ha w0.2.2.2.2.1 hul
  have hz0 : Hz T n (cCmd v) ((pipd (frk (xw x)) (subF (xf x)) p (decide (tN T v = -1))).1, (pipd (frk (xw x)) (subF (xf x)) p (decide (tN T v = -1))).2.1, false, []) := ⟨⟨i, e1, e2, e3⟩, ⟨okF.pip hz.2.1.1, fun q hq => absurd hq List.not_mem_nil⟩, fun _ => okW.pip w0⟩
  have lp : Le (xw x) (pipd (frk (xw x)) (subF (xf x)) p (decide (tN T v = -1))).1 := Le.pip (w := frk (xw x))
  have bS : ∀ R, R = pipd (frk (xw x)) (subF (xf x)) p (decide (tN T v = -1)) → (v = -1 ∨ wX (xw x) = true ∨ (1 ≤ g ∧ bEx T k (d - 1) (g - 1) (cCmd v) (R.1, R.2.1, false, []) ∧
      ∀ y1, gEx T k (cCmd v) (R.1, R.2.1, false, []) = some y1 → (wX (xw y1) = false → bEx T k (d - 1) (g - 1) cFin y1) ∧
      ∀ y2, (if wX (xw y1) = true then some y1 else gEx T k cFin y1) = some y2 → bEx T k d g (cSev (tN T v) (fS (xf y2)) (if fS (xf y2) = 0 then r else fS (xf y2)) R.2.2) (xw y2, x.2))) → bSev T (gEx T k) (bEx T k) d g v l r p x := fun R e h => by
    subst e
    exact h
  have gS : gEx T (k + 1) (cSev v l r p) x = (gEx T k (cCmd v) ((pipd (frk (xw x)) (subF (xf x)) p (decide (tN T v = -1))).1, (pipd (frk (xw x)) (subF (xf x)) p (decide (tN T v = -1))).2.1, false, [])).bind fun y1 =>
      (if wX (xw y1) = true then some y1 else gEx T k cFin y1).bind fun y2 =>
      gEx T k (cSev (tN T v) (fS (xf y2)) (if fS (xf y2) = 0 then r else fS (xf y2)) (pipd (frk (xw x)) (subF (xf x)) p (decide (tN T v = -1))).2.2) (xw y2, x.2) := by
    show gSev T (gEx T k) v l r p x = _
    unfold gSev
    rw [if_neg (fun e => e.elim c1 nX')]
  generalize eR : pipd (frk (xw x)) (subF (xf x)) p (decide (tN T v = -1)) = R at P1 P2 P3 P4 hv1 hv2 hz0 lp gS
  have P1 : fN R.2.1 = fN (xf x) := P1
  have P2 : fB R.2.1 = fN (xf x) := P2
  have P3 : wX R.1 = wX (xw x) := P3
  have P4 : wB R.1 = wB (xw x) := P4
  have pU0 : pU ((R.1, R.2.1, false, []) : spX) = pU x := by
    show 5 * (300 - wB R.1) + 3 * (4 - fN R.2.1) = _
    rw [P1, P4]
  unfold Dn at hd
  have hd : 20 + pU x + rkE q ≤ d := hd
  -- the next command
  have nxt : ∀ y2 : spX, Le R.1 (xw y2) → okS T n y2.2 → (wX (xw y2) = false → okW (xw y2) 0 0) → Rs T dp k (cSev (tN T v) (fS (xf y2)) (if fS (xf y2) = 0 then r else fS (xf y2)) R.2.2) (xw y2, x.2) q d g := by
    intro y2 le ok hw
    have lx : Le (xw x) (xw y2) := lp.tr le
    have iv2 := iv.le lx
    rcases hX_cases y2 with cX | cX
    · obtain ⟨k, rfl⟩ : ∃ k', k = k' + 1 := ⟨k - 1, by unfold Fu lop at hk; simp only [] at hk; have := (lopV_le (t := 15) (v := v)).1; omega⟩
      exact st_sev h20 cX iv2
    · have sx := ok.1.1
      have pl : pU ((xw y2, x.2) : spX) ≤ pU x := pU_le (x1 := (xw y2, x.2)) lx rfl
      refine ih _ (xw y2, x.2) q d g ⟨⟨nx.is, sx, by split; exact hr; exact sx⟩, hz.2.1, fun e => hw e⟩ iv2 ⟨?_, u, hu.le iv.1 lx, hv2.le le, Nat.le_trans hul lx.2.1⟩ cX (fu_le hk (by omega) (lop_nx e1 e2 wt.1 nx (by omega) (by omega))) ?_ hg
      · by_cases cn : tN T v = -1
        · exact Or.inl cn
        · have := (wd i v e1 e2).2.2.2.2.1 e3 cn
          right
          show q ≤ 18 * fN (xf x) + 3 * dp (tN T v) + 1
          omega
      · show 20 + pU ((xw y2, x.2) : spX) + rkE q ≤ d
        omega
  obtain ⟨y1, h1, h2, h3, h4⟩ := ih (cCmd v) (R.1, R.2.1, false, []) q' (d - 1) (g - 1) hz0 ⟨hv1, by show fN R.2.1 ≤ 4; omega, Nat.zero_le _, fun e he => absurd he List.not_mem_nil⟩ (by show q' ≤ 18 * fN R.2.1 + 3 * dp v + 2; omega) (by show wX R.1 = false; rw [P3]; exact nX) (fu_lt (b := pU x + rkE q') hk (by rw [pU0]; exact Nat.le_refl _) (by omega)) (by show 20 + pU ((R.1, R.2.1, false, []) : spX) + rkE q' ≤ d - 1; omega) (by omega)
  have pz1 := mi_all wt k _ _ _ h1 hz0
  have l1 : Le R.1 (xw y1) := pz1.2.1
  rcases hX_cases y1 with cX | cX
  · obtain ⟨x2, g1, g2, g3, g4⟩ := nxt y1 l1 pz1.1 pz1.2.2.2
    refine ⟨x2, ?_, bst (B := fun _ _ => True) ⟨h20, ?_⟩, g3, g4⟩
    · rw [gS, h1]
      show (if wX (xw y1) = true then some y1 else _).bind _ = _
      rw [if_pos cX]
      exact g1
    · show bSev T (gEx T k) (bEx T k) d g v l r p x
      refine bS R eR.symm (Or.inr (Or.inr ⟨by omega, h2, fun z hz1 => ?_⟩))
      rw [h1] at hz1
      cases hz1
      refine ⟨fun e => (by rw [cX] at e; cases e), fun z2 hz2 => ?_⟩
      rw [if_pos cX] at hz2
      cases hz2
      exact g2
  · have up := cmd_up wt h1 hz0 cX
    have up : wB R.1 + 1 ≤ wB (xw y1) := up
    have ok1 := pz1.2.2.2 cX
    have eN : fN (xf y1) = fN (xf x) := (pz1.2.2.1 (show (6 : Nat) ≠ 10 by decide)).trans P1
    have eB : fB (xf y1) = fN (xf x) := h4.trans P2
    have pu1 : pU y1 + 5 ≤ pU x := by
      have := ok1.1
      unfold pU
      rw [eN]
      omega
    have hz1 := pz1.hz (c2 := cFin) trivial (show (10 : Nat) ≠ 7 by decide) (show (10 : Nat) ≠ 6 by decide)
    obtain ⟨y2, h5, h6, h7, h8⟩ := ih cFin y1 q' (d - 1) (g - 1) hz1 h3 ⟨by rw [eN, eB], by rw [eN]; omega⟩ cX (fu_lt (b := pU x + rkE q') hk (by omega) (by omega)) (by show 22 + pU y1 + rkE q' ≤ d - 1; omega) (by omega)
    have pz2 := mi_all wt k _ _ _ h5 hz1
    obtain ⟨x2, g1, g2, g3, g4⟩ := nxt y2 (l1.tr pz2.2.1) pz2.1 pz2.2.2.2
    have nX1 : ¬ wX (xw y1) = true := by rw [cX]; decide
    refine ⟨x2, ?_, bst (B := fun _ _ => True) ⟨h20, ?_⟩, g3, g4⟩
    · rw [gS, h1]
      show (if wX (xw y1) = true then some y1 else gEx T k cFin y1).bind _ = _
      rw [if_neg nX1, h5]
      exact g1
    · show bSev T (gEx T k) (bEx T k) d g v l r p x
      refine bS R eR.symm (Or.inr (Or.inr ⟨by omega, h2, fun z hz1 => ?_⟩))
      rw [h1] at hz1
      cases hz1
      refine ⟨fun _ => h6, fun z2 hz2 => ?_⟩
      rw [if_neg nX1, h5] at hz2
      cases hz2
      exact g2
theorem red_fB {rr : spR} (h : redOp rr w f = some (w1, f1)) : fB f1 = fB f := by
  unfold redOp at h
  split at h
  · split at h
    · cases h
    · cases h; rfl
  · split at h
    · split at h
      · cases h
      · cases h; rfl
    · split at h
      · split at h
        · cases h
        · cases h; rfl
      · split at h
        · split at h
          · cases h
          · cases h; rfl
        · cases h; rfl
theorem reds_fB : ∀ (l : List spR) (w : spW) (f : spF), fB (redOps l w f).2.2 = fB f
  | [], w, f => rfl
  | r :: l, w, f => by
    unfold redOps
    cases e : redOp r w f with
    | none => rfl
    | some wf => exact (reds_fB l wf.1 wf.2).trans (red_fB (w1 := wf.1) (f1 := wf.2) e)
theorem cmdEnd_I {hs : spH} {b : Bool} (h : Iv dp q x) (hh : hvN (xw x) (vH (xf x) hs)) : Iv dp q (cmdEnd T v hs b x) ∧ fB (xf (cmdEnd T v hs b x)) = fB (xf x) := by
  rw [cmdEnd_eq]
  have h2 : Iv dp q (if b = true then zf x (vH (xf x) hs) else x) ∧ fB (xf (if b = true then zf x (vH (xf x) hs) else x)) = fB (xf x) := by
    split
    · exact ⟨⟨hh, h.2⟩, rfl⟩
    · exact ⟨h, rfl⟩
  generalize (if b = true then zf x (vH (xf x) hs) else x) = y at h2 ⊢
  unfold cmdE
  split
  · exact ⟨h2.1, h2.2⟩
  · exact h2
theorem tt_cmd (ih : Tot T n dp k) (wt : WT T n) (wd : WD T n dp) (hz : Hz T n (cCmd v) x) (iv : Iv dp q x) (ip : Ip dp q (cCmd v) x) (nX : wX (xw x) = false) (hk : Fu (cCmd v) x q < k + 1) (hd : Dn (cCmd v) x q ≤ d) (hg : 90 ≤ g + q) : Rs T dp (k + 1) (cCmd v) x q d g := by
  have h20 := Dn20 hd
  by_cases cB : wB (xw x) = 300
  · refine ⟨(uX (xw x) true, x.2), ?_, bst (B := fun _ _ => True) ⟨h20, Or.inl cB⟩, iv, rfl⟩
    show gCmd T (gEx T k) v x = _
    unfold gCmd
    rw [if_pos cB]
  obtain ⟨hzb, xX, xB, xM⟩ := cmd_hz hz cB
  obtain ⟨a1, a2, a3, a4⟩ := Wr.reds (T := T) (n := n) (redsOf T v) (uB (xw x) (wB (xw x) + 1)) (xf x)
  have l0 : Le (xw x) (redOps (redsOf T v) (uB (xw x) (wB (xw x) + 1)) (xf x)).2.1 := Le.tr (b := uB (xw x) (wB (xw x) + 1)) ⟨fun a q h => ⟨q.2.2, h⟩, Nat.le_refl _, by show wB (xw x) ≤ wB (xw x) + 1; omega, fun h => h⟩ a1.le
  have hv := hvN.reds (redsOf T v) (w := uB (xw x) (wB (xw x) + 1)) (f := xf x) iv.1
  have fb := reds_fB (redsOf T v) (uB (xw x) (wB (xw x) + 1)) (xf x)
  have w1 : wB (xw x) ≤ 300 := (hz.2.2 nX).1
  have gC : gEx T (k + 1) (cCmd v) x = (if (redOps (redsOf T v) (uB (xw x) (wB (xw x) + 1)) (xf x)).1 = true then gEx T k (cBdy v) (zwf x (redOps (redsOf T v) (uB (xw x) (wB (xw x) + 1)) (xf x)).2.1 (redOps (redsOf T v) (uB (xw x) (wB (xw x) + 1)) (xf x)).2.2) else some (zSt (zwf x (redOps (redsOf T v) (uB (xw x) (wB (xw x) + 1)) (xf x)).2.1 (redOps (redsOf T v) (uB (xw x) (wB (xw x) + 1)) (xf x)).2.2) 1)).bind fun x1 =>
      some (cmdEnd T v (fH (xf x)) (decide (tR T v ≠ -1) && !((redOps (redsOf T v) (uB (xw x) (wB (xw x) + 1)) (xf x)).1 && stays T v)) x1) := by
    show gCmd T (gEx T k) v x = _
    unfold gCmd
    rw [if_neg cB]
  have bC : ∀ R, R = redOps (redsOf T v) (uB (xw x) (wB (xw x) + 1)) (xf x) → (wB (xw x) = 300 ∨ (R.1 = true → bEx T k (d - 1) g (cBdy v) (zwf x R.2.1 R.2.2))) → bCmd T (bEx T k) d g v x := fun R e h => by
    subst e
    exact h
  generalize eR : redOps (redsOf T v) (uB (xw x) (wB (xw x) + 1)) (xf x) = R at hzb xX xB xM a1 a2 a3 a4 l0 hv fb gC
  have iv1 : Iv dp q (zwf x R.2.1 R.2.2) := ⟨hv, by show fN R.2.2 ≤ 4; rw [a4]; exact iv.2.1, iv.2.2.1, fun e he e0 => ⟨(iv.2.2.2 e he e0).1.le l0, (iv.2.2.2 e he e0).2⟩⟩
  have xB : wB R.2.1 = wB (xw x) + 1 := xB
  have pu : pU (zwf x R.2.1 R.2.2) + 5 = pU x := by
    show 5 * (300 - wB R.2.1) + 3 * (4 - fN R.2.2) + 5 = 5 * (300 - wB (xw x)) + 3 * (4 - fN (xf x))
    rw [a4, xB]
    omega
  have ip : q ≤ 18 * fN (xf x) + 3 * dp v + 2 := ip
  have hd : 20 + pU x + rkE q ≤ d := hd
  have fin : ∀ x1, Iv dp q x1 → Le (xw x) (xw x1) → hvN (xw x1) (vH (xf x1) (fH (xf x))) := fun x1 _ l => (iv.1.le l).fh rfl
  cases cr : R.1 with
  | true =>
    rw [cr, if_pos rfl] at gC
    obtain ⟨x1, h1, h2, h3, h4⟩ := ih (cBdy v) (zwf x R.2.1 R.2.2) q (d - 1) g hzb iv1 (by show q ≤ 18 * fN R.2.2 + 3 * dp v + 2; rw [a4]; exact ip) (by show wX R.2.1 = false; rw [xX]; exact nX) (fu_lt (b := pU (zwf x R.2.1 R.2.2) + rkE q) hk (Nat.le_refl _) (by omega)) (by show 24 + pU (zwf x R.2.1 R.2.2) + rkE q ≤ d - 1; omega) hg
    have pz := mi_all wt k _ _ _ h1 hzb
    have lx : Le (xw x) (xw x1) := l0.tr pz.2.1
    obtain ⟨i2, f2⟩ := cmdEnd_I (T := T) (v := v) (b := decide (tR T v ≠ -1) && !(true && stays T v)) h3 (fin x1 h3 lx)
    refine ⟨_, ?_, bst (B := fun _ _ => True) ⟨h20, ?_⟩, i2, f2.trans (h4.trans fb)⟩
    · rw [gC, h1]; rfl
    · show bCmd T (bEx T k) d g v x
      exact bC R eR.symm (Or.inr fun _ => h2)
  | false =>
    rw [cr, if_neg (by decide)] at gC
    have i3 : Iv dp q (zSt (zwf x R.2.1 R.2.2) 1) := iv1.st
    obtain ⟨i2, f2⟩ := cmdEnd_I (T := T) (v := v) (b := decide (tR T v ≠ -1) && !(false && stays T v)) i3 (fin _ i3 l0)
    refine ⟨_, ?_, bst (B := fun _ _ => True) ⟨h20, ?_⟩, i2, f2.trans fb⟩
    · rw [gC]; rfl
    · show bCmd T (bEx T k) d g v x
      exact bC R eR.symm (Or.inr fun e => by rw [cr] at e; cases e)
/-- a chain that did not halt has begun a command -/
theorem ch_up (wt : WT T n) (wd : WD T n dp) (h : gEx T k (cCh v) x = some x') (hz : Hz T n (cCh v) x) (hh : hlt x' = false) : wB (xw x) + 1 ≤ wB (xw x') := by
  obtain ⟨i, e1, e2, e3⟩ : isK T n (· = 2) v := hz.1
  have c0 := ((wd i v e1 e2).2.2.1 e3).2.1
  have np := ((wt.2 i v e1 e2).2.1 e3).1
  obtain ⟨p, ep, p1, p2, p3⟩ := np
  have n1 : tA T v ≠ -1 := fun e => by
    have := ((wt.2 i v e1 e2).2.1 e3).1.is.nn wt.1
    exact this e
  have nX' : wX (xw x') = false := (hlt_f hh).1
  cases k with
  | zero => cases h
  | succ k =>
  have h : gEx T k (cPps (tA T v)) x = some x' := h
  have hz1 : Hz T n (cPps (tA T v)) x := hz.to (c2 := cPps (tA T v)) (show (2 : Nat) ≠ 6 by decide) (Or.inr ⟨p, ep, p2, p3⟩) (show (3 : Nat) ≠ 7 by decide)
  cases k with
  | zero => cases h
  | succ k =>
  have h : gPps T (gEx T k) (tA T v) x = some x' := h
  unfold gPps at h
  by_cases ch : hlt x = true
  · rw [if_pos (Or.inr ch)] at h
    cases h
    rw [ch] at hh; cases hh
  · rw [if_neg (fun e => e.elim n1 ch), if_neg (fun e => by rw [c0] at e; rcases e with e | e <;> exact absurd e.1 (by decide))] at h
    obtain ⟨y, hy, h2⟩ := Option.bind_eq_some_iff.mp h
    have hz2 : Hz T n (cPp (tA T v)) x := hz1.to (c2 := cPp (tA T v)) (show (3 : Nat) ≠ 6 by decide) ⟨p, ep, p2, p3⟩ (show (4 : Nat) ≠ 7 by decide)
    have pzy := mi_all wt k _ _ _ hy hz2
    have nx := ((wt.2 p (tA T v) ep p2).2.2.1 p3).2.is
    have pz2 := mi_all wt k _ _ _ h2 (pzy.hz (c2 := cPps (tN T (tA T v))) nx (show (3 : Nat) ≠ 7 by decide) (show (3 : Nat) ≠ 6 by decide))
    have nXy : wX (xw y) = false := by
      rcases hX_cases y with c | c
      · have := pz2.2.1.2.2.2 c
        rw [nX'] at this; cases this
      · exact c
    refine Nat.le_trans ?_ pz2.2.1.2.2.1
    cases k with
    | zero => cases hy
    | succ k =>
    have hy : gPp T (gEx T k) (tA T v) x = some y := hy
    unfold gPp at hy
    obtain ⟨z, hz3, hy2⟩ := Option.bind_eq_some_iff.mp hy
    cases hy2
    have en : xw (neg1 z (decide (tB T (tA T v) = 1))) = xw z := by
      unfold neg1
      split <;> rfl
    rw [en] at nXy ⊢
    have nc := ((wt.2 p (tA T v) ep p2).2.2.1 p3).1.is
    split at hz3
    · exact cmd_up wt hz3 (hz2.to (c2 := cCmd _) (show (4 : Nat) ≠ 6 by decide) nc (show (6 : Nat) ≠ 7 by decide)) nXy
    · have hz4 : Hz T n (cSev (tA T (tA T v)) 0 0 none) x := hz2.to (c2 := cSev _ 0 0 none) (show (4 : Nat) ≠ 6 by decide) ⟨Or.inr nc, st0, st0⟩ (show (5 : Nat) ≠ 7 by decide)
      have n3 : tA T (tA T v) ≠ -1 := nc.nn wt.1
      obtain ⟨o, eo, o2, o3⟩ := nc
      cases k with
      | zero => cases hz3
      | succ k =>
      have hz3 : gSev T (gEx T k) (tA T (tA T v)) 0 0 none x = some z := hz3
      unfold gSev at hz3
      have nXx : ¬ wX (xw x) = true := fun e => ch (hlt_X e)
      rw [if_neg (fun e => e.elim n3 nXx)] at hz3
      obtain ⟨y1, hy1, h5⟩ := Option.bind_eq_some_iff.mp hz3
      obtain ⟨y2, hy2, h6⟩ := Option.bind_eq_some_iff.mp h5
      have nX0 : wX (xw x) = false := by
        rcases hX_cases x with c | c
        · exact absurd c nXx
        · exact c
      have w0 := hz4.w0 (show (5 : Nat) ≠ 6 by decide) nX0
      have hz5 : Hz T n (cCmd (tA T (tA T v))) ((pipd (frk (xw x)) (subF (xf x)) none (decide (tN T (tA T (tA T v)) = -1))).1, (pipd (frk (xw x)) (subF (xf x)) none (decide (tN T (tA T (tA T v)) = -1))).2.1, false, []) := ⟨⟨o, eo, o2, o3⟩, ⟨okF.pip hz.2.1.1, fun q hq => absurd hq List.not_mem_nil⟩, fun _ => okW.pip w0⟩
      have q1 := mi_all wt k _ _ _ hy1 hz5
      have nx2 := ((wt.2 o _ eo o2).2.2.2.1 o3).1.is
      have p2' : okS T n y2.2 ∧ Le (xw y1) (xw y2) ∧ (wX (xw y2) = false → okW (xw y2) 0 0) := by
        split at hy2
        · rename_i cx; cases hy2; exact ⟨q1.1, Le.rf, fun e => by rw [cx] at e; cases e⟩
        · have := mi_all wt k _ _ _ hy2 (q1.hz (c2 := cFin) trivial (show (10 : Nat) ≠ 7 by decide) (show (10 : Nat) ≠ 6 by decide))
          exact ⟨this.1, this.2.1, this.2.2.2⟩
      have sx := p2'.1.1.1
      have q3 := mi_all wt k _ _ _ h6 ⟨⟨nx2, sx, by split; exact st0; exact sx⟩, hz.2.1, fun e => p2'.2.2 e⟩
      have l2 : Le (xw y1) (xw z) := p2'.2.1.tr q3.2.1
      have nX1 : wX (xw y1) = false := by
        rcases hX_cases y1 with c | c
        · have := l2.2.2.2 c
          rw [nXy] at this; cases this
        · exact c
      have := cmd_up wt hy1 hz5 nX1
      have e4 : wB (pipd (frk (xw x)) (subF (xf x)) none (decide (tN T (tA T (tA T v)) = -1))).1 = wB (xw x) := pip_N.2.2.2
      have this : wB (pipd (frk (xw x)) (subF (xf x)) none (decide (tN T (tA T (tA T v)) = -1))).1 + 1 ≤ wB (xw y1) := this
      have := l2.2.2.1
      omega
end MXTC
