/-! EVERY RUN ENDS: loops, calls, ends, jobs; all tasks -/
section MXTE
variable {T : spT} {n : Nat} {dp : Int32 → Nat} {w w1 w2 : spW} {f f1 : spF} {v v1 l r : Int32} {x x1 x2 x' y : spX} {c c1 c2 : spC} {k d g q q2 j : Nat} {as : List spL}
theorem hlt_n (h : ¬ hlt x = true) : hlt x = false := by
  cases e : hlt x with
  | false => rfl
  | true => exact absurd e h
theorem tt_whl (ih : Tot T n dp k) (wt : WT T n) (wd : WD T n dp) (hz : Hz T n (cWhl v l) x) (iv : Iv dp q x) (ip : Ip dp q (cWhl v l) x) (nX : wX (xw x) = false) (hk : Fu (cWhl v l) x q < k + 1) (hd : Dn (cWhl v l) x q ≤ d) (hg : 90 ≤ g + q) : Rs T dp (k + 1) (cWhl v l) x q d g := by
  have h20 := Dn20 hd
  have hd' : 24 + pU x + rkE q ≤ d := hd
  have ip' : q ≤ 18 * fN (xf x) + 3 * dp v + 2 := ip
  obtain ⟨⟨i, e1, e2, e3⟩, hl⟩ : isK T n (· = 7) v ∧ stat l := hz.1
  have i3 : i < 3000 := Nat.lt_of_lt_of_le e2 wt.1
  obtain ⟨-, -, -, -, -, -, -, w7, -⟩ := wt.2 i v e1 e2
  obtain ⟨-, -, -, -, -, -, -, D7⟩ := wd i v e1 e2
  obtain ⟨wA, wB'⟩ := w7 e3
  obtain ⟨dA, dB⟩ := D7 e3
  by_cases ch : hlt x = true
  · exact st_whl h20 ch iv
  have gW : gEx T (k + 1) (cWhl v l) x = (if fS (xf x) ≠ 0 then some (zSt x l) else
      (gEx T k (cScr (tB T v)) x).bind fun x1 => if hlt x1 = true then some x1 else (gEx T k (cCh (tA T v)) x1).bind fun x2 => gEx T k (cWhl v (fS (xf x1))) x2) := by
    show gWhl T (gEx T k) v l x = _
    unfold gWhl
    rw [if_neg ch]
  by_cases cs : fS (xf x) ≠ 0
  · refine ⟨zSt x l, ?_, bst (B := fun _ _ => True) ⟨h20, Or.inr (Or.inl cs)⟩, iv.st, rfl⟩
    rw [gW, if_pos cs]
  rw [if_neg cs] at gW
  have hz1 := hz.to (c2 := cScr (tB T v)) (show (8 : Nat) ≠ 6 by decide) (Or.inr wB'.is) (show (0 : Nat) ≠ 7 by decide)
  obtain ⟨x1, h1, h2, h3, h4⟩ := ih (cScr (tB T v)) x q (d - 1) g hz1 iv (Or.inr (by omega)) nX (fu_le hk (Nat.le_refl _) (lop_nx e1 e2 wt.1 (Or.inr wB') (by omega) (by omega))) (by show 23 + pU x + rkE q ≤ d - 1; omega) hg
  have pz1 := mi_all wt k _ _ _ h1 hz1
  by_cases c1 : hlt x1 = true
  · refine ⟨x1, ?_, bst (B := fun _ _ => True) ⟨h20, Or.inr (Or.inr ⟨h2, fun z hz2 hh => ?_⟩)⟩, h3, h4⟩
    · rw [gW, h1]
      show (if hlt x1 = true then _ else _) = _
      rw [if_pos c1]
    · rw [h1] at hz2
      cases hz2
      rw [c1] at hh; cases hh
  have c1f := hlt_n c1
  have eN : fN (xf x1) = fN (xf x) := pz1.2.2.1 (show (0 : Nat) ≠ 10 by decide)
  have pl1 := pU_le pz1.2.1 eN
  have hz2 := pz1.hz (c2 := cCh (tA T v)) wA.is (show (2 : Nat) ≠ 7 by decide) (show (2 : Nat) ≠ 6 by decide)
  obtain ⟨x2, g1, g2, g3, g4⟩ := ih (cCh (tA T v)) x1 q (d - 1) g hz2 h3 (show q ≤ 18 * fN (xf x1) + 3 * dp (tA T v) + 1 by rw [eN]; omega) (hlt_f c1f).1 (fu_le hk (Nat.add_le_add_right pl1 _) (lop_nx e1 e2 wt.1 (Or.inr wA) (by omega) (by omega))) (by show 22 + pU x1 + rkE q ≤ d - 1; omega) hg
  have pz2 := mi_all wt k _ _ _ g1 hz2
  have eN2 : fN (xf x2) = fN (xf x) := (pz2.2.2.1 (show (2 : Nat) ≠ 10 by decide)).trans eN
  have three : Rs T dp k (cWhl v (fS (xf x1))) x2 q d g := by
    by_cases c2 : hlt x2 = true
    · obtain ⟨k, rfl⟩ : ∃ k', k = k' + 1 := ⟨k - 1, by unfold Fu lop at hk; simp only [] at hk; have := (lopV_le (t := 14) (v := v)).1; omega⟩
      exact st_whl h20 c2 g3
    · have c2f := hlt_n c2
      have up := ch_up wt wd g1 hz2 c2f
      have b3 := (pz2.2.2.2 (hlt_f c2f).1).1
      have up0 := pz1.2.1.2.2.1
      have pl : pU x2 + 5 ≤ pU x := by
        unfold pU
        rw [eN2]
        omega
      exact ih (cWhl v (fS (xf x1))) x2 q d g (pz2.hz (c2 := cWhl v (fS (xf x1))) ⟨⟨i, e1, e2, e3⟩, pz1.1.1.1⟩ (show (8 : Nat) ≠ 7 by decide) (show (8 : Nat) ≠ 6 by decide)) g3 (show q ≤ 18 * fN (xf x2) + 3 * dp v + 2 by rw [eN2]; omega) (hlt_f c2f).1 (fu_lt (b := pU x2 + rkE q) hk (Nat.le_refl _) (by omega)) (by show 24 + pU x2 + rkE q ≤ d; omega) hg
  obtain ⟨x3, k1, k2, k3, k4⟩ := three
  refine ⟨x3, ?_, bst (B := fun _ _ => True) ⟨h20, Or.inr (Or.inr ⟨h2, fun z hz3 _ => ?_⟩)⟩, k3, k4.trans (g4.trans h4)⟩
  · rw [gW, h1]
    show (if hlt x1 = true then _ else _) = _
    rw [if_neg c1, g1]
    exact k1
  · rw [h1] at hz3
    cases hz3
    refine ⟨g2, fun z hz4 => ?_⟩
    rw [g1] at hz4
    cases hz4
    exact k2
theorem tt_cal (ih : Tot T n dp k) (wt : WT T n) (hz : Hz T n (cCal v) x) (iv : Iv dp q x) (ip : Ip dp q (cCal v) x) (nX : wX (xw x) = false) (hk : Fu (cCal v) x q < k + 1) (hd : Dn (cCal v) x q ≤ d) (hg : 90 ≤ g + q) : Rs T dp (k + 1) (cCal v) x q d g := by
  have h20 := Dn20 hd
  have hd' : 21 + pU x + rkE q ≤ d := hd
  have ip' : q ≤ 18 * fN (xf x) + 17 := ip
  have N4 := iv.2.1
  by_cases c4 : fN (xf x) = 4
  · refine ⟨zSt x 126, ?_, bst (B := fun _ _ => True) ⟨h20, Or.inl c4⟩, iv.st, rfl⟩
    show gCal (gEx T k) v x = _
    unfold gCal
    rw [if_pos c4]
  have pl : pU (zf x (vN (xf x) (fN (xf x) + 1))) + 3 = pU x := by
    show 5 * (300 - wB (xw x)) + 3 * (4 - (fN (xf x) + 1)) + 3 = 5 * (300 - wB (xw x)) + 3 * (4 - fN (xf x))
    omega
  have hz0 : Hz T n (cScr v) (zf x (vN (xf x) (fN (xf x) + 1))) := ⟨Or.inr hz.1, hz.2.1, fun e => hz.w0 (show (9 : Nat) ≠ 6 by decide) e⟩
  have iv0 : Iv dp q (zf x (vN (xf x) (fN (xf x) + 1))) := ⟨iv.1.fh rfl, by show fN (xf x) + 1 ≤ 4; omega, iv.2.2⟩
  obtain ⟨x1, h1, h2, h3, h4⟩ := ih (cScr v) (zf x (vN (xf x) (fN (xf x) + 1))) q (d - 1) g hz0 iv0 (Or.inr (show q ≤ 18 * (fN (xf x) + 1) + 3 * dp v by omega)) nX (fu_lt (b := pU (zf x (vN (xf x) (fN (xf x) + 1))) + rkE q) hk (Nat.le_refl _) (by omega)) (by show 23 + pU (zf x (vN (xf x) (fN (xf x) + 1))) + rkE q ≤ d - 1; omega) hg
  refine ⟨zf x1 (vN (xf x1) (fN (xf x1) - 1)), ?_, bst (B := fun _ _ => True) ⟨h20, Or.inr h2⟩, ⟨h3.1.fh rfl, ?_, h3.2.2⟩, h4⟩
  · show gCal (gEx T k) v x = _
    unfold gCal
    rw [if_neg c4, h1]
    rfl
  · show fN (xf x1) - 1 ≤ 4
    have := h3.2.1
    omega
theorem tt_jbs (ih : Tot T n dp k) (wt : WT T n) (hz : Hz T n (cJbs j) x) (iv : Iv dp q x) (nX : wX (xw x) = false) (hk : Fu (cJbs j) x q < k + 1) (hd : Dn (cJbs j) x q ≤ d) (hg : 90 ≤ g + q) : Rs T dp (k + 1) (cJbs j) x q d g := by
  have h20 := Dn20 hd
  have hd' : 21 + pU x + rkE q ≤ d := hd
  have nX' : ¬ wX (xw x) = true := by rw [nX]; decide
  have l8 := iv.2.2.1
  by_cases cj : (xj x).length ≤ j
  · refine ⟨x, ?_, bst (B := fun _ _ => True) ⟨h20, Or.inl cj⟩, iv, rfl⟩
    show gJbs (gEx T k) j x = _
    unfold gJbs
    rw [if_pos (Or.inl cj)]
  have gJ : gEx T (k + 1) (cJbs j) x = (if (jbAt x j).1 = 0 then gEx T k (cJob j 1) x else some x).bind fun x1 => gEx T k (cJbs (j + 1)) x1 := by
    show gJbs (gEx T k) j x = _
    unfold gJbs
    rw [if_neg (fun e => e.elim cj nX')]
  have one : ∃ x1, (if (jbAt x j).1 = 0 then gEx T k (cJob j 1) x else some x) = some x1 ∧ ((jbAt x j).1 = 0 → bEx T k (d - 1) g (cJob j 1) x) ∧ Iv dp q x1 ∧ fB (xf x1) = fB (xf x) ∧ Pz T n (cJbs j) x x1 := by
    by_cases c0 : (jbAt x j).1 = 0
    · have hz1 := hz.to (c2 := cJob j 1) (show (11 : Nat) ≠ 6 by decide) ⟨by omega, c0⟩ (show (12 : Nat) ≠ 7 by decide)
      obtain ⟨x1, h1, h2, h3, h4⟩ := ih (cJob j 1) x q (d - 1) g hz1 iv trivial nX (fu_le hk (Nat.le_refl _) (by show 1 < 2 + (9 - j); omega)) (by show 20 + pU x + rkE q ≤ d - 1; omega) hg
      rw [if_pos c0]
      exact ⟨x1, h1, fun _ => h2, h3, h4, (mi_all wt k _ _ _ h1 hz1).cc (show (12 : Nat) ≠ 10 by decide)⟩
    · rw [if_neg c0]
      exact ⟨x, rfl, fun e => absurd e c0, iv, rfl, hz.2.1, Le.rf, fun _ => rfl, fun e => hz.w0 (show (11 : Nat) ≠ 6 by decide) e⟩
  obtain ⟨x1, h1, h2, h3, h4, pz⟩ := one
  have two : Rs T dp k (cJbs (j + 1)) x1 q d g := by
    rcases hX_cases x1 with cX | cX
    · obtain ⟨k, rfl⟩ : ∃ k', k = k' + 1 := ⟨k - 1, by unfold Fu lop at hk; simp only [] at hk; omega⟩
      exact st_jbs h20 cX h3
    · have eN : fN (xf x1) = fN (xf x) := pz.2.2.1 (show (11 : Nat) ≠ 10 by decide)
      have pl := pU_le pz.2.1 eN
      exact ih (cJbs (j + 1)) x1 q d g (pz.hz (c2 := cJbs (j + 1)) trivial (show (11 : Nat) ≠ 7 by decide) (show (11 : Nat) ≠ 6 by decide)) h3 trivial cX (fu_le hk (Nat.add_le_add_right pl _) (by show 2 + (9 - (j + 1)) < 2 + (9 - j); omega)) (by show 21 + pU x1 + rkE q ≤ d; omega) hg
  obtain ⟨x2, g1, g2, g3, g4⟩ := two
  refine ⟨x2, ?_, bst (B := fun _ _ => True) ⟨h20, Or.inr (Or.inr ⟨h2, fun z hz3 => ?_⟩)⟩, g3, g4.trans h4⟩
  · rw [gJ, h1]
    exact g1
  · rw [h1] at hz3
    cases hz3
    exact g2
theorem Iv.job (h : Iv dp q x) {st c : Int32} {m : Nat} (hm : m ≠ 0) : Iv dp q (zJob x j c st m) := by
  refine ⟨h.1, h.2.1, ?_, fun e he e0 => ?_⟩
  · show ((xj x).set j _).length ≤ 8
    rw [List.length_set]; exact h.2.2.1
  · have he : e ∈ (xj x).set j (m, st, c, (jbAt x j).2.2.2) := he
    rcases List.mem_or_eq_of_mem_set he with g | g
    · exact h.2.2.2 e g e0
    · rw [g] at e0
      exact absurd e0 hm
theorem tt_job {b : Int32} (ih : Tot T n dp k) (wt : WT T n) (wd : WD T n dp) (hz : Hz T n (cJob j b) x) (iv : Iv dp q x) (nX : wX (xw x) = false) (hk : Fu (cJob j b) x q < k + 1) (hd : Dn (cJob j b) x q ≤ d) (hg : 90 ≤ g + q) : Rs T dp (k + 1) (cJob j b) x q d g := by
  have h20 := Dn20 hd
  have hd' : 20 + pU x + rkE q ≤ d := hd
  obtain ⟨hj, h0⟩ : j < (xj x).length ∧ (jbAt x j).1 = 0 := hz.1
  have hm : jbAt x j ∈ xj x := by unfold jbAt; rw [gd_at hj]; exact List.getElem_mem _
  obtain ⟨-, -, okc, okf⟩ := hz.2.1.2 _ hm
  obtain ⟨hvj, N4, eBN, qle⟩ := iv.2.2.2 _ hm h0
  have d5 : dp (jbAt x j).2.2.1 ≤ 5 := by
    obtain ⟨i, e1, e2, -⟩ := okc
    exact (wd i _ e1 e2).1
  have kj := rkC_job (m := fN (jbAt x j).2.2.2) (a := dp (jbAt x j).2.2.1) d5
  have hC := rkE_drop (a := q) (b := 18 * fN (jbAt x j).2.2.2 + 3 * dp (jbAt x j).2.2.1 + 1) (by omega) (by omega)
  rw [kj] at hC
  generalize eq' : 18 * fN (jbAt x j).2.2.2 + 3 * dp (jbAt x j).2.2.1 + 1 = q' at hC
  have hz0 : Hz T n (cCh (jbAt x j).2.2.1) (xw x, vG (jbAt x j).2.2.2 (decide (b = 1)), false, []) := ⟨okc, ⟨okf, fun q hq => absurd hq List.not_mem_nil⟩, fun e => hz.w0 (show (12 : Nat) ≠ 6 by decide) e⟩
  have pu0 : pU ((xw x, vG (jbAt x j).2.2.2 (decide (b = 1)), false, []) : spX) + 3 + rkE q' ≤ pU x + rkE q := by
    show 5 * (300 - wB (xw x)) + 3 * (4 - fN (jbAt x j).2.2.2) + 3 + rkE q' ≤ 5 * (300 - wB (xw x)) + 3 * (4 - fN (xf x)) + rkE q
    omega
  have hg' : 90 ≤ (g - 1) + q' := by omega
  have g1 : 1 ≤ g := by omega
  obtain ⟨y1, h1, h2, h3, h4⟩ := ih (cCh (jbAt x j).2.2.1) (xw x, vG (jbAt x j).2.2.2 (decide (b = 1)), false, []) q' (d - 1) (g - 1) hz0 ⟨hvj.fh rfl, N4, Nat.zero_le _, fun e he => absurd he List.not_mem_nil⟩ (show q' ≤ 18 * fN (jbAt x j).2.2.2 + 3 * dp (jbAt x j).2.2.1 + 1 by omega) nX (fu_lt (b := pU ((xw x, vG (jbAt x j).2.2.2 (decide (b = 1)), false, []) : spX) + rkE q') hk (Nat.le_refl _) (by omega)) (by show 22 + pU ((xw x, vG (jbAt x j).2.2.2 (decide (b = 1)), false, []) : spX) + rkE q' ≤ d - 1; omega) hg'
  have pz1 := mi_all wt k _ _ _ h1 hz0
  have l1 : Le (xw x) (xw y1) := pz1.2.1
  have gJ : gEx T (k + 1) (cJob j b) x = (gEx T k (cCh (jbAt x j).2.2.1) (xw x, vG (jbAt x j).2.2.2 (decide (b = 1)), false, [])).bind fun y1 =>
      (if wX (xw y1) = true then some y1 else gEx T k cFin y1).bind fun y2 =>
      some (if wX (xw y2) = true then (xw y2, (zJob x j (jbAt x j).2.2.1 (jbAt x j).2.1 2).2) else zJob (xw y2, (zJob x j (jbAt x j).2.2.1 (jbAt x j).2.1 2).2) j (jbAt x j).2.2.1 (fS (xf y2)) 1) := rfl
  have ivr : ∀ y2 : spX, Le (xw x) (xw y2) → Iv dp q (if wX (xw y2) = true then (xw y2, (zJob x j (jbAt x j).2.2.1 (jbAt x j).2.1 2).2) else zJob (xw y2, (zJob x j (jbAt x j).2.2.1 (jbAt x j).2.1 2).2) j (jbAt x j).2.2.1 (fS (xf y2)) 1) ∧ fB (xf (if wX (xw y2) = true then (xw y2, (zJob x j (jbAt x j).2.2.1 (jbAt x j).2.1 2).2) else zJob (xw y2, (zJob x j (jbAt x j).2.2.1 (jbAt x j).2.1 2).2) j (jbAt x j).2.2.1 (fS (xf y2)) 1)) = fB (xf x) := by
    intro y2 le
    have i2 : Iv dp q (zJob x j (jbAt x j).2.2.1 (jbAt x j).2.1 2) := iv.job (by decide)
    have i3 : Iv dp q (xw y2, (zJob x j (jbAt x j).2.2.1 (jbAt x j).2.1 2).2) := i2.le le
    split
    · exact ⟨i3, rfl⟩
    · exact ⟨i3.job (by decide), rfl⟩
  rcases hX_cases y1 with cX | cX
  · obtain ⟨i2, f2⟩ := ivr y1 l1
    refine ⟨_, ?_, bst (B := fun _ _ => True) ⟨h20, g1, h2, fun z hz1 e => ?_⟩, i2, f2⟩
    · rw [gJ, h1]
      show (if wX (xw y1) = true then some y1 else _).bind _ = _
      rw [if_pos cX]
      rfl
    · rw [h1] at hz1
      cases hz1
      rw [cX] at e; cases e
  · have nX1 : ¬ wX (xw y1) = true := by rw [cX]; decide
    have eN : fN (xf y1) = fN (jbAt x j).2.2.2 := pz1.2.2.1 (show (2 : Nat) ≠ 10 by decide)
    have eB : fB (xf y1) = fN (jbAt x j).2.2.2 := h4.trans eBN
    have pu1 : pU y1 ≤ pU ((xw x, vG (jbAt x j).2.2.2 (decide (b = 1)), false, []) : spX) := pU_le l1 eN
    have hz1 := pz1.hz (c2 := cFin) trivial (show (10 : Nat) ≠ 7 by decide) (show (10 : Nat) ≠ 6 by decide)
    obtain ⟨y2, h5, h6, h7, h8⟩ := ih cFin y1 q' (d - 1) (g - 1) hz1 h3 ⟨by rw [eN, eB], by rw [eN]; omega⟩ cX (fu_lt (b := pU y1 + rkE q') hk (Nat.le_refl _) (by omega)) (by show 22 + pU y1 + rkE q' ≤ d - 1; omega) hg'
    have pz2 := mi_all wt k _ _ _ h5 hz1
    obtain ⟨i2, f2⟩ := ivr y2 (l1.tr pz2.2.1)
    refine ⟨_, ?_, bst (B := fun _ _ => True) ⟨h20, g1, h2, fun z hz3 e => ?_⟩, i2, f2⟩
    · rw [gJ, h1]
      show (if wX (xw y1) = true then some y1 else gEx T k cFin y1).bind _ = _
      rw [if_neg nX1, h5]
      rfl
    · rw [h1] at hz3
      cases hz3
      exact h6
theorem tt_fin (ih : Tot T n dp k) (wt : WT T n) (hz : Hz T n cFin x) (iv : Iv dp q x) (ip : Ip dp q cFin x) (nX : wX (xw x) = false) (hk : Fu cFin x q < k + 1) (hd : Dn cFin x q ≤ d) (hg : 90 ≤ g + q) : Rs T dp (k + 1) cFin x q d g := by
  have h20 := Dn20 hd
  have hd' : 22 + pU x + rkE q ≤ d := hd
  obtain ⟨eNB, ip'⟩ : fN (xf x) = fB (xf x) ∧ q ≤ 18 * fN (xf x) + 17 := ip
  have w0 := hz.w0 (show (10 : Nat) ≠ 6 by decide)
  have base : ∀ y : spX, Iv dp q y → fB (xf y) = fB (xf x) → Iv dp q (zBase y) := fun y i e => ⟨i.1.fh rfl, by show fB (xf y) ≤ 4; rw [e, ← eNB]; exact iv.2.1, i.2.2⟩
  have jbs : ∀ y : spX, Iv dp q y → fB (xf y) = fB (xf x) → Le (xw x) (xw y) → okS T n y.2 → (wX (xw y) = false → okW (xw y) 0 0) → wX (xw y) = false → ∃ x', gEx T k (cJbs 0) (zBase y) = some x' ∧ bEx T k (d - 1) g (cJbs 0) (zBase y) ∧ Iv dp q x' ∧ fB (xf x') = fB (xf x) := by
    intro y i e le ok hw nY
    have pl : pU (zBase y) ≤ pU x := pU_le (x1 := zBase y) le (by show fB (xf y) = fN (xf x); rw [e, eNB])
    obtain ⟨x', a1, a2, a3, a4⟩ := ih (cJbs 0) (zBase y) q (d - 1) g ⟨trivial, ok, fun e => hw e⟩ (base y i e) trivial nY (fu_le hk (Nat.add_le_add_right pl _) (by show 11 < 12; omega)) (by show 21 + pU (zBase y) + rkE q ≤ d - 1; omega) hg
    exact ⟨x', a1, a2, a3, a4.trans e⟩
  have gF : gEx T (k + 1) cFin x = gFin (gEx T k) x := rfl
  unfold gFin at gF
  simp only [] at gF
  by_cases ca : 0 < fA (xf x) 3
  · have ca' : 0 < fA (xf (zBase x)) 3 := ca
    rw [if_pos ca'] at gF
    have iv1 : Iv dp q (zf (zBase x) (vA (xf (zBase x)) (fup (fA (xf (zBase x))) 3 0))) := (base x iv rfl).fh (e := false) rfl rfl
    have hz1 : ∀ i, tbF (fU (xf x)) (fA (xf x) 3) = some i → Hz T n (cCal ((fU (xf x)).getD i (0, 0)).2) (zf (zBase x) (vA (xf (zBase x)) (fup (fA (xf (zBase x))) 3 0))) := fun i hi => ⟨hz.2.1.1.2 _ (tb_mem hi), hz.2.1, fun e => w0 e⟩
    have pl1 : pU (zf (zBase x) (vA (xf (zBase x)) (fup (fA (xf (zBase x))) 3 0))) = pU x := by
      show 5 * (300 - wB (xw x)) + 3 * (4 - fB (xf x)) = 5 * (300 - wB (xw x)) + 3 * (4 - fN (xf x))
      rw [eNB]
    have cal : ∀ i, tbF (fU (xf x)) (fA (xf x) 3) = some i → Rs T dp k (cCal ((fU (xf x)).getD i (0, 0)).2) (zf (zBase x) (vA (xf (zBase x)) (fup (fA (xf (zBase x))) 3 0))) q (d - 1) g := fun i hi =>
      ih (cCal _) _ q (d - 1) g (hz1 i hi) iv1 (show q ≤ 18 * fB (xf x) + 17 by rw [← eNB]; exact ip') nX (fu_le hk (by rw [pl1]; exact Nat.le_refl _) (by show 0 < 12; omega)) (by show 21 + pU (zf (zBase x) (vA (xf (zBase x)) (fup (fA (xf (zBase x))) 3 0))) + rkE q ≤ d - 1; rw [pl1]; omega) hg
    have two : ∃ x2, (match tbF (fU (xf x)) (fA (xf x) 3) with
        | none => some (zf (zBase x) (vA (xf (zBase x)) (fup (fA (xf (zBase x))) 3 0)))
        | some i => gEx T k (cCal ((fU (xf x)).getD i (0, 0)).2) (zf (zBase x) (vA (xf (zBase x)) (fup (fA (xf (zBase x))) 3 0)))) = some x2 ∧
        Iv dp q x2 ∧ fB (xf x2) = fB (xf x) ∧ Le (xw x) (xw x2) ∧ okS T n x2.2 ∧ (wX (xw x2) = false → okW (xw x2) 0 0) := by
      cases et : tbF (fU (xf x)) (fA (xf x) 3) with
      | none => exact ⟨_, rfl, iv1, rfl, Le.rf, hz.2.1, w0⟩
      | some i =>
        obtain ⟨x2, a1, a2, a3, a4⟩ := cal i et
        have pz := mi_all wt k _ _ _ a1 (hz1 i et)
        exact ⟨x2, a1, a3, a4, pz.2.1, pz.1, pz.2.2.2⟩
    obtain ⟨x2, a1, a2, a3, a4, a5, a6⟩ := two
    have gF2 : gEx T (k + 1) cFin x = if wX (xw x2) = true then some x2 else gEx T k (cJbs 0) (zBase (if xe x2 = true then x2 else zSt x2 (fS (xf x)))) := by
      rw [gF]
      show (match tbF (fU (xf x)) (fA (xf x) 3) with
        | none => some (zf (zBase x) (vA (xf (zBase x)) (fup (fA (xf (zBase x))) 3 0)))
        | some i => gEx T k (cCal ((fU (xf x)).getD i (0, 0)).2) (zf (zBase x) (vA (xf (zBase x)) (fup (fA (xf (zBase x))) 3 0)))).bind _ = _
      rw [a1]
      rfl
    have b1 : ∀ i, tbF (fU (xf x)) (fA (xf x) 3) = some i → bEx T k (d - 1) g (cCal ((fU (xf x)).getD i (0, 0)).2) (zf (zBase x) (vA (xf (zBase x)) (fup (fA (xf (zBase x))) 3 0))) := fun i hi => by
      obtain ⟨y, -, z2, -⟩ := cal i hi
      exact z2
    rcases hX_cases x2 with cX | cX
    · rw [if_pos cX] at gF2
      refine ⟨x2, gF2, bst (B := fun _ _ => True) ⟨h20, fun _ => ⟨b1, fun z hz2 e => ?_⟩, fun e => absurd ca e⟩, a2, a3⟩
      have e9 : some x2 = some z := a1.symm.trans hz2
      cases e9
      rw [cX] at e; cases e
    · rw [if_neg (by rw [cX]; decide)] at gF2
      have i2 : Iv dp q (if xe x2 = true then x2 else zSt x2 (fS (xf x))) := by
        split
        · exact a2
        · exact a2.st
      have o2 : okS T n (if xe x2 = true then x2 else zSt x2 (fS (xf x))).2 := by
        split
        · exact a5
        · exact ⟨⟨hz.2.1.1.1, a5.1.2⟩, a5.2⟩
      have e2 : xw (if xe x2 = true then x2 else zSt x2 (fS (xf x))) = xw x2 := by split <;> rfl
      have e3 : fB (xf (if xe x2 = true then x2 else zSt x2 (fS (xf x)))) = fB (xf x) := by split <;> exact a3
      obtain ⟨x3, z1, z2, z3, z4⟩ := jbs (if xe x2 = true then x2 else zSt x2 (fS (xf x))) i2 e3 (by rw [e2]; exact a4) o2 (by rw [e2]; exact a6) (by rw [e2]; exact cX)
      refine ⟨x3, gF2.trans z1, bst (B := fun _ _ => True) ⟨h20, fun _ => ⟨b1, fun z hz2 _ => ?_⟩, fun e => absurd ca e⟩, z3, z4⟩
      have e9 : some x2 = some z := a1.symm.trans hz2
      cases e9
      exact z2
  · have ca' : ¬ 0 < fA (xf (zBase x)) 3 := ca
    rw [if_neg ca'] at gF
    obtain ⟨x3, z1, z2, z3, z4⟩ := jbs x iv rfl Le.rf hz.2.1 w0 nX
    exact ⟨x3, gF.trans z1, bst (B := fun _ _ => True) ⟨h20, fun e => absurd e ca, fun _ => z2⟩, z3, z4⟩
theorem tt_all (wt : WT T n) (wd : WD T n dp) : ∀ k, Tot T n dp k := by
  intro k
  induction k with
  | zero => exact fun c x q d g _ _ _ _ hk _ _ _ => absurd hk (Nat.not_lt_zero _)
  | succ k ih =>
    rintro ⟨t, v, l, r, p⟩ x q d g hz iv ip nX hk hd hg hc
    match t, p, hz, ip, hk, hd, hc with
    | 0, p, hz, ip, hk, hd, hc => cases hc; exact tt_scr (@ih) wt wd hz iv ip nX hk hd hg
    | 1, p, hz, ip, hk, hd, hc => cases hc; exact tt_chs (@ih) wt wd hz iv ip nX hk hd hg
    | 2, p, hz, ip, hk, hd, hc => cases hc; exact tt_ch (@ih) wt wd hz iv ip nX hk hd hg
    | 3, p, hz, ip, hk, hd, hc => cases hc; exact tt_pps (@ih) wt wd hz iv ip nX hk hd hg
    | 4, p, hz, ip, hk, hd, hc => cases hc; exact tt_pp (@ih) wt wd hz iv ip nX hk hd hg
    | 5, p, hz, ip, hk, hd, hc => exact tt_sev (@ih) wt wd hz iv ip nX hk hd hg
    | 6, p, hz, ip, hk, hd, hc => cases hc; exact tt_cmd (@ih) wt wd hz iv ip nX hk hd hg
    | 7, p, hz, ip, hk, hd, hc => cases hc; exact tt_bdy (@ih) wt wd hz iv ip nX hk hd hg
    | 8, p, hz, ip, hk, hd, hc => cases hc; exact tt_whl (@ih) wt wd hz iv ip nX hk hd hg
    | 9, p, hz, ip, hk, hd, hc => cases hc; exact tt_cal (@ih) wt hz iv ip nX hk hd hg
    | 10, p, hz, ip, hk, hd, hc => cases hc; exact tt_fin (@ih) wt hz iv ip nX hk hd hg
    | 11, none, hz, ip, hk, hd, hc => exact ip.elim
    | 11, some j, hz, ip, hk, hd, hc => cases hc; exact tt_jbs (@ih) wt hz iv nX hk hd hg
    | 12, none, hz, ip, hk, hd, hc => exact ip.elim
    | 12, some j, hz, ip, hk, hd, hc => cases hc; exact tt_job (@ih) wt wd hz iv nX hk hd hg
    | t + 13, _, hz, ip, hk, hd, hc => exact ip.elim
end MXTE
