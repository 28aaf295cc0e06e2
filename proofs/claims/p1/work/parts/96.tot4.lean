/-! EVERY RUN ENDS: bodies, loops, calls, ends, jobs -/
section MXTD
variable {T : spT} {n : Nat} {dp : Int32 → Nat} {w w1 w2 : spW} {f f1 : spF} {v v1 l r : Int32} {x x1 x2 x' y : spX} {c c1 c2 : spC} {k d g q q2 j : Nat} {as : List spL}
/-- a function is called out of a body -/
theorem tt_fnc (ih : Tot T n dp k) (wd5 : dp v ≤ 5) (hz : Hz T n (cBdy v) x) (iv : Iv dp q x) (ip : Ip dp q (cBdy v) x) (nX : wX (xw x) = false) (hk : Fu (cBdy v) x q < k + 1) (hd : Dn (cBdy v) x q ≤ d + 3) (hg : 90 ≤ g + q) {nm : Int64} {i : Nat} (hi : tbF (fU (xf x)) nm = some i) :
    ∃ x', gEx T k (cCal ((fU (xf x)).getD i (0, 0)).2) x = some x' ∧ (∀ d', d ≤ d' → bEx T k d' g (cCal ((fU (xf x)).getD i (0, 0)).2) x) ∧ Iv dp q x' ∧ fB (xf x') = fB (xf x) := by
  have ip : q ≤ 18 * fN (xf x) + 3 * dp v + 2 := ip
  have go : ∀ d', d ≤ d' → Rs T dp k (cCal ((fU (xf x)).getD i (0, 0)).2) x q d' g := fun d' h =>
    ih (cCal _) x q d' g (hz.to (c2 := cCal _) (show (7 : Nat) ≠ 6 by decide) (hz.2.1.1.2 _ (tb_mem hi)) (show (9 : Nat) ≠ 7 by decide)) iv (show q ≤ 18 * fN (xf x) + 17 by omega) nX (fu_le hk (Nat.le_refl _) (by show 0 < lopV 14 v; have := (lopV_le (t := 14) (v := v)).1; omega)) (by unfold Dn cst at hd ⊢; simp only [] at hd ⊢; omega) hg
  obtain ⟨x', h1, -, h3, h4⟩ := go d (Nat.le_refl _)
  exact ⟨x', h1, fun d' h => by obtain ⟨y, -, g2, -⟩ := go d' h; exact g2, h3, h4⟩
theorem Iv.same (h : Iv dp q x) (e1 : xw x1 = xw x) (e2 : fH (xf x1) = fH (xf x)) (e3 : fN (xf x1) = fN (xf x)) (e4 : xj x1 = xj x) : Iv dp q x1 := by
  unfold Iv at h ⊢
  rw [e1, e3, e4]
  exact ⟨h.1.fh e2, h.2⟩
theorem wt_lt {m : Nat} (cn : nuL (as.getD 0 []) ≠ -1) (cr : ¬ (nuL (as.getD 0 []) < 1 ∨ nI m < nuL (as.getD 0 []))) : (nuL (as.getD 0 [])).toNatClampNeg - 1 < m := by
  rcases Nat.lt_or_ge ((nuL (as.getD 0 [])).toNatClampNeg - 1) m with g | g
  · exact g
  · exfalso
    rcases nuL_nI (as.getD 0 []) with q | ⟨j, j1, j2⟩
    · exact cn q
    · rw [j2, nI_clamp (by omega)] at g
      rw [j2] at cr
      have c1 : ¬ nI j < 1 := fun q => cr (Or.inl q)
      have c2 : ¬ nI m < nI j := fun q => cr (Or.inr q)
      have b1 : 1 ≤ j := by
        rcases Nat.eq_zero_or_pos j with e | e
        · subst e; exact absurd (by decide) c1
        · exact e
      by_cases bg : m < 2 ^ 31
      · exact c2 ((nI_ltI bg (by omega)).mpr (by omega))
      · omega
theorem tt_wt (ih : Tot T n dp k) (hz : Hz T n (cBdy v) x) (iv : Iv dp q x) (nX : wX (xw x) = false) (hk : Fu (cBdy v) x q < k + 1) (hd : Dn (cBdy v) x q ≤ d + 2) (hg : 90 ≤ g + q) {fg : Bool} :
    ∃ x', gWt (gEx T k) fg as x = some x' ∧ bWt (bEx T k) g d fg as x ∧ Iv dp q x' ∧ fB (xf x') = fB (xf x) := by
  have hd' : 24 + pU x + rkE q ≤ d + 2 := hd
  have lv := (lopV_le (t := 14) (v := v)).1
  unfold gWt bWt
  by_cases c0 : as.length = 0 ∧ fg = false
  · rw [if_pos c0]
    obtain ⟨x1, h1, h2, h3, h4⟩ := ih (cJbs 0) x q (d - 1) g (hz.to (c2 := cJbs 0) (show (7 : Nat) ≠ 6 by decide) trivial (show (11 : Nat) ≠ 7 by decide)) iv trivial nX (fu_le hk (Nat.le_refl _) (by show 11 < lopV 14 v; omega)) (by show 21 + pU x + rkE q ≤ d - 1; omega) hg
    rw [h1]
    exact ⟨_, rfl, ⟨fun _ => h2, fun e => absurd c0 e⟩, h3.un, un_fB.trans h4⟩
  · rw [if_neg c0]
    by_cases c1 : as.length ≠ 1
    · rw [if_pos c1]
      exact ⟨_, rfl, ⟨fun e => absurd e c0, fun _ e => absurd e c1⟩, iv.st, rfl⟩
    · rw [if_neg c1]
      simp only []
      by_cases cn : nuL (as.getD 0 []) = -1
      · rw [if_pos cn]
        exact ⟨_, rfl, ⟨fun e => absurd e c0, fun _ _ e => absurd cn e⟩, iv.st, rfl⟩
      · rw [if_neg cn]
        by_cases cr : nuL (as.getD 0 []) < 1 ∨ nI (xj x).length < nuL (as.getD 0 [])
        · rw [if_pos cr]
          exact ⟨_, rfl, ⟨fun e => absurd e c0, fun _ _ _ e => absurd cr e⟩, iv.st, rfl⟩
        · rw [if_neg cr]
          have lt := wt_lt cn cr
          by_cases cz : (jbAt x ((nuL (as.getD 0 [])).toNatClampNeg - 1)).1 ≠ 0
          · rw [if_pos cz]
            exact ⟨_, rfl, ⟨fun e => absurd e c0, fun _ _ _ _ e => absurd e cz⟩, iv.st, rfl⟩
          · rw [if_neg cz]
            obtain ⟨x1, h1, h2, h3, h4⟩ := ih (cJob ((nuL (as.getD 0 [])).toNatClampNeg - 1) (if fg = true then (if fG (xf x) = true then 1 else 0) else 1)) x q (d - 1) g (hz.to (c2 := cJob _ _) (show (7 : Nat) ≠ 6 by decide) ⟨lt, Decidable.byContradiction cz⟩ (show (12 : Nat) ≠ 7 by decide)) iv trivial nX (fu_le hk (Nat.le_refl _) (by show 1 < lopV 14 v; omega)) (by show 20 + pU x + rkE q ≤ d - 1; omega) hg
            rw [h1]
            exact ⟨_, rfl, ⟨fun e => absurd e c0, fun _ _ _ _ _ => h2⟩, h3.un, un_fB.trans h4⟩
theorem tt_pln (ih : Tot T n dp k) (wt : WT T n) (wd5 : dp v ≤ 5) (hz : Hz T n (cBdy v) x) (iv : Iv dp q x) (ip : Ip dp q (cBdy v) x) (nX : wX (xw x) = false) (hk : Fu (cBdy v) x q < k + 1) (hd : Dn (cBdy v) x q ≤ d + 1) (hg : 90 ≤ g + q) {kk : Nat} {nm : Int64} :
    ∃ x', gPln (gEx T k) kk nm as x = some x' ∧ bPln (bEx T k) g d kk nm as x ∧ Iv dp q x' ∧ fB (xf x') = fB (xf x) := by
  have hd' : 24 + pU x + rkE q ≤ d + 1 := hd
  by_cases k0 : kk = 0
  · subst k0
    cases et : tbF (fU (xf x)) nm with
    | none =>
      refine ⟨zSt x 127, ?_, ⟨fun _ i ei => (by rw [et] at ei; cases ei), fun e => absurd e (by decide), fun e => absurd e (by omega)⟩, iv.st, rfl⟩
      show gFnc (gEx T k) nm x = _
      unfold gFnc
      rw [et]
    | some i =>
      obtain ⟨x', h1, h2, h3, h4⟩ := tt_fnc (d := d - 2) (@ih) wd5 hz iv ip nX hk (by omega) hg et
      refine ⟨x', ?_, ⟨fun _ i' ei => by rw [et] at ei; cases ei; exact h2 _ (by omega), fun e => absurd e (by decide), fun e => absurd e (by omega)⟩, h3, h4⟩
      show gFnc (gEx T k) nm x = _
      unfold gFnc
      rw [et]
      exact h1
  by_cases k10 : kk = 10
  · subst k10
    have eg : gPln (gEx T k) 10 nm as x = gRse (gEx T k) as x := rfl
    rw [eg]
    unfold gRse
    by_cases c1 : as.length ≠ 1
    · rw [if_pos c1]
      refine ⟨_, rfl, ⟨fun e => absurd e k0, fun _ s es s3 pa i ei => ?_, fun e => absurd e (by decide)⟩, iv.st, rfl⟩
      obtain ⟨x', h1, h2, h3, h4⟩ := tt_fnc (d := d - 2) (@ih) wd5 hz iv ip nX hk (by omega) hg ei
      exact h2 _ (by omega)
    · rw [if_neg c1]
      have bb : bPln (bEx T k) g d 10 nm as x := ⟨fun e => absurd e k0, fun _ s es s3 pa i ei => by
        obtain ⟨x', h1, h2, h3, h4⟩ := tt_fnc (d := d - 2) (@ih) wd5 hz iv ip nX hk (by omega) hg ei
        exact h2 _ (by omega), fun e => absurd e (by decide)⟩
      cases es : sigK (nmL (as.getD 0 [])) with
      | none => exact ⟨_, rfl, bb, iv.st, rfl⟩
      | some s =>
        simp only []
        split
        · exact ⟨_, rfl, bb, iv.st, rfl⟩
        · split
          · exact ⟨_, rfl, bb, iv.en, rfl⟩
          · split
            · cases et : tbF (fU (xf x)) (fA (xf x) s) with
              | none => exact ⟨_, rfl, bb, iv.un, un_fB⟩
              | some i =>
                obtain ⟨x', h1, h2, h3, h4⟩ := tt_fnc (d := d - 2) (@ih) wd5 hz iv ip nX hk (by omega) hg et
                simp only []
                rw [h1]
                exact ⟨_, rfl, bb, h3.un, un_fB.trans h4⟩
            · exact ⟨_, rfl, bb, iv.un, un_fB⟩
  by_cases k11 : 11 ≤ kk
  · have eg : gPln (gEx T k) kk nm as x = gWt (gEx T k) (decide (kk = 12)) as x := by
      unfold gPln
      rw [if_neg k0, if_neg (by omega), if_neg (by omega), if_neg (by omega), if_neg (by omega), if_neg (by omega), if_neg (by omega), if_neg (by omega), if_neg (by omega), if_neg (by omega), if_neg k10]
    rw [eg]
    obtain ⟨x', h1, h2, h3, h4⟩ := tt_wt (as := as) (fg := decide (kk = 12)) (d := d - 1) (@ih) hz iv nX hk (by omega) hg
    exact ⟨x', h1, ⟨fun e => absurd e k0, fun e => absurd e k10, fun _ => h2⟩, h3, h4⟩
  have bb : bPln (bEx T k) g d kk nm as x := ⟨fun e => absurd e k0, fun e => absurd e k10, fun e => absurd e k11⟩
  have w1 := hz.2.2 nX
  unfold gPln
  rw [if_neg k0]
  by_cases c1 : kk = 1
  · rw [if_pos c1]; exact ⟨_, rfl, bb, iv.st, rfl⟩
  rw [if_neg c1]
  by_cases c2 : kk = 2
  · rw [if_pos c2]; exact ⟨_, rfl, bb, iv.st, rfl⟩
  rw [if_neg c2]
  by_cases c3 : kk = 3
  · rw [if_pos c3]
    exact ⟨_, rfl, bb, iv.res (Owk.lee (T := T) (n := n) Owk.echo) rfl rfl, res_fB rfl⟩
  rw [if_neg c3]
  by_cases c4 : kk = 4
  · rw [if_pos c4]
    have o : Owk T n (xw x) (xf x) (opRead as (xw x) (xf x)) := Owk.read
    exact ⟨_, rfl, bb, iv.res o.lee opRead_H.1 o.2.2.2.2, res_fB opRead_H.2⟩
  rw [if_neg c4]
  by_cases c5 : kk = 5
  · rw [if_pos c5]
    by_cases c0 : as.length = 0
    · rw [if_pos c0]
      obtain ⟨k1, k2, k3, k4, k5, k6, k7⟩ : okW (xw x) 1 0 := w1
      have rl := rpl_le (w := xw x) (oh := fH (xf x) 0) k6 (by omega)
      obtain ⟨qq, hq⟩ := cat_tot (f := xf x) 12041 (xw x) iv.1 k7 (by omega)
      rw [hq]
      have o : Owk T n (xw x) (xf x) (qq.1, qq.2, xf x) := Owk.cat hq
      exact ⟨_, rfl, bb, iv.res o.lee rfl rfl, res_fB rfl⟩
    · rw [if_neg c0]; exact ⟨_, rfl, bb, iv.st, rfl⟩
  rw [if_neg c5]
  by_cases c6 : kk = 6
  · rw [if_pos c6]; exact ⟨_, rfl, bb, iv.st, rfl⟩
  rw [if_neg c6]
  by_cases c7 : kk = 7
  · rw [if_pos c7]
    have o : Owk T n (xw x) (xf x) (opTrap as (xw x) (xf x)) := Owk.trap
    exact ⟨_, rfl, bb, iv.res o.lee opTrap_H.1 o.2.2.2.2, res_fB opTrap_H.2⟩
  rw [if_neg c7]
  by_cases c8 : kk = 8
  · rw [if_pos c8]
    have o : Owk T n (xw x) (xf x) (opSet as (xw x) (xf x)) := Owk.set
    exact ⟨_, rfl, bb, iv.res o.lee opSet_H.1 o.2.2.2.2, res_fB opSet_H.2⟩
  rw [if_neg c8]
  have c9 : kk = 9 := by omega
  rw [if_pos c9]
  refine ⟨_, rfl, bb, ?_, ?_⟩
  · split
    · exact iv.st
    · exact iv.en
  · split <;> rfl
theorem tt_rnd (ih : Tot T n dp k) (wt : WT T n) (wd : WD T n dp) (hz : Hz T n (cBdy v) x) (iv : Iv dp q x) (ip : Ip dp q (cBdy v) x) (nX : wX (xw x) = false) (hk : Fu (cBdy v) x q < k + 1) (hd : Dn (cBdy v) x q ≤ d) (hg : 90 ≤ g + q) (hA : isK T n (· = 1) (tA T v)) (hdp : dp v + 1 ≤ dp (tA T v)) :
    ∃ x', gRnd T (gEx T k) v x = some x' ∧ (1 ≤ g ∧ bEx T k (d - 2) (g - 1) (cScr (tA T v)) (frk (xw x), subF (xf x), false, []) ∧ ∀ y1, gEx T k (cScr (tA T v)) (frk (xw x), subF (xf x), false, []) = some y1 → wX (xw y1) = false → bEx T k (d - 2) (g - 1) cFin y1) ∧ Iv dp q x' ∧ fB (xf x') = fB (xf x) := by
  have hd : 24 + pU x + rkE q ≤ d := hd
  have ip : q ≤ 18 * fN (xf x) + 3 * dp v + 2 := ip
  have N4 := iv.2.1
  have d5 : dp (tA T v) ≤ 5 := by
    obtain ⟨i, e1, e2, -⟩ := hA
    exact (wd i _ e1 e2).1
  have hC := rkE_drop (a := q) (b := 18 * fN (xf x) + 3 * dp (tA T v)) (by omega) (by omega)
  have hC1 : 1 ≤ rkC (18 * fN (xf x) + 3 * dp (tA T v)) := rkC_pos
  generalize eq' : 18 * fN (xf x) + 3 * dp (tA T v) = q' at hC hC1
  have hz0 : Hz T n (cScr (tA T v)) (frk (xw x), subF (xf x), false, []) := ⟨Or.inr hA, ⟨(hz.2.1.1 : okF T n (subF (xf x))), fun q hq => absurd hq List.not_mem_nil⟩, fun e => (hz.w0 (show (7 : Nat) ≠ 6 by decide) e : okW (frk (xw x)) 0 0)⟩
  have pu0 : pU ((frk (xw x), subF (xf x), false, []) : spX) = pU x := rfl
  obtain ⟨y1, h1, h2, h3, h4⟩ := ih (cScr (tA T v)) (frk (xw x), subF (xf x), false, []) q' (d - 2) (g - 1) hz0 ⟨iv.1, iv.2.1, Nat.zero_le _, fun e he => absurd he List.not_mem_nil⟩ (Or.inr (by show q' ≤ 18 * fN (xf x) + 3 * dp (tA T v); omega)) nX (fu_lt (b := pU x + rkE q') hk (by rw [pu0]; exact Nat.le_refl _) (by omega)) (by show 23 + pU x + rkE q' ≤ d - 2; omega) (by omega)
  have pz1 := mi_all wt k _ _ _ h1 hz0
  have l1 : Le (xw x) (xw y1) := Le.tr (b := frk (xw x)) Le.rf pz1.2.1
  unfold gRnd
  rw [h1]
  show ∃ x', (if wX (xw y1) = true then some (xw y1, x.2) else (gEx T k cFin y1).bind fun y2 => some (if wX (xw y2) = true then (xw y2, x.2) else (xw y2, vS (xf x) (fS (xf y2)), x.2.2))) = some x' ∧ _
  rcases hX_cases y1 with cX | cX
  · rw [if_pos cX]
    refine ⟨_, rfl, ⟨by omega, h2, fun z hz1 e => ?_⟩, iv.le l1, rfl⟩
    cases hz1
    rw [cX] at e; cases e
  · rw [if_neg (by rw [cX]; decide)]
    have eN : fN (xf y1) = fN (xf x) := pz1.2.2.1 (show (0 : Nat) ≠ 10 by decide)
    have eB : fB (xf y1) = fN (xf x) := h4
    have pu1 : pU y1 ≤ pU x := pU_le l1 eN
    have hz1 := pz1.hz (c2 := cFin) trivial (show (10 : Nat) ≠ 7 by decide) (show (10 : Nat) ≠ 6 by decide)
    obtain ⟨y2, h5, h6, h7, h8⟩ := ih cFin y1 q' (d - 2) (g - 1) hz1 h3 ⟨by rw [eN, eB], by rw [eN]; omega⟩ cX (fu_lt (b := pU x + rkE q') hk (by omega) (by omega)) (by show 22 + pU y1 + rkE q' ≤ d - 2; omega) (by omega)
    have pz2 := mi_all wt k _ _ _ h5 hz1
    have l2 : Le (xw x) (xw y2) := l1.tr pz2.2.1
    rw [h5]
    refine ⟨_, rfl, ⟨by omega, h2, fun z hz1 e => ?_⟩, ?_, ?_⟩
    · cases hz1
      exact h6
    · split
      · exact iv.le l2
      · exact (iv.le l2).st
    · split <;> rfl
theorem tt_bdy (ih : Tot T n dp k) (wt : WT T n) (wd : WD T n dp) (hz : Hz T n (cBdy v) x) (iv : Iv dp q x) (ip : Ip dp q (cBdy v) x) (nX : wX (xw x) = false) (hk : Fu (cBdy v) x q < k + 1) (hd : Dn (cBdy v) x q ≤ d) (hg : 90 ≤ g + q) : Rs T dp (k + 1) (cBdy v) x q d g := by
  have h20 := Dn20 hd
  have hd' : 24 + pU x + rkE q ≤ d := hd
  have ip' : q ≤ 18 * fN (xf x) + 3 * dp v + 2 := ip
  obtain ⟨i, e1, e2, e3⟩ : isK T n kCmd v := hz.1
  have i3 : i < 3000 := Nat.lt_of_lt_of_le e2 wt.1
  obtain ⟨-, -, -, -, w4, w5, w6, w7, w8, w9, w10⟩ := wt.2 i v e1 e2
  obtain ⟨D0, -, -, -, -, D4, D6, D7⟩ := wd i v e1 e2
  have gB : gEx T (k + 1) (cBdy v) x = gBdy T (gEx T k) v x := rfl
  have mk : ∀ x', gBdy T (gEx T k) v x = some x' → bBdy T (gEx T k) (bEx T k) d g v x → Iv dp q x' → fB (xf x') = fB (xf x) → Rs T dp (k + 1) (cBdy v) x q d g := fun x' a b c e => ⟨x', a, bst (B := fun _ _ => True) ⟨h20, b⟩, c, e⟩
  unfold gBdy bBdy at mk
  rcases e3 with e | e | e | e | e | e | e
  · rw [e] at mk
    obtain ⟨x', h1, h2, h3, h4⟩ := tt_rnd (@ih) wt wd hz iv ip nX hk hd hg (w4 e).is (D4 (Or.inl e))
    exact mk x' (by rw [if_pos rfl]; exact h1) ⟨fun _ => h2, fun c => absurd c (by decide), fun c => absurd c (by decide), fun c => absurd c (by decide), fun c => absurd c (by decide)⟩ h3 h4
  · rw [e] at mk
    have dd := D4 (Or.inr e)
    obtain ⟨x', h1, h2, h3, h4⟩ := ih (cScr (tA T v)) x q (d - 1) g (hz.to (c2 := cScr _) (show (7 : Nat) ≠ 6 by decide) (Or.inr (w5 e).is) (show (0 : Nat) ≠ 7 by decide)) iv (Or.inr (by omega)) nX (fu_le hk (Nat.le_refl _) (lop_nx e1 e2 wt.1 (Or.inr (w5 e)) (by omega) (by omega))) (by show 23 + pU x + rkE q ≤ d - 1; omega) hg
    exact mk x' (by rw [if_neg (by decide), if_pos rfl]; exact h1) ⟨fun c => absurd c (by decide), fun _ => h2, fun c => absurd c (by decide), fun c => absurd c (by decide), fun c => absurd c (by decide)⟩ h3 h4
  · rw [e] at mk
    obtain ⟨wA, wB', wC⟩ := w6 e
    obtain ⟨dA, dB, dC⟩ := D6 e
    have hz1 := hz.to (c2 := cCh (tA T v)) (show (7 : Nat) ≠ 6 by decide) wA.is (show (2 : Nat) ≠ 7 by decide)
    obtain ⟨x1, h1, h2, h3, h4⟩ := ih (cCh (tA T v)) x q (d - 1) g hz1 iv (show q ≤ _ by omega) nX (fu_le hk (Nat.le_refl _) (lop_nx e1 e2 wt.1 (Or.inr wA) (by omega) (by omega))) (by show 22 + pU x + rkE q ≤ d - 1; omega) hg
    have pz := mi_all wt k _ _ _ h1 hz1
    by_cases ch : hlt x1 = true
    · refine mk x1 ?_ ⟨fun c => absurd c (by decide), fun c => absurd c (by decide), fun _ => ⟨h2, fun z hz2 hh => ?_⟩, fun c => absurd c (by decide), fun c => absurd c (by decide)⟩ h3 h4
      · rw [if_neg (by decide), if_neg (by decide), if_pos rfl]
        unfold gIf
        rw [h1]
        show (if hlt x1 = true then _ else _) = _
        rw [if_pos ch]
      · rw [h1] at hz2
        cases hz2
        rw [ch] at hh; cases hh
    · have chf : hlt x1 = false := by
        cases e : hlt x1 with
        | false => rfl
        | true => exact absurd e ch
      have eN : fN (xf x1) = fN (xf x) := pz.2.2.1 (show (2 : Nat) ≠ 10 by decide)
      have pl := pU_le pz.2.1 eN
      have nx : nNx T n i (· = 1) (if fS (xf x1) = 0 then tB T v else tC T v) := by
        split
        · exact Or.inr wB'
        · exact wC
      have dx : (if fS (xf x1) = 0 then tB T v else tC T v) ≠ -1 → dp v + 1 ≤ dp (if fS (xf x1) = 0 then tB T v else tC T v) := by
        split
        · exact fun _ => dB
        · exact dC
      obtain ⟨x2, g1, g2, g3, g4⟩ := ih (cScr (if fS (xf x1) = 0 then tB T v else tC T v)) x1 q (d - 1) g (pz.hz nx.is (show (0 : Nat) ≠ 7 by decide) (show (0 : Nat) ≠ 6 by decide)) h3 (by
        by_cases c : (if fS (xf x1) = 0 then tB T v else tC T v) = -1
        · exact Or.inl c
        · have := dx c
          exact Or.inr (by rw [eN]; omega)) (hlt_f chf).1 (fu_le hk (Nat.add_le_add_right pl _) (lop_nx e1 e2 wt.1 nx (by omega) (by omega))) (by show 23 + pU x1 + rkE q ≤ d - 1; omega) hg
      refine mk x2 ?_ ⟨fun c => absurd c (by decide), fun c => absurd c (by decide), fun _ => ⟨h2, fun z hz2 hh => ?_⟩, fun c => absurd c (by decide), fun c => absurd c (by decide)⟩ g3 (g4.trans h4)
      · rw [if_neg (by decide), if_neg (by decide), if_pos rfl]
        unfold gIf
        rw [h1]
        show (if hlt x1 = true then _ else _) = _
        rw [if_neg ch]
        exact g1
      · rw [h1] at hz2
        cases hz2
        exact g2
  · rw [e] at mk
    obtain ⟨wA, wB'⟩ := w7 e
    obtain ⟨dA, dB⟩ := D7 e
    have hz1 := hz.to (c2 := cCh (tA T v)) (show (7 : Nat) ≠ 6 by decide) wA.is (show (2 : Nat) ≠ 7 by decide)
    obtain ⟨x1, h1, h2, h3, h4⟩ := ih (cCh (tA T v)) x q (d - 2) g hz1 iv (show q ≤ _ by omega) nX (fu_le hk (Nat.le_refl _) (lop_nx e1 e2 wt.1 (Or.inr wA) (by omega) (by omega))) (by show 22 + pU x + rkE q ≤ d - 2; omega) hg
    have pz := mi_all wt k _ _ _ h1 hz1
    have two : Rs T dp k (cWhl v 0) x1 q (d - 1) g := by
      by_cases ch : hlt x1 = true
      · obtain ⟨k, rfl⟩ : ∃ k', k = k' + 1 := ⟨k - 1, by unfold Fu lop at hk; simp only [] at hk; have := (lopV_le (t := 14) (v := v)).1; omega⟩
        exact st_whl (by omega) ch h3
      · have chf : hlt x1 = false := by
          cases e : hlt x1 with
          | false => rfl
          | true => exact absurd e ch
        have up := ch_up wt wd h1 hz1 chf
        have eN : fN (xf x1) = fN (xf x) := pz.2.2.1 (show (2 : Nat) ≠ 10 by decide)
        have b3 := (pz.2.2.2 (hlt_f chf).1).1
        have pl : pU x1 + 5 ≤ pU x := by
          unfold pU
          rw [eN]
          omega
        exact ih (cWhl v 0) x1 q (d - 1) g (pz.hz (c2 := cWhl v 0) ⟨⟨i, e1, e2, e⟩, st0⟩ (show (8 : Nat) ≠ 7 by decide) (show (8 : Nat) ≠ 6 by decide)) h3 (show q ≤ 18 * fN (xf x1) + 3 * dp v + 2 by rw [eN]; omega) (hlt_f chf).1 (fu_lt (b := pU x1 + rkE q) hk (Nat.le_refl _) (by omega)) (by show 24 + pU x1 + rkE q ≤ d - 1; omega) hg
    obtain ⟨x2, g1, g2, g3, g4⟩ := two
    refine mk x2 ?_ ⟨fun c => absurd c (by decide), fun c => absurd c (by decide), fun c => absurd c (by decide), fun _ => ⟨h2, fun z hz2 => ?_⟩, fun c => absurd c (by decide)⟩ g3 (g4.trans h4)
    · rw [if_neg (by decide), if_neg (by decide), if_neg (by decide), if_pos rfl, h1]
      exact g1
    · rw [h1] at hz2
      cases hz2
      exact g2
  · rw [e] at mk
    refine mk (gDef T v x) (by rw [if_neg (by decide), if_neg (by decide), if_neg (by decide), if_neg (by decide), if_pos rfl]) ⟨fun c => absurd c (by decide), fun c => absurd c (by decide), fun c => absurd c (by decide), fun c => absurd c (by decide), fun c => absurd c (by decide)⟩ ?_ ?_
    · unfold gDef
      split
      · exact iv.fh rfl rfl
      · split
        · exact iv.st
        · exact iv.fh rfl rfl
    · unfold gDef
      split
      · rfl
      · split <;> rfl
  · rw [e] at mk
    have o : Owk T n (xw x) (xf x) (opAsgn (tM T v) (((argsOf T v).map (evA (xf x))).getD 0 []) (xw x) (xf x)) := Owk.asgn
    exact mk _ (by rw [if_neg (by decide), if_neg (by decide), if_neg (by decide), if_neg (by decide), if_neg (by decide), if_pos rfl]) ⟨fun c => absurd c (by decide), fun c => absurd c (by decide), fun c => absurd c (by decide), fun c => absurd c (by decide), fun c => absurd c (by decide)⟩ (iv.res o.lee opAsgn_H.1 o.2.2.2.2) (res_fB opAsgn_H.2)
  · rw [e] at mk
    obtain ⟨x', h1, h2, h3, h4⟩ := tt_pln (as := (argsOf T v).map (evA (xf x))) (kk := cmdK (tM T v)) (nm := tM T v) (d := d - 1) (@ih) wt D0 hz iv ip nX hk (by omega) hg
    exact mk x' (by rw [if_neg (by decide), if_neg (by decide), if_neg (by decide), if_neg (by decide), if_neg (by decide), if_neg (by decide)]; exact h1) ⟨fun c => absurd c (by decide), fun c => absurd c (by decide), fun c => absurd c (by decide), fun c => absurd c (by decide), fun _ => h2⟩ h3 h4
end MXTD
