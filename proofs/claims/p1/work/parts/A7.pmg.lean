/-! THE MACHINE DOES THE TASKS: loops, plain commands -/
section MXPG
variable {D : pmC} {T : spT} {nn k d d1 d2 d' g g2 p q r s : Nat} {x x0 x1 x' y y0 y1 y2 : spX} {en : Bool} {F fr E : List pmF} {K K' : List (pmU × pmL)} {m m1 m' : pmM} {v l rr ac b : Int32} {c : spC} {w w1 : spW} {f f1 f' : spF} {js : List spJ} {u : pmU} {j ex sl fl : Nat} {as : List spL} {nm : Int64} {kk : Nat} {fq : pmF}
theorem OutE.pop1 (h : OutE D x x' en (fq :: F) K d m) (hq : fq.1 ≠ 1) : OutE D x x' en F K (d + 1) m := by
  obtain ⟨f', E, e1, e2, e3, e4, e5, e6⟩ := h
  refine ⟨f', E ++ [fq], by rw [e1, List.append_assoc]; rfl, e2, ?_, ?_, ?_, e6⟩
  · rw [unw_app]
    show (if fq.1 = 1 then fq.2.2.2.2.1 else unw E (fH f')) = _
    rw [if_neg hq]; exact e3
  · rw [List.length_append]
    show E.length + 1 ≤ d + 1
    omega
  · rw [nSL_app]
    show nSL E + ((if fq.1 = 1 then 1 else 0) + 0) + _ ≤ _
    rw [if_neg hq]; exact e5
/-- a loop -/
def Sw (D : pmC) (T : spT) (nn k : Nat) : Prop := ∀ v l d g x x' r1 r2 p0 q en F K, gEx T k (cWhl v l) x = some x' → bEx T k d g (cWhl v l) x → Hz T nn (cWhl v l) x → wX (xw x) = false → xe x = false →
  KX D T 2 (tA T v) p0 r1 → kSt D r1 = 13 → kTg D r1 = q → KX D T 0 (tB T v) (r1 + 1) r2 → kSt D r2 = 14 → kTg D r2 = p0 → q = r2 + 1 → q < kZ D → okX D T x → Rm x ((5, l, 0, 0, pmN, none) :: F) K d g →
  SR0 D T (xw x, r1, (xf x, en, xj x, (5, l, 0, 0, pmN, none) :: F), K) x x' r1 q 3000 3000 (Out D x x' q en F K d)
theorem sm_whl (hc : Cd D) (ihs : ∀ v, Sm D T nn k (cScr v) 0 0) (ihc : ∀ v, Sm D T nn k (cCh v) 0 9000) (ihw : Sw D T nn k) (wt : WT T nn) : Sw D T nn (k + 1) := by
  intro v l d g x x' r1 r2 p0 q en F K hx hb hz nX ne ks1 k13 kt1 ks2 k14 kt2 eq hq ox rm
  obtain ⟨hd, hb⟩ := bx hb
  have hx : gWhl T (gEx T k) v l x = some x' := hx
  unfold gWhl at hx
  have nh : ¬ hlt x = true := fun e => by
    have e : (wX (xw x) || xe x) = true := e
    rw [nX, ne] at e; cases e
  rw [if_neg nh] at hx
  have r12 := KS.le _ _ _ _ _ _ _ ks2.choose_spec
  have r01 := KS.le _ _ _ _ _ _ _ ks1.choose_spec
  have kz := hc.2.2
  have pi := PI.at (en := en) hz nX ox rm (by omega) k13 (by omega) (show (8 : Nat) ≠ 7 by decide)
  have st : pmStep D (xw x, r1, (xf x, en, xj x, (5, l, 0, 0, pmN, none) :: F), K) = (if fS (xf x) = 0 then pmGo1 en K (xw x) (r1 + 1) (xf x) (xj x) ((5, l, 0, 0, pmN, none) :: F) else some (0, (xw x, q, (vS (xf x) l, en, xj x, F), K))) := by
    rw [stp k13]
    show pmTst (xw x) r1 (xf x) en (xj x) ((5, l, 0, 0, pmN, none) :: F) K (kTg D r1) = _
    unfold pmTst
    rw [kt1]
    rfl
  obtain ⟨rm1, rm2, rm3⟩ := id rm
  have rm1 : F.length + 1 + nFK K + d ≤ 2800 := rm1
  have rm2 : 0 + nSL F + nSK K ≤ wB (xw x) := rm2
  have rmf : ∀ {x1 : spX} {l1 : Int32} {d' : Nat}, d' ≤ d → wB (xw x) ≤ wB (xw x1) → Rm x1 ((5, l1, 0, 0, pmN, none) :: F) K d' g := fun {x1 l1 d'} h1 h2 =>
    ⟨(by show F.length + 1 + nFK K + d' ≤ 2800; omega), (by show 0 + nSL F + nSK K ≤ wB (xw x1); omega), rm3⟩
  by_cases cs : fS (xf x) ≠ 0
  · rw [if_pos cs] at hx
    cases hx
    rw [if_neg cs] at st
    refine SR0.done (pmIt.one pi st) ox.st ?_ (Or.inl ⟨rfl, nX, ne, rfl⟩)
    rw [if_pos rfl]
    show 1 + r1 + 20000 * wB (xw x) + 3000 ≤ q + 3000 + 20000 * wB (xw x)
    omega
  · rw [if_neg cs] at hx
    rw [if_pos (Decidable.byContradiction cs)] at st
    rcases hb with e | e | ⟨hb1, hb2⟩
    · exact absurd e nh
    · exact absurd e cs
    obtain ⟨⟨i, e1, e2, e3⟩, hl⟩ : isK T nn (· = 7) v ∧ stat l := hz.1
    obtain ⟨-, -, -, -, -, -, -, w7, -⟩ := wt.2 i v e1 e2
    obtain ⟨wA, wB'⟩ := w7 e3
    obtain ⟨x1, hx1, h2⟩ := Option.bind_eq_some_iff.mp hx
    have hz1 := hz.to (c2 := cScr (tB T v)) (show (8 : Nat) ≠ 6 by decide) (Or.inr wB'.is) (show (0 : Nat) ≠ 7 by decide)
    have pz1 := mi_all wt k _ _ _ hx1 hz1
    have one := ihs (tB T v) (d - 1) g x x1 (r1 + 1) r2 en ((5, l, 0, 0, pmN, none) :: F) K hx1 hb1 hz1 nX ne ks2 (by omega) ox (rmf (by omega) (Nat.le_refl _))
    obtain ⟨n1, f1, m1, a1, b1, c1, o1⟩ := one
    have a1 := pmIt.step pi st a1
    have l1 : wB (xw x) ≤ wB (xw x1) := pz1.2.1.2.2.1
    rcases o1 with ⟨f0, nX1, ne1, em⟩ | ⟨f0, nX1, ne1, oe⟩ | ⟨f1', yX, os⟩
    · subst f0
      rw [if_pos rfl] at b1
      have nh1 : ¬ hlt x1 = true := fun e => by
        have e : (wX (xw x1) || xe x1) = true := e
        rw [nX1, ne1] at e; cases e
      rw [if_neg nh1] at h2
      obtain ⟨x2, hx2, h3⟩ := Option.bind_eq_some_iff.mp h2
      obtain ⟨hb3, hb4⟩ := hb2 x1 hx1 (hlt_n nh1)
      have hz2 := pz1.hz (c2 := cCh (tA T v)) wA.is (show (2 : Nat) ≠ 7 by decide) (show (2 : Nat) ≠ 6 by decide)
      have pz2 := mi_all wt k _ _ _ hx2 hz2
      have l2 : wB (xw x1) ≤ wB (xw x2) := pz2.2.1.2.2.1
      have pi2 : PI D (xw x1, r2, (xf x1, en, xj x1, (5, l, 0, 0, pmN, none) :: F), K) := PI.at hz2 nX1 c1 (rmf (Nat.le_refl _) l1) (by omega) k14 (by omega) (show (2 : Nat) ≠ 7 by decide)
      have st2 : pmStep D (xw x1, r2, (xf x1, en, xj x1, (5, l, 0, 0, pmN, none) :: F), K) = some (0, (xw x1, p0, (xf x1, en, xj x1, (5, fS (xf x1), 0, 0, pmN, none) :: F), K)) := by
        rw [stp k14]
        show pmAgn (xw x1) (xf x1) en (xj x1) ((5, l, 0, 0, pmN, none) :: F) K (kTg D r2) = _
        rw [kt2]
        rfl
      rw [em] at a1
      have a2 := a1.tr (pmIt.one pi2 st2)
      have two := ihc (tA T v) (d - 1) g x1 x2 p0 r1 en ((5, fS (xf x1), 0, 0, pmN, none) :: F) K hx2 hb3 hz2 nX1 ne1 ks1 (by omega) c1 (rmf (by omega) l1)
      obtain ⟨n2, f2, m2, a3, b2, c2, o2⟩ := two
      have a3 := a2.tr a3
      have fin : hlt x2 = true → x' = x2 := fun e => by
        cases k with
        | zero => cases h3
        | succ k =>
          have h3 : gWhl T (gEx T k) v (fS (xf x1)) x2 = some x' := h3
          unfold gWhl at h3
          rw [if_pos e] at h3
          cases h3; rfl
      rcases o2 with ⟨f0, nX2, ne2, em2⟩ | ⟨f0, nX2, ne2, oe⟩ | ⟨f1', yX, os⟩
      · subst f0
        rw [if_pos rfl] at b2
        have hz3 := pz2.hz (c2 := cWhl v (fS (xf x1))) ⟨⟨i, e1, e2, e3⟩, pz1.1.1.1⟩ (show (8 : Nat) ≠ 7 by decide) (show (8 : Nat) ≠ 6 by decide)
        have thr := ihw v (fS (xf x1)) d g x2 x' r1 r2 p0 q en F K h3 (hb4 x2 hx2) hz3 nX2 ne2 ks1 k13 kt1 ks2 k14 kt2 eq hq c2 (rmf (Nat.le_refl _) (Nat.le_trans l1 l2))
        obtain ⟨n3, f3, m3, a4, b3, c3, o3⟩ := thr
        rw [em2] at a3
        refine ⟨n1 + 1 + 1 + n2 + n3, f3, m3, a3.tr a4, ?_, c3, ?_⟩
        · by_cases e : f3 = 0
          · rw [if_pos e] at b3 ⊢; omega
          · rw [if_neg e] at b3 ⊢; omega
        · rcases o3 with o3 | ⟨z1, z2, z3, z4⟩ | o3
          · exact Or.inl o3
          · exact Or.inr (Or.inl ⟨z1, z2, z3, z4.up (Nat.le_refl _) (Nat.le_trans l1 l2)⟩)
          · exact Or.inr (Or.inr o3)
      · subst f0
        rw [if_pos rfl] at b2
        rw [fin (by rw [hlt_eq]; show (wX (xw x2) || xe x2) = true; rw [ne2, Bool.or_true])]
        refine ⟨n1 + 1 + 1 + n2, 0, m2, a3, ?_, c2, Or.inr (Or.inl ⟨rfl, nX2, ne2, (oe.pop1 (show (5 : Nat) ≠ 1 by decide)).up (by omega) l1⟩)⟩
        rw [if_pos rfl]; omega
      · subst f1'
        rw [if_neg (by decide)] at b2
        rw [fin (hlt_X yX)]
        refine ⟨n1 + 1 + 1 + n2, 1, m2, a3, ?_, c2, Or.inr (Or.inr ⟨rfl, yX, os⟩)⟩
        rw [if_neg (by decide)]; omega
    · subst f0
      rw [if_pos rfl] at b1
      have hh : hlt x1 = true := by rw [hlt_eq]; show (wX (xw x1) || xe x1) = true; rw [ne1, Bool.or_true]
      rw [if_pos hh] at h2
      cases h2
      refine ⟨n1 + 1, 0, m1, a1, ?_, c1, Or.inr (Or.inl ⟨rfl, nX1, ne1, (oe.pop1 (show (5 : Nat) ≠ 1 by decide)).up (by omega) (Nat.le_refl _)⟩)⟩
      rw [if_pos rfl]; omega
    · subst f1'
      rw [if_neg (by decide)] at b1
      rw [if_pos (hlt_X yX)] at h2
      cases h2
      refine ⟨n1 + 1, 1, m1, a1, ?_, c1, Or.inr (Or.inr ⟨rfl, yX, os⟩)⟩
      rw [if_neg (by decide)]; omega
/-- a function is called out of a command -/
theorem sm_fc (ihc : Sc D T nn k) (hz : Hz T nn (cBdy v) x) (nX : wX (xw x) = false) (ne : xe x = false) (ox : okX D T x) (rm : Rm x F K d g) (hp : p + 1 < kZ D) (hc : Cd D) (hd : 20 ≤ d) {i kd : Nat} (hi : tbF (fU (xf x)) nm = some i) (hkd : kd = 2 ∨ kd = 3) (hd1 : d1 ≤ d - 1) (h1 : gEx T k (cCal ((fU (xf x)).getD i (0, 0)).2) x = some x1) (hb : bEx T k d1 g (cCal ((fU (xf x)).getD i (0, 0)).2) x) (n4 : ¬ 4 ≤ fN (xf x))
    (st : pmStep D (xw x, p, (xf x, en, xj x, F), K) = pmCal D (xw x) (xf x) en (xj x) F K kd (nI (p + 1)) i 0 0) : SR0 D T (xw x, p, (xf x, en, xj x, F), K) x x1 p (p + 1) 10000 6000 (OutC D x x1 kd (nI (p + 1)) 0 en F K d1) := by
  have hz1 := hz.to (c2 := cCal ((fU (xf x)).getD i (0, 0)).2) (show (7 : Nat) ≠ 6 by decide) (hz.2.1.1.2 _ (tb_mem hi)) (show (9 : Nat) ≠ 7 by decide)
  obtain ⟨rm1, rm2, rm3⟩ := id rm
  have q := ihc ((fU (xf x)).getD i (0, 0)).2 d1 g x x1 en F K kd (nI (p + 1)) 0 h1 hb hz1 nX ne (by omega) (ox.1.1 _ (tb_mem hi)) ox (by omega)
    ⟨(by show F.length + 1 + nFK K + d1 ≤ 2800; omega), (by show (if kd = 1 then 1 else 0) + nSL F + nSK K ≤ wB (xw x); rw [if_neg (by omega)]; omega), rm3⟩
  obtain ⟨n, fl, m', a, b, c, o⟩ := q
  refine ⟨n + 1, fl, m', pmIt.step (PI.at7 hz nX ox rm (by omega)) st a, ?_, c, o⟩
  by_cases e : fl = 0
  · rw [if_pos e] at b ⊢; omega
  · rw [if_neg e] at b ⊢; omega
theorem OutC.out (hp : p < 2 ^ 31) (o : OutC D x x1 2 (nI p) 0 en F K d1 fl m) (hd : d1 ≤ d) : Out D x x1 p en F K d fl m := by
  rcases o with ⟨a, b, c, e⟩ | ⟨a, b, c, e⟩ | o
  · refine Or.inl ⟨a, b, c, ?_⟩
    rw [nI_clamp hp] at e
    exact e
  · exact Or.inr (Or.inl ⟨a, b, c, e.up hd (Nat.le_refl _)⟩)
  · exact Or.inr (Or.inr o)
theorem OutC.out3 (hp : p < 2 ^ 31) (o : OutC D x x1 3 (nI p) 0 en F K d1 fl m) (hd : d1 ≤ d) : Out D x (zUn x1 0) p en F K d fl m := by
  rcases o with ⟨a, b, c, e⟩ | ⟨a, b, c, e⟩ | ⟨a, b, e⟩
  · have nh : ¬ hlt x1 = true := fun e => by
      have e : (wX (xw x1) || xe x1) = true := e
      rw [b, c] at e; cases e
    unfold zUn
    rw [if_neg nh]
    refine Or.inl ⟨a, b, c, ?_⟩
    rw [nI_clamp hp] at e
    exact e
  · have hh : hlt x1 = true := by rw [hlt_eq]; show (wX (xw x1) || xe x1) = true; rw [c, Bool.or_true]
    unfold zUn
    rw [if_pos hh]
    exact Or.inr (Or.inl ⟨a, b, c, e.up hd (Nat.le_refl _)⟩)
  · unfold zUn
    rw [if_pos (hlt_X b)]
    exact Or.inr (Or.inr ⟨a, b, e⟩)
theorem okX.un (h : okX D T x) : okX D T (zUn x v) := by
  unfold zUn
  split <;> exact h
theorem un_w : wB (xw (zUn x v)) = wB (xw x) := by
  unfold zUn
  split <;> rfl
theorem SR0.un {O : Nat → pmM → Prop} (h : SR0 D T m x x1 p q ex sl O) {v1 : Int32} : SR0 D T m x (zUn x1 v1) p q ex sl O := by
  obtain ⟨n, fl, m', a, b, c, o⟩ := h
  exact ⟨n, fl, m', a, by rw [un_w]; exact b, c.un, o⟩
theorem cal4 (h : gEx T k (cCal v) x = some x1) (n4 : fN (xf x) = 4) : x1 = zSt x 126 := by
  cases k with
  | zero => cases h
  | succ k =>
    have h : gCal (gEx T k) v x = some x1 := h
    unfold gCal at h
    rw [if_pos n4] at h
    cases h; rfl
end MXPG
