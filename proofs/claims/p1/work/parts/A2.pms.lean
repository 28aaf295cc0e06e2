/-! THE MACHINE DOES THE TASKS: scripts, chains, pipelines -/
section MXPS
variable {D : pmC} {T : spT} {nn k d d1 d' g p q r s : Nat} {x x0 x1 x' y : spX} {en : Bool} {F : List pmF} {K : List (pmU × pmL)} {m m1 m' : pmM} {v : Int32} {c : spC} {ex ex' ex1 ex2 sl sl' sl1 sl2 n0 fl : Nat} {O O' : Nat → pmM → Prop} {w : spW} {f : spF}
theorem OutE.up (h : OutE D x x' en F K d m) (hd : d ≤ d') (hw : wB (xw x0) ≤ wB (xw x)) : OutE D x0 x' en F K d' m := by
  obtain ⟨f', E, h1, h2, h3, h4, h5, h6⟩ := h
  exact ⟨f', E, h1, h2, h3, Nat.le_trans h4 hd, by omega, h6⟩
theorem SR0.mono (h : SR0 D T m x x' p q ex sl O) (ho : ∀ fl m, O fl m → O' fl m) : SR0 D T m x x' p q ex sl O' := by
  obtain ⟨n, fl, m', a, b, c, d⟩ := h
  exact ⟨n, fl, m', a, b, c, ho _ _ d⟩
theorem SR0.pre {p1 : Nat} (h0 : pmIt D (PI D) n0 m 0 m1) (h : SR0 D T m1 x1 x' p1 q ex sl O) (h1 : n0 + p + 20000 * wB (xw x) + ex ≤ p1 + 20000 * wB (xw x1) + ex') (h2 : n0 + p + 20000 * wB (xw x) + ex + sl' ≤ p1 + 20000 * wB (xw x1) + ex' + sl) : SR0 D T m x x' p q ex' sl' O := by
  obtain ⟨n, fl, m', a, b, c, d⟩ := h
  refine ⟨n0 + n, fl, m', h0.tr a, ?_, c, d⟩
  by_cases e : fl = 0
  · rw [if_pos e] at b ⊢; omega
  · rw [if_neg e] at b ⊢; omega
/-- so many steps, and done -/
theorem SR0.done (h0 : pmIt D (PI D) n0 m fl m1) (ox : okX D T x') (h1 : n0 + p + 20000 * wB (xw x) + (if fl = 0 then sl else 0) ≤ q + ex + 20000 * wB (xw x')) (o : O fl m1) : SR0 D T m x x' p q ex sl O := ⟨n0, fl, m1, h0, h1, ox, o⟩
/-- one task, then another -/
theorem SR0.bnd (h : SR0 D T m x x1 p r ex1 sl1 (Out D x x1 r en F K d1)) (hd : d1 ≤ d) (hw : wB (xw x) ≤ wB (xw x1))
    (hN : wX (xw x1) = false → xe x1 = false → okX D T x1 → SR0 D T (xw x1, r, (xf x1, en, xj x1, F), K) x1 x' r q ex2 sl2 (Out D x1 x' q en F K d)) (hH : hlt x1 = true → x' = x1)
    (hr : r ≤ q) (a1 : ex1 ≤ ex) (a2 : sl + ex1 ≤ ex + sl1) (a3 : ex1 + ex2 ≤ ex + sl1) (a4 : sl + ex1 + ex2 ≤ ex + sl1 + sl2) : SR0 D T m x x' p q ex sl (Out D x x' q en F K d) := by
  obtain ⟨n, fl, m', a, b, c, o⟩ := h
  rcases o with ⟨f0, nX, ne, rfl⟩ | ⟨f0, nX, ne, oe⟩ | ⟨f1, yX, os⟩
  · subst f0
    obtain ⟨n2, fl2, m2, b1, b2, b3, b4⟩ := hN nX ne c
    refine ⟨n + n2, fl2, m2, a.tr b1, ?_, b3, ?_⟩
    · rw [if_pos rfl] at b
      by_cases e : fl2 = 0
      · rw [if_pos e] at b2 ⊢; omega
      · rw [if_neg e] at b2 ⊢; omega
    · rcases b4 with b4 | ⟨e1, e2, e3, e4⟩ | b4
      · exact Or.inl b4
      · exact Or.inr (Or.inl ⟨e1, e2, e3, e4.up (Nat.le_refl _) hw⟩)
      · exact Or.inr (Or.inr b4)
  · have e : x' = x1 := hH (by rw [hlt_eq]; show (wX (xw x1) || xe x1) = true; rw [ne, Bool.or_true])
    subst e
    subst f0
    rw [if_pos rfl] at b
    exact ⟨n, 0, m', a, by rw [if_pos rfl]; omega, c, Or.inr (Or.inl ⟨rfl, nX, ne, oe.up hd (Nat.le_refl _)⟩)⟩
  · have e : x' = x1 := hH (hlt_X yX)
    subst e
    subst f1
    rw [if_neg (by decide)] at b
    exact ⟨n, 1, m', a, by rw [if_neg (by decide)]; omega, c, Or.inr (Or.inr ⟨rfl, yX, os⟩)⟩
theorem PI.mk {fr : List pmF} {js : List spJ} (hp : p < kZ D) (hw : okW w 0 1) (hX : wX w = false) (h3 : kSt D p = s) (hs : s ≠ 3 ∧ s ≠ 4) (b1 : fr.length + nFK K ≤ 2900) (b2 : nSL fr + nSK K ≤ wB w) (b3 : K.length ≤ 100) (st : stat (fS f)) (n4 : fN f ≤ 4) (b4 : fB f ≤ 4) (jl : js.length ≤ 8) : PI D (w, p, (f, en, js, fr), K) :=
  ⟨hp, hw, hX, fun h => by rw [show kSt D (w, p, (f, en, js, fr), K).2.1 = s from h3] at h; exact h.elim (fun e => absurd e hs.2) (fun e => absurd e.1 hs.1), b1, b2, b3, st, n4, b4, jl⟩
/-- a state from which a task is done -/
theorem PI.at (hz : Hz T nn c x) (nX : wX (xw x) = false) (ox : okX D T x) (rm : Rm x F K d g) (hp : p < kZ D) (h3 : kSt D p = s) (hs : s ≠ 3 ∧ s ≠ 4) (h7 : c.1 ≠ 7) : PI D (xw x, p, (xf x, en, xj x, F), K) := by
  have hw : okW (xw x) 0 1 := by
    have := hz.2.2 nX
    rw [if_neg h7] at this
    split at this
    · exact this
    · exact this.lo
  exact PI.mk hp hw nX h3 hs (by have := rm.1; omega) rm.2.1 (by have := rm.2.2; omega) hz.2.1.1.1 ox.1.2.2.1 ox.1.2.2.2 ox.2.1
theorem Rm.le (rm : Rm x F K d g) {x1 : spX} (hd : d' ≤ d) (hw : wB (xw x) ≤ wB (xw x1)) : Rm x1 F K d' g := ⟨by have := rm.1; omega, Nat.le_trans rm.2.1 hw, rm.2.2⟩
theorem okX.st (h : okX D T x) {v : Int32} : okX D T (zSt x v) := h
theorem sm_scr (ih : ∀ v, Sm D T nn k (cChs v) 0 0) (wt : WT T nn) (v : Int32) : Sm D T nn (k + 1) (cScr v) 0 0 := by
  intro d g x x' p q en F K hx hb hz nX ne ⟨kk, ks⟩ hq ox rm
  obtain ⟨hd, hb⟩ := bx hb
  have hx : gScr T (gEx T k) v x = some x' := hx
  cases kk with
  | zero => exact ks.elim
  | succ kk =>
  have ks : KS D T (kk + 1) 0 v p q := ks
  unfold KS at ks
  unfold gScr at hx
  have zero : x' = zSt x 0 → kSt D p = 7 ∧ q = p + 1 → SR0 D T (xw x, p, (xf x, en, xj x, F), K) x x' p q 0 0 (Out D x x' q en F K d) := by
    rintro rfl ⟨h7, rfl⟩
    refine SR0.done (pmIt.one (PI.at hz nX ox rm (by omega) h7 (by omega) (show (0 : Nat) ≠ 7 by decide)) (stp h7)) ox.st (by rw [if_pos rfl]; show 1 + p + 20000 * wB (xw x) + 0 ≤ p + 1 + 0 + 20000 * wB (xw x); omega) (Or.inl ⟨rfl, nX, ne, rfl⟩)
  by_cases c1 : v = -1
  · rw [if_pos c1] at hx
    rw [if_pos (Or.inl c1)] at ks
    cases hx
    exact zero rfl ks
  rw [if_neg c1] at hx
  by_cases c2 : tA T v = -1
  · rw [if_pos c2] at hx
    rw [if_pos (Or.inr c2)] at ks
    cases hx
    exact zero rfl ks
  rw [if_neg c2] at hx
  rw [if_neg (fun e => e.elim c1 c2)] at ks
  rcases hb with e | e | hb
  · exact absurd e c1
  · exact absurd e c2
  have hk1 : v = -1 ∨ isK T nn (· = 1) v := hz.1
  obtain ⟨i, e1, e2, e3⟩ := hk1.resolve_left c1
  exact ih (tA T v) d g x x' p q en F K hx hb (hz.to (c2 := cChs (tA T v)) (show (0 : Nat) ≠ 6 by decide) ((wt.2 i v e1 e2).1 e3).is (show (1 : Nat) ≠ 7 by decide)) nX ne ⟨kk, ks⟩ hq ox rm
theorem sm_chs (ih1 : ∀ v, Sm D T nn k (cChs v) 0 0) (ih2 : ∀ v, Sm D T nn k (cCh v) 0 9000) (wt : WT T nn) (v : Int32) : Sm D T nn (k + 1) (cChs v) 0 0 := by
  intro d g x x' p q en F K hx hb hz nX ne ⟨kk, ks⟩ hq ox rm
  obtain ⟨hd, hb⟩ := bx hb
  have hx : gChs T (gEx T k) v x = some x' := hx
  cases kk with
  | zero => exact ks.elim
  | succ kk =>
  have ks : KS D T (kk + 1) 1 v p q := ks
  unfold KS at ks
  unfold gChs at hx
  have nh : ¬ hlt x = true := fun e => by
    have e : (wX (xw x) || xe x) = true := e
    rw [nX, ne] at e; cases e
  by_cases c1 : v = -1
  · rw [if_pos (Or.inl c1)] at hx
    rw [if_pos c1] at ks
    cases hx
    subst ks
    exact SR0.done pmIt.nil ox (by rw [if_pos rfl]; omega) (Or.inl ⟨rfl, nX, ne, rfl⟩)
  rw [if_neg (fun e => e.elim c1 nh)] at hx
  rw [if_neg c1] at ks
  obtain ⟨r, ks1, ks2⟩ := ks
  have rq := KS.le _ _ _ _ _ _ _ ks2
  have hk1 : v = -1 ∨ isK T nn (· = 2) v := hz.1
  obtain ⟨i, e1, e2, e3⟩ := hk1.resolve_left c1
  have nx := ((wt.2 i v e1 e2).2.1 e3).2
  rcases hb with e | e | ⟨hb1, hb2⟩
  · exact absurd e c1
  · exact absurd e nh
  obtain ⟨x1, hx1, h2⟩ := Option.bind_eq_some_iff.mp hx
  have hb3 := hb2 x1 hx1
  have hH : hlt x1 = true → x' = x1 := fun e => by
    cases k with
    | zero => cases h2
    | succ k =>
      have h2 : gChs T (gEx T k) (tN T v) x1 = some x' := h2
      unfold gChs at h2
      rw [if_pos (Or.inr e)] at h2
      cases h2; rfl
  have two : Pz T nn (cChs v) x x1 → wX (xw x1) = false → xe x1 = false → okX D T x1 → SR0 D T (xw x1, r, (xf x1, en, xj x1, F), K) x1 x' r q 0 0 (Out D x1 x' q en F K d) := fun pz nX1 ne1 ox1 =>
    ih1 (tN T v) d g x1 x' r q en F K h2 hb3 (pz.hz (c2 := cChs (tN T v)) nx.is (show (1 : Nat) ≠ 7 by decide) (show (1 : Nat) ≠ 6 by decide)) nX1 ne1 ⟨kk, ks2⟩ hq ox1 (rm.le (Nat.le_refl _) pz.2.1.2.2.1)
  by_cases cb : tB T v = 1
  · rw [if_pos cb] at hx1 ks1
    obtain ⟨k16, ktg, kan, kpl, r', er, ks3, k21⟩ := ks1
    cases hx1
    have pr := KS.le _ _ _ _ _ _ _ ks3
    have pz : Pz T nn (cChs v) x (mkJob v x) := by
      unfold mkJob
      split
      · exact pz_st hz (show (1 : Nat) ≠ 6 by decide) st1
      · refine ⟨⟨⟨st0, hz.2.1.1.2⟩, fun q hq => ?_⟩, Le.rf, fun _ => rfl, hz.w0 (show (1 : Nat) ≠ 6 by decide)⟩
        rcases List.mem_append.mp hq with g | g
        · exact hz.2.1.2 q g
        · rw [List.mem_singleton.mp g]
          exact ⟨Nat.zero_le _, st0, ⟨i, e1, e2, e3⟩, hz.2.1.1⟩
    have jb : JB D T v := ⟨r', by rw [kpl]; exact ⟨kk, ks3⟩, k21, by omega⟩
    have oj : okX D T (mkJob v x) := by
      unfold mkJob
      split
      · exact ox.st
      · rename_i c8
        refine ⟨ox.1, ?_, fun e he e0 => ?_⟩
        · show (xj x ++ [(0, 0, v, subF (xf x))]).length ≤ 8
          rw [List.length_append, List.length_singleton]; omega
        · rcases List.mem_append.mp he with g | g
          · exact ox.2.2 e g e0
          · rw [List.mem_singleton.mp g]
            refine ⟨jb, ox.1.1, fun g => ?_, ox.1.2.2.1, ox.1.2.2.1⟩
            show (if fA (xf x) g = -2 then (-2 : Int64) else 0) = 0 ∨ (if fA (xf x) g = -2 then (-2 : Int64) else 0) = -2 ∨ 0 < (if fA (xf x) g = -2 then (-2 : Int64) else 0)
            split
            · exact Or.inr (Or.inl rfl)
            · exact Or.inl rfl
    have wj : wB (xw (mkJob v x)) = wB (xw x) ∧ wX (xw (mkJob v x)) = wX (xw x) ∧ xe (mkJob v x) = xe x := by
      unfold mkJob
      split <;> exact ⟨rfl, rfl, rfl⟩
    have stj : pmStep D (xw x, p, (xf x, en, xj x, F), K) = some (0, (xw (mkJob v x), r, (xf (mkJob v x), en, xj (mkJob v x), F), K)) := by
      rw [stp k16]
      show pmMkj D (xw x) p (xf x) en (xj x) F K (kTg D p) = _
      unfold pmMkj mkJob
      rw [ktg, kan]
      split <;> rfl
    refine SR0.pre (n0 := 1) (pmIt.one (PI.at hz nX ox rm (by omega) k16 (by omega) (show (1 : Nat) ≠ 7 by decide)) stj) ((two pz (wj.2.1.trans nX) (wj.2.2.trans ne) oj).mono fun fl m o => ?_) (by rw [wj.1]; omega) (by rw [wj.1]; omega)
    rcases o with o | ⟨o1, o2, o3, o4⟩ | o
    · exact Or.inl o
    · exact Or.inr (Or.inl ⟨o1, o2, o3, o4.up (Nat.le_refl _) (Nat.le_of_eq wj.1.symm)⟩)
    · exact Or.inr (Or.inr o)
  · rw [if_neg cb] at hx1 ks1
    obtain ⟨k0, ks3⟩ := ks1
    have pr := KS.le _ _ _ _ _ _ _ ks3
    have hz1 := hz.to (c2 := cCh v) (show (1 : Nat) ≠ 6 by decide) ⟨i, e1, e2, e3⟩ (show (2 : Nat) ≠ 7 by decide)
    have pz : Pz T nn (cChs v) x x1 := (mi_all wt k _ _ _ hx1 hz1).cc (show (2 : Nat) ≠ 10 by decide)
    have one := ih2 v (d - 1) g x x1 (p + 1) r en F K hx1 (hb1 cb) hz1 nX ne ⟨kk, ks3⟩ (by omega) ox (rm.le (by omega) (Nat.le_refl _))
    have both := SR0.bnd (d := d) (ex := 0) (sl := 0) one (by omega) pz.2.1.2.2.1 (two pz) hH rq (by omega) (by omega) (by omega) (by omega)
    exact SR0.pre (n0 := 1) (pmIt.one (PI.at hz nX ox rm (by omega) k0 (by omega) (show (1 : Nat) ≠ 7 by decide)) (stp k0)) both (by omega) (by omega)
theorem sm_ch (ih : ∀ v, Sm D T nn k (cPps v) 0 (if v ≠ -1 ∧ tC T v = 0 then 9000 else 0)) (wt : WT T nn) (v : Int32) : Sm D T nn (k + 1) (cCh v) 0 9000 := by
  intro d g x x' p q en F K hx hb hz nX ne ⟨kk, ks⟩ hq ox rm
  obtain ⟨hd, hb⟩ := bx hb
  have hx : gEx T k (cPps (tA T v)) x = some x' := hx
  cases kk with
  | zero => exact ks.elim
  | succ kk =>
  have ks : KS D T (kk + 1) 2 v p q := ks
  unfold KS at ks
  obtain ⟨c1, c2, ks⟩ := ks
  obtain ⟨i, e1, e2, e3⟩ : isK T nn (· = 2) v := hz.1
  have := ih (tA T v) d g x x' p q en F K hx hb (hz.to (c2 := cPps (tA T v)) (show (2 : Nat) ≠ 6 by decide) (Or.inr ((wt.2 i v e1 e2).2.1 e3).1.is) (show (3 : Nat) ≠ 7 by decide)) nX ne ⟨kk, ks⟩ hq ox rm
  rw [if_pos ⟨c1, c2⟩] at this
  exact this
theorem sm_pps (ih1 : ∀ v, Sm D T nn k (cPps v) 0 (if v ≠ -1 ∧ tC T v = 0 then 9000 else 0)) (ih2 : ∀ v, Sm D T nn k (cPp v) 0 9000) (wt : WT T nn) (v : Int32) : Sm D T nn (k + 1) (cPps v) 0 (if v ≠ -1 ∧ tC T v = 0 then 9000 else 0) := by
  intro d g x x' p q en F K hx hb hz nX ne ⟨kk, ks⟩ hq ox rm
  obtain ⟨hd, hb⟩ := bx hb
  have hx : gPps T (gEx T k) v x = some x' := hx
  cases kk with
  | zero => exact ks.elim
  | succ kk =>
  have ks : KS D T (kk + 1) 3 v p q := ks
  unfold KS at ks
  unfold gPps at hx
  have nh : ¬ hlt x = true := fun e => by
    have e : (wX (xw x) || xe x) = true := e
    rw [nX, ne] at e; cases e
  by_cases c1 : v = -1
  · rw [if_pos (Or.inl c1)] at hx
    rw [if_pos c1] at ks
    cases hx
    subst ks
    exact SR0.done pmIt.nil ox (by rw [if_pos rfl, if_neg (fun e => e.1 c1)]; omega) (Or.inl ⟨rfl, nX, ne, rfl⟩)
  rw [if_neg (fun e => e.elim c1 nh)] at hx
  rw [if_neg c1] at ks
  obtain ⟨r, ks1, ks2⟩ := ks
  have rq := KS.le _ _ _ _ _ _ _ ks2
  have hk1 : v = -1 ∨ isK T nn (· = 3) v := hz.1
  obtain ⟨i, e1, e2, e3⟩ := hk1.resolve_left c1
  have nx := ((wt.2 i v e1 e2).2.2.1 e3).2
  rcases hb with e | e | ⟨hb1, hb2⟩
  · exact absurd e c1
  · exact absurd e nh
  -- the pipeline is executed
  have run : ∀ p1, KS D T kk 4 v p1 r → ¬ ((tC T v = 1 ∧ fS (xf x) ≠ 0) ∨ (tC T v = 2 ∧ fS (xf x) = 0)) → SR0 D T (xw x, p1, (xf x, en, xj x, F), K) x x' p1 q 0 9000 (Out D x x' q en F K d) := by
    intro p1 ks3 sk
    rw [if_neg sk] at hx
    obtain ⟨x1, hx1, h2⟩ := Option.bind_eq_some_iff.mp hx
    obtain ⟨hb3, hb4⟩ := hb2 sk
    have hH : hlt x1 = true → x' = x1 := fun e => by
      cases k with
      | zero => cases h2
      | succ k =>
        have h2 : gPps T (gEx T k) (tN T v) x1 = some x' := h2
        unfold gPps at h2
        rw [if_pos (Or.inr e)] at h2
        cases h2; rfl
    have hz1 := hz.to (c2 := cPp v) (show (3 : Nat) ≠ 6 by decide) ⟨i, e1, e2, e3⟩ (show (4 : Nat) ≠ 7 by decide)
    have pz : Pz T nn (cPps v) x x1 := (mi_all wt k _ _ _ hx1 hz1).cc (show (4 : Nat) ≠ 10 by decide)
    have one := ih2 v (d - 1) g x x1 p1 r en F K hx1 hb3 hz1 nX ne ⟨kk, ks3⟩ (by omega) ox (rm.le (by omega) (Nat.le_refl _))
    exact SR0.bnd (d := d) (ex2 := 0) (sl2 := 0) one (by omega) pz.2.1.2.2.1 (fun nX1 ne1 ox1 => by
      have t := ih1 (tN T v) d g x1 x' r q en F K h2 (hb4 x1 hx1) (pz.hz (c2 := cPps (tN T v)) nx.is (show (3 : Nat) ≠ 7 by decide) (show (3 : Nat) ≠ 6 by decide)) nX1 ne1 ⟨kk, ks2⟩ hq ox1 (rm.le (Nat.le_refl _) pz.2.1.2.2.1)
      exact SR0.pre pmIt.nil t (by omega) (by omega)) hH rq (by omega) (by omega) (by omega) (by omega)
  have skip : ((tC T v = 1 ∧ fS (xf x) ≠ 0) ∨ (tC T v = 2 ∧ fS (xf x) = 0)) → SR0 D T (xw x, r, (xf x, en, xj x, F), K) x x' r q 0 0 (Out D x x' q en F K d) := by
    intro sk
    rw [if_pos sk] at hx
    exact SR0.pre pmIt.nil (ih1 (tN T v) d g x x' r q en F K hx (hb1 sk) (hz.to (c2 := cPps (tN T v)) (show (3 : Nat) ≠ 6 by decide) nx.is (show (3 : Nat) ≠ 7 by decide)) nX ne ⟨kk, ks2⟩ hq ox rm) (by omega) (by omega)
  by_cases t1 : tC T v = 1
  · rw [if_pos t1] at ks1
    obtain ⟨k11, ktg, ks3⟩ := ks1
    have pr := KS.le _ _ _ _ _ _ _ ks3
    rw [if_neg (fun e => by rw [t1] at e; exact absurd e.2 (by decide))]
    have st : pmStep D (xw x, p, (xf x, en, xj x, F), K) = some (0, (xw x, (if fS (xf x) = 0 then p + 1 else r), (xf x, en, xj x, F), K)) := by
      rw [stp k11]
      show pmGo1 en K (xw x) (if fS (xf x) = 0 then p + 1 else kTg D p) (xf x) (xj x) F = _
      rw [ktg]
    have pi := PI.at (en := en) hz nX ox rm (by omega) k11 (by omega) (show (3 : Nat) ≠ 7 by decide)
    by_cases s0 : fS (xf x) = 0
    · rw [if_pos s0] at st
      exact SR0.pre (n0 := 1) (pmIt.one pi st) (run (p + 1) ks3 (fun e => by rw [t1] at e; rcases e with e | e; exact e.2 s0; exact absurd e.1 (by decide))) (by omega) (by omega)
    · rw [if_neg s0] at st
      exact SR0.pre (n0 := 1) (pmIt.one pi st) (skip (Or.inl ⟨t1, s0⟩)) (by omega) (by omega)
  rw [if_neg t1] at ks1
  by_cases t2 : tC T v = 2
  · rw [if_pos t2] at ks1
    obtain ⟨k10, ktg, ks3⟩ := ks1
    have pr := KS.le _ _ _ _ _ _ _ ks3
    rw [if_neg (fun e => by rw [t2] at e; exact absurd e.2 (by decide))]
    have st : pmStep D (xw x, p, (xf x, en, xj x, F), K) = some (0, (xw x, (if fS (xf x) = 0 then r else p + 1), (xf x, en, xj x, F), K)) := by
      rw [stp k10]
      show pmGo1 en K (xw x) (if fS (xf x) = 0 then kTg D p else p + 1) (xf x) (xj x) F = _
      rw [ktg]
    have pi := PI.at (en := en) hz nX ox rm (by omega) k10 (by omega) (show (3 : Nat) ≠ 7 by decide)
    by_cases s0 : fS (xf x) = 0
    · rw [if_pos s0] at st
      exact SR0.pre (n0 := 1) (pmIt.one pi st) (skip (Or.inr ⟨t2, s0⟩)) (by omega) (by omega)
    · rw [if_neg s0] at st
      exact SR0.pre (n0 := 1) (pmIt.one pi st) (run (p + 1) ks3 (fun e => by rcases e with e | e; exact t1 e.1; exact s0 e.2)) (by omega) (by omega)
  rw [if_neg t2] at ks1
  have t := run p ks1 (fun e => by rcases e with e | e; exact t1 e.1; exact t2 e.1)
  refine SR0.pre pmIt.nil t (by omega) ?_
  split <;> omega
end MXPS
