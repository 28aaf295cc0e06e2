/-! THE MACHINE DOES THE TASKS: bodies, all tasks -/
section MXPI
variable {D : pmC} {T : spT} {nn k d d1 d2 d' g g2 p q r s : Nat} {x x0 x1 x' y y0 y1 y2 : spX} {en : Bool} {F fr E : List pmF} {K K' : List (pmU × pmL)} {m m1 m' : pmM} {v l rr ac b : Int32} {c : spC} {w w1 : spW} {f f1 f' : spF} {js : List spJ} {u : pmU} {j ex sl fl : Nat} {as : List spL} {nm : Int64} {kk : Nat} {fq : pmF}
theorem sm_pln (hc : Cd D) (ihc : Sc D T nn k) (ihj : Sj D T nn k) (ihb : Sb D T nn k) (wt : WT T nn) (hkk : kk ≤ 12) (hx : gPln (gEx T k) kk nm as x = some x') (hb : bPln (bEx T k) g (d - 1) kk nm as x) (hd : 20 ≤ d) (hz : Hz T nn (cBdy v) x) (nX : wX (xw x) = false) (ne : xe x = false) (ox : okX D T x) (rm : Rm x F K d g) (hp : p + 1 < kZ D) (kp : kSt D p = 3) (kkd : kKd D (kOp D p) = nI kk)
    (st : ∀ w js, pmStep D (w, p, (xf x, en, js, F), K) = pmCll D w p (xf x) en js F K kk nm as) : SR0 D T (xw x, p, (xf x, en, xj x, F), K) x x' p (p + 1) 10000 6000 (Out D x x' (p + 1) en F K d) := by
  have kz := hc.2.2
  have st0 := st (xw x) (xj x)
  have hp0 : p < kZ D := by omega
  unfold gPln at hx
  unfold pmCll at st0
  by_cases k0 : kk = 0
  · rw [if_pos k0] at hx st0
    unfold gFnc at hx
    unfold pmFnc at st0
    cases et : tbF (fU (xf x)) nm with
    | none =>
      rw [et] at hx st0
      cases hx
      exact sm_st hz nX ne ox rm hp0 st0
    | some i =>
      rw [et] at hx st0
      have hx : gEx T k (cCal ((fU (xf x)).getD i (0, 0)).2) x = some x' := hx
      have st0 : pmStep D (xw x, p, (xf x, en, xj x, F), K) = (if 4 ≤ fN (xf x) then pmGo1 en K (xw x) (p + 1) (vS (xf x) 126) (xj x) F else pmCal D (xw x) (xf x) en (xj x) F K 2 (nI (p + 1)) i 0 0) := st0
      by_cases n4 : 4 ≤ fN (xf x)
      · rw [if_pos n4] at st0
        have e := cal4 hx (by have := ox.1.2.2.1; omega)
        subst e
        exact sm_st hz nX ne ox rm hp0 st0
      · rw [if_neg n4] at st0
        exact (sm_fc (d1 := d - 1 - 1) ihc hz nX ne ox rm hp hc hd et (Or.inl rfl) (by omega) hx (hb.1 k0 i et) n4 st0).mono fun fl m o => o.out (by omega) (by omega)
  rw [if_neg k0] at hx st0
  by_cases k1 : kk = 1
  · rw [if_pos k1] at hx st0
    cases hx
    exact sm_st hz nX ne ox rm hp0 st0
  rw [if_neg k1] at hx st0
  by_cases k2 : kk = 2
  · rw [if_pos k2] at hx st0
    cases hx
    exact sm_st hz nX ne ox rm hp0 st0
  rw [if_neg k2] at hx st0
  by_cases k3 : kk = 3
  · rw [if_pos k3] at hx st0
    cases hx
    exact sm_res Owk.echo hz nX ne ox rm hp0 ox.1 st0
  rw [if_neg k3] at hx st0
  by_cases k4 : kk = 4
  · rw [if_pos k4] at hx st0
    cases hx
    exact sm_res Owk.read hz nX ne ox rm hp0 ox.1.rd st0
  rw [if_neg k4] at hx st0
  by_cases k5 : kk = 5
  · rw [if_pos k5] at hx st0
    by_cases c0 : as.length = 0
    · rw [if_pos c0] at hx st0
      obtain ⟨q, hq, h2⟩ := Option.bind_eq_some_iff.mp hx
      cases h2
      rw [hq] at st0
      exact sm_res (Owk.cat hq) hz nX ne ox rm hp0 ox.1 st0
    · rw [if_neg c0] at hx st0
      cases hx
      exact sm_st hz nX ne ox rm hp0 st0
  rw [if_neg k5] at hx st0
  by_cases k6 : kk = 6
  · rw [if_pos k6] at hx st0
    cases hx
    exact sm_st hz nX ne ox rm hp0 st0
  rw [if_neg k6] at hx st0
  by_cases k7 : kk = 7
  · rw [if_pos k7] at hx st0
    cases hx
    exact sm_res Owk.trap hz nX ne ox rm hp0 ox.1.trp st0
  rw [if_neg k7] at hx st0
  by_cases k8 : kk = 8
  · rw [if_pos k8] at hx st0
    cases hx
    exact sm_res Owk.set hz nX ne ox rm hp0 ox.1.stt st0
  rw [if_neg k8] at hx st0
  by_cases k9 : kk = 9
  · rw [if_pos k9] at hx st0
    cases eo : opExit as (xf x) with
    | none =>
      rw [eo] at hx st0
      cases hx
      exact sm_st hz nX ne ox rm hp0 st0
    | some v1 =>
      rw [eo] at hx st0
      cases hx
      exact sm_end hz nX ox rm hp0 st0
  rw [if_neg k9] at hx st0
  by_cases k10 : kk = 10
  · rw [if_pos k10] at hx st0
    exact sm_rse hc ihc hx (hb.2.1 k10) hd hz nX ne ox rm hp st0
  rw [if_neg k10] at hx
  refine sm_wt (fg := decide (kk = 12)) hc ihj ihb wt hx (hb.2.2 (by omega)) hd hz nX ne ox rm hp kp (fun e => ?_) (fun w js => ?_)
  · have e := of_decide_eq_false e
    have e11 : kk = 11 := by omega
    rw [kkd, e11]; rfl
  · rw [st w js]
    unfold pmCll
    rw [if_neg k0, if_neg k1, if_neg k2, if_neg k3, if_neg k4, if_neg k5, if_neg k6, if_neg k7, if_neg k8, if_neg k9, if_neg k10]
theorem tbP_mem {β : Type} {l : List (Int64 × β)} {k : Int64} {v : β} {e : Int64 × β} (h : e ∈ tbP l k v) : e ∈ l ∨ e = (k, v) := by
  unfold tbP at h
  split at h
  · exact List.mem_or_eq_of_mem_set h
  · rcases List.mem_append.mp h with g | g
    · exact Or.inl g
    · exact Or.inr (List.mem_singleton.mp g)
theorem sm_bdy (hc : Cd D) (hf : Sf D T nn k) (ihs : ∀ v, Sm D T nn k (cScr v) 0 0) (ihh : ∀ v, Sm D T nn k (cCh v) 0 9000) (ihc : Sc D T nn k) (ihj : Sj D T nn k) (ihb : Sb D T nn k) (ihw : Sw D T nn k) (wt : WT T nn) (v : Int32) : Sm D T nn (k + 1) (cBdy v) 10000 6000 := by
  intro d g x x' p q en F K hx hb hz nX ne ⟨kk, ks⟩ hq ox rm
  obtain ⟨hd, hb⟩ := bx hb
  have hb : bBdy T (gEx T k) (bEx T k) d g v x := hb
  obtain ⟨b4, b5, b6, b7, b10⟩ := hb
  have hx : gBdy T (gEx T k) v x = some x' := hx
  have kz := hc.2.2
  cases kk with
  | zero => exact ks.elim
  | succ kk =>
  have ks : KS D T (kk + 1) 7 v p q := ks
  unfold KS at ks
  obtain ⟨i, e1, e2, e3⟩ : isK T nn kCmd v := hz.1
  obtain ⟨-, -, -, -, w4, w5, w6, w7, w8, w9, w10⟩ := wt.2 i v e1 e2
  unfold gBdy at hx
  obtain ⟨rm1, rm2, rm3⟩ := id rm
  have nh : ¬ hlt x = true := fun e => by
    have e : (wX (xw x) || xe x) = true := e
    rw [nX, ne] at e; cases e
  rcases ks with ⟨kk4, kp, ktg, r, ks1, kr, eq⟩ | ⟨kk5, ks1⟩ | ⟨kk6, r1, r2, ks1, k11, kt1, ks2, k9, kt2, ks3⟩ | ⟨kk7, k12, r1, r2, ks1, k13, kt1, ks2, k14, kt2, eq⟩ | ⟨kk8, kp, ktg, ci, kan, kpl, r, ks1, kr, eq⟩ | ⟨kk9, kp, ci, eq⟩ | ⟨kk10, kp, ci, eq⟩
  · -- a subshell
    rw [if_pos kk4] at hx
    have pr := KS.le _ _ _ _ _ _ _ ks1
    have pi := PI.at7 (en := en) hz nX ox rm (show p < kZ D by omega)
    obtain ⟨g1, hb1, hb2⟩ := b4 kk4
    unfold gRnd at hx
    obtain ⟨y1, hy1, h2⟩ := Option.bind_eq_some_iff.mp hx
    have hy2 : ∃ y2, (wX (xw y1) = true → y2 = y1) ∧ (wX (xw y1) = false → gEx T k cFin y1 = some y2) ∧ x' = (if wX (xw y2) = true then (xw y2, x.2) else (xw y2, vS (xf x) (fS (xf y2)), x.2.2)) := by
      by_cases cx : wX (xw y1) = true
      · rw [if_pos cx] at h2
        cases h2
        exact ⟨y1, fun _ => rfl, fun e => (by rw [cx] at e; cases e), by rw [if_pos cx]⟩
      · rw [if_neg cx] at h2
        obtain ⟨y2, hy2, h3⟩ := Option.bind_eq_some_iff.mp h2
        cases h3
        exact ⟨y2, fun e => absurd e cx, fun _ => hy2, rfl⟩
    obtain ⟨y2, hs, hF, ex⟩ := hy2
    have hz0 : Hz T nn (cScr (tA T v)) (frk (xw x), subF (xf x), false, []) := ⟨Or.inr (w4 kk4).is, ⟨(hz.2.1.1 : okF T nn (subF (xf x))), fun q hq => absurd hq List.not_mem_nil⟩, fun e => (hz.w0 (show (7 : Nat) ≠ 6 by decide) e : okW (frk (xw x)) 0 0)⟩
    have st : pmStep D (xw x, p, (xf x, en, xj x, F), K) = some (0, (frk (xw x), p + 1, (subF (xf x), false, [], []), ((nI q, 0, 0), (xf x, en, xj x, F)) :: K)) := by
      rw [stp kp]
      show pmFrk (xw x) p (xf x) en (xj x) F K (kTg D p) = _
      rw [ktg]
      rfl
    have rK : Rm (frk (xw x), subF (xf x), false, []) [] (((nI q, 0, 0), (xf x, en, xj x, F)) :: K) (d - 2) (g - 1) := by
      refine ⟨?_, ?_, ?_⟩
      · show 0 + (1 + F.length + nFK K) + (d - 2) ≤ 2800
        omega
      · show 0 + (nSL F + nSK K) ≤ wB (xw x)
        omega
      · show K.length + 1 + (g - 1) ≤ 95
        omega
    have p1 := mi_all wt k _ _ _ hy1 hz0
    have one := ihs (tA T v) (d - 2) (g - 1) (frk (xw x), subF (xf x), false, []) y1 (p + 1) r false [] _ hy1 hb1 hz0 nX rfl ⟨kk, ks1⟩ (by omega) ⟨ox.1.sub, Nat.zero_le _, fun e he => absurd he List.not_mem_nil⟩ rK
    have le1 : wB (xw x) ≤ wB (xw y1) := p1.2.1.2.2.1
    have two := sub_run (ex := 9000) (sl := 6000) hc hf one kr (by omega) le1 hs (fun e => ⟨hF e, hb2 y1 hy1 e, p1.hz (c2 := cFin) trivial (show (10 : Nat) ≠ 7 by decide) (show (10 : Nat) ≠ 6 by decide)⟩) rK (Nat.le_refl _) (by omega) (by omega) (by omega)
    obtain ⟨n1, f1, m1, a, bb, c, o⟩ := two
    have a := pmIt.step pi st a
    have bb : n1 + (p + 1) + 20000 * wB (xw x) + (if f1 = 0 then 6000 else 0) ≤ r + 9000 + 20000 * wB (xw y2) := bb
    rcases o with ⟨f0, nX2, pi2, st2⟩ | ⟨f1', yX, os⟩
    · subst f0
      rw [if_pos rfl] at bb
      rw [if_neg (by rw [nX2]; decide)] at ex
      subst ex
      have st3 : pmStep D m1 = some (0, (xw y2, q, (vS (xf x) (fS (xf y2)), en, xj x, F), K)) := by
        rw [st2]
        unfold pmLev
        simp only []
        rw [nI_clamp (by omega)]
        rfl
      refine SR0.done (a.tr (pmIt.one pi2 st3)) ox ?_ (Or.inl ⟨rfl, nX2, ne, rfl⟩)
      rw [if_pos rfl]
      show n1 + 1 + 1 + p + 20000 * wB (xw x) + 6000 ≤ q + 10000 + 20000 * wB (xw y2)
      omega
    · subst f1'
      rw [if_neg (by decide)] at bb
      rw [if_pos yX] at ex
      subst ex
      refine SR0.done a ox ?_ (Or.inr (Or.inr ⟨rfl, yX, os.par (x' := (xw y2, x.2)) rfl rfl feq.rf⟩))
      rw [if_neg (by decide)]
      show n1 + 1 + p + 20000 * wB (xw x) + 0 ≤ q + 10000 + 20000 * wB (xw y2)
      omega
  · -- braces
    rw [if_neg (by rw [kk5]; decide), if_pos kk5] at hx
    have q1 := ihs (tA T v) (d - 1) g x x' p q en F K hx (b5 kk5) (hz.to (c2 := cScr _) (show (7 : Nat) ≠ 6 by decide) (Or.inr (w5 kk5).is) (show (0 : Nat) ≠ 7 by decide)) nX ne ⟨kk, ks1⟩ hq ox (rm.le (by omega) (Nat.le_refl _))
    refine (SR0.pre (ex' := 10000) (sl' := 6000) pmIt.nil q1 (by omega) (by omega)).mono fun fl m o => ?_
    rcases o with o | ⟨o1, o2, o3, o4⟩ | o
    · exact Or.inl o
    · exact Or.inr (Or.inl ⟨o1, o2, o3, o4.up (by omega) (Nat.le_refl _)⟩)
    · exact Or.inr (Or.inr o)
  · -- if
    rw [if_neg (by rw [kk6]; decide), if_neg (by rw [kk6]; decide), if_pos kk6] at hx
    have l1 := KS.le _ _ _ _ _ _ _ ks1
    have l2 := KS.le _ _ _ _ _ _ _ ks2
    have l3 := KS.le _ _ _ _ _ _ _ ks3
    obtain ⟨hb1, hb2⟩ := b6 kk6
    obtain ⟨wA, wB', wC⟩ := w6 kk6
    unfold gIf at hx
    obtain ⟨x1, hx1, h2⟩ := Option.bind_eq_some_iff.mp hx
    have hz1 := hz.to (c2 := cCh (tA T v)) (show (7 : Nat) ≠ 6 by decide) wA.is (show (2 : Nat) ≠ 7 by decide)
    have pz := mi_all wt k _ _ _ hx1 hz1
    have one := ihh (tA T v) (d - 1) g x x1 p r1 en F K hx1 hb1 hz1 nX ne ⟨kk, ks1⟩ (by omega) ox (rm.le (by omega) (Nat.le_refl _))
    refine SR0.bnd (ex2 := 0) (sl2 := 0) one (by omega) pz.2.1.2.2.1 (fun nX1 ne1 ox1 => ?_) (fun e => by rw [if_pos e] at h2; cases h2; rfl) (by omega) (by omega) (by omega) (by omega) (by omega)
    have nh1 : ¬ hlt x1 = true := fun e => by
      have e : (wX (xw x1) || xe x1) = true := e
      rw [nX1, ne1] at e; cases e
    rw [if_neg nh1] at h2
    have hb3 := hb2 x1 hx1 (hlt_n nh1)
    have lx : wB (xw x) ≤ wB (xw x1) := pz.2.1.2.2.1
    have rm' : Rm x1 F K (d - 1) g := rm.le (by omega) lx
    have hzj : Hz T nn (cJbs 0) x1 := pz.hz (c2 := cJbs 0) trivial (show (11 : Nat) ≠ 7 by decide) (show (11 : Nat) ≠ 6 by decide)
    have pi1 := PI.at (en := en) hzj nX1 ox1 rm' (show r1 < kZ D by omega) k11 (by omega) (show (11 : Nat) ≠ 7 by decide)
    have st : pmStep D (xw x1, r1, (xf x1, en, xj x1, F), K) = some (0, (xw x1, (if fS (xf x1) = 0 then r1 + 1 else r2 + 1), (xf x1, en, xj x1, F), K)) := by
      rw [stp k11]
      show pmGo1 en K (xw x1) (if fS (xf x1) = 0 then r1 + 1 else kTg D r1) (xf x1) (xj x1) F = _
      rw [kt1]
    have upd : ∀ {r q n}, SR0 D T (xw x1, r, (xf x1, en, xj x1, F), K) x1 x' r q n 0 (Out D x1 x' q en F K (d - 1)) → SR0 D T (xw x1, r, (xf x1, en, xj x1, F), K) x1 x' r q n 0 (Out D x1 x' q en F K d) := fun h => h.mono fun fl m o => by
      rcases o with o | ⟨o1, o2, o3, o4⟩ | o
      · exact Or.inl o
      · exact Or.inr (Or.inl ⟨o1, o2, o3, o4.up (by omega) (Nat.le_refl _)⟩)
      · exact Or.inr (Or.inr o)
    by_cases s0 : fS (xf x1) = 0
    · rw [if_pos s0] at st h2 hb3
      have hz2 : Hz T nn (cScr (tB T v)) x1 := pz.hz (c2 := cScr (tB T v)) (Or.inr wB'.is) (show (0 : Nat) ≠ 7 by decide) (show (0 : Nat) ≠ 6 by decide)
      have pz2 := mi_all wt k _ _ _ h2 hz2
      have two := upd (ihs (tB T v) (d - 1) g x1 x' (r1 + 1) r2 en F K h2 hb3 hz2 nX1 ne1 ⟨kk, ks2⟩ (by omega) ox1 rm')
      have thr : SR0 D T (xw x1, r1 + 1, (xf x1, en, xj x1, F), K) x1 x' (r1 + 1) q 0 0 (Out D x1 x' q en F K d) := by
        refine SR0.bnd (ex2 := 0) (sl2 := 0) two (Nat.le_refl _) pz2.2.1.2.2.1 (fun nX2 ne2 ox2 => ?_) (fun _ => rfl) (by omega) (by omega) (by omega) (by omega) (by omega)
        have hzj2 : Hz T nn (cJbs 0) x' := pz2.hz (c2 := cJbs 0) trivial (show (11 : Nat) ≠ 7 by decide) (show (11 : Nat) ≠ 6 by decide)
        have pi2 := PI.at (en := en) hzj2 nX2 ox2 (rm'.le (Nat.le_refl _) pz2.2.1.2.2.1) (show r2 < kZ D by omega) k9 (by omega) (show (11 : Nat) ≠ 7 by decide)
        have st2 : pmStep D (xw x', r2, (xf x', en, xj x', F), K) = some (0, (xw x', q, (xf x', en, xj x', F), K)) := by
          rw [stp k9]
          show pmGo1 en K (xw x') (kTg D r2) (xf x') (xj x') F = _
          rw [kt2]
        exact SR0.done (pmIt.one pi2 st2) ox2 (by rw [if_pos rfl]; omega) (Or.inl ⟨rfl, nX2, ne2, rfl⟩)
      exact SR0.pre (n0 := 1) (pmIt.one pi1 st) thr (by omega) (by omega)
    · rw [if_neg s0] at st h2 hb3
      have hz2 : Hz T nn (cScr (tC T v)) x1 := pz.hz (c2 := cScr (tC T v)) wC.is (show (0 : Nat) ≠ 7 by decide) (show (0 : Nat) ≠ 6 by decide)
      have two := upd (ihs (tC T v) (d - 1) g x1 x' (r2 + 1) q en F K h2 hb3 hz2 nX1 ne1 ⟨kk, ks3⟩ hq ox1 rm')
      exact SR0.pre (n0 := 1) (pmIt.one pi1 st) two (by omega) (by omega)
  · -- while
    rw [if_neg (by rw [kk7]; decide), if_neg (by rw [kk7]; decide), if_neg (by rw [kk7]; decide), if_pos kk7] at hx
    have l1 := KS.le _ _ _ _ _ _ _ ks1
    have l2 := KS.le _ _ _ _ _ _ _ ks2
    obtain ⟨hb1, hb2⟩ := b7 kk7
    obtain ⟨wA, wB'⟩ := w7 kk7
    obtain ⟨x1, hx1, h2⟩ := Option.bind_eq_some_iff.mp hx
    have hz1 := hz.to (c2 := cCh (tA T v)) (show (7 : Nat) ≠ 6 by decide) wA.is (show (2 : Nat) ≠ 7 by decide)
    have pz := mi_all wt k _ _ _ hx1 hz1
    have lx : wB (xw x) ≤ wB (xw x1) := pz.2.1.2.2.1
    have rmf : ∀ {x1 : spX} {d' : Nat}, d' + 1 ≤ d → wB (xw x) ≤ wB (xw x1) → Rm x1 ((5, 0, 0, 0, pmN, none) :: F) K d' g := fun {x1 d'} h1 h2 =>
      ⟨(by show F.length + 1 + nFK K + d' ≤ 2800; omega), (by show 0 + nSL F + nSK K ≤ wB (xw x1); omega), rm3⟩
    have st : pmStep D (xw x, p, (xf x, en, xj x, F), K) = some (0, (xw x, p + 1, (xf x, en, xj x, (5, 0, 0, 0, pmN, none) :: F), K)) := by
      rw [stp k12]; rfl
    have pi := PI.at7 (en := en) hz nX ox rm (show p < kZ D by omega)
    have one := ihh (tA T v) (d - 2) g x x1 (p + 1) r1 en ((5, 0, 0, 0, pmN, none) :: F) K hx1 hb1 hz1 nX ne ⟨kk, ks1⟩ (by omega) ox (rmf (by omega) (Nat.le_refl _))
    obtain ⟨n1, f1, m1, a1, b1, c1, o1⟩ := one
    have a1 := pmIt.step pi st a1
    have fin : hlt x1 = true → x' = x1 := fun e => by
      cases k with
      | zero => cases h2
      | succ k =>
        have h2 : gWhl T (gEx T k) v 0 x1 = some x' := h2
        unfold gWhl at h2
        rw [if_pos e] at h2
        cases h2; rfl
    rcases o1 with ⟨f0, nX1, ne1, em⟩ | ⟨f0, nX1, ne1, oe⟩ | ⟨f1', yX, os⟩
    · subst f0
      rw [if_pos rfl] at b1
      have hz2 : Hz T nn (cWhl v 0) x1 := pz.hz (c2 := cWhl v 0) ⟨⟨i, e1, e2, kk7⟩, st0⟩ (show (8 : Nat) ≠ 7 by decide) (show (8 : Nat) ≠ 6 by decide)
      have two := ihw v 0 (d - 1) g x1 x' r1 r2 (p + 1) q en F K h2 (hb2 x1 hx1) hz2 nX1 ne1 ⟨kk, ks1⟩ k13 kt1 ⟨kk, ks2⟩ k14 kt2 eq hq c1 (rmf (by omega) lx)
      obtain ⟨n2, f2, m2, a2, b2, c2, o2⟩ := two
      rw [em] at a1
      refine ⟨n1 + 1 + n2, f2, m2, a1.tr a2, ?_, c2, ?_⟩
      · by_cases e : f2 = 0
        · rw [if_pos e] at b2 ⊢; omega
        · rw [if_neg e] at b2 ⊢; omega
      · rcases o2 with o2 | ⟨z1, z2, z3, z4⟩ | o2
        · exact Or.inl o2
        · exact Or.inr (Or.inl ⟨z1, z2, z3, z4.up (by omega) lx⟩)
        · exact Or.inr (Or.inr o2)
    · subst f0
      rw [if_pos rfl] at b1
      rw [fin (by rw [hlt_eq]; show (wX (xw x1) || xe x1) = true; rw [ne1, Bool.or_true])]
      refine ⟨n1 + 1, 0, m1, a1, ?_, c1, Or.inr (Or.inl ⟨rfl, nX1, ne1, (oe.pop1 (show (5 : Nat) ≠ 1 by decide)).up (by omega) (Nat.le_refl _)⟩)⟩
      rw [if_pos rfl]; omega
    · subst f1'
      rw [if_neg (by decide)] at b1
      rw [fin (hlt_X yX)]
      refine ⟨n1 + 1, 1, m1, a1, ?_, c1, Or.inr (Or.inr ⟨rfl, yX, os⟩)⟩
      rw [if_neg (by decide)]; omega
  · -- def
    rw [if_neg (by rw [kk8]; decide), if_neg (by rw [kk8]; decide), if_neg (by rw [kk8]; decide), if_neg (by rw [kk8]; decide), if_pos kk8] at hx
    cases hx
    have pr := KS.le _ _ _ _ _ _ _ ks1
    have enm : kNm D (kOp D p) = tM T v := ci.2.2.2.1 (Or.inl kk8)
    have fnA : FN D T (tA T v) := ⟨r, by rw [kpl]; exact ⟨kk, ks1⟩, kr, by omega⟩
    have st : pmStep D (xw x, p, (xf x, en, xj x, F), K) = some (0, (xw (gDef T v x), q, (xf (gDef T v x), en, xj (gDef T v x), F), K)) := by
      rw [stp kp]
      show pmDef D (xw x) p (xf x) en (xj x) F K (kTg D p) (kOp D p) = _
      unfold pmDef gDef
      rw [enm, kan, ktg]
      cases tbF (fU (xf x)) (tM T v) with
      | some _ => rfl
      | none =>
        show (if 10 ≤ (fU (xf x)).length then _ else _) = some (0, (xw (if 10 ≤ (fU (xf x)).length then _ else _), q, (xf (if 10 ≤ (fU (xf x)).length then _ else _), en, xj (if 10 ≤ (fU (xf x)).length then _ else _), F), K))
        by_cases c10 : 10 ≤ (fU (xf x)).length
        · rw [if_pos c10, if_pos c10]
        · rw [if_neg c10, if_neg c10]
    have hw : xw (gDef T v x) = xw x ∧ xe (gDef T v x) = xe x ∧ okX D T (gDef T v x) := by
      have nw : okX D T (zf x (vS (vU (xf x) (tbP (fU (xf x)) (tM T v) (tA T v))) 0)) := ⟨⟨fun e he => by
        rcases tbP_mem he with g | g
        · exact ox.1.1 e g
        · rw [g]; exact fnA, ox.1.2⟩, ox.2⟩
      unfold gDef
      split
      · exact ⟨rfl, rfl, nw⟩
      · split
        · exact ⟨rfl, rfl, ox.st⟩
        · exact ⟨rfl, rfl, nw⟩
    refine SR0.done (pmIt.one (PI.at7 hz nX ox rm (by omega)) st) hw.2.2 ?_ (Or.inl ⟨rfl, by rw [hw.1]; exact nX, by rw [hw.2.1]; exact ne, rfl⟩)
    rw [if_pos rfl, hw.1]
    omega
  · -- an assignment
    rw [if_neg (by rw [kk9]; decide), if_neg (by rw [kk9]; decide), if_neg (by rw [kk9]; decide), if_neg (by rw [kk9]; decide), if_neg (by rw [kk9]; decide), if_pos kk9] at hx
    cases hx
    subst eq
    refine sm_res Owk.asgn hz nX ne ox rm (by omega) ox.1.ass ?_
    rw [stp kp]
    show pmRes D p en (xj x) F K (opAsgn (kNm D (kOp D p)) (((kAr D (kOp D p)).map (evA (xf x))).getD 0 []) (xw x) (xf x)) = _
    rw [ci.2.2.2.1 (Or.inr (Or.inl kk9)), ci.2.2.2.2 (Or.inl kk9)]
  · -- a plain command
    rw [if_neg (by rw [kk10]; decide), if_neg (by rw [kk10]; decide), if_neg (by rw [kk10]; decide), if_neg (by rw [kk10]; decide), if_neg (by rw [kk10]; decide), if_neg (by rw [kk10]; decide)] at hx
    subst eq
    have c12 := cmdK_le (tM T v)
    have kkd : kKd D (kOp D p) = nI (cmdK (tM T v)) := by rw [ci.1, if_neg (by rw [kk10]; decide), if_pos kk10]
    refine sm_pln hc ihc ihj ihb wt c12 hx (b10 kk10) hd hz nX ne ox rm hq kp kkd (fun w js => ?_)
    rw [stp kp]
    show pmCll D w p (xf x) en js F K (kKd D (kOp D p)).toNatClampNeg (kNm D (kOp D p)) ((kAr D (kOp D p)).map (evA (xf x))) = _
    rw [kkd, nI_clamp (by omega), ci.2.2.2.1 (Or.inr (Or.inr kk10)), ci.2.2.2.2 (Or.inr kk10)]
/-- THE CLASS'S MACHINE DOES WHAT THE MIDDLE SAYS -/
def Mall (D : pmC) (T : spT) (nn k : Nat) : Prop := (∀ v, Sm D T nn k (cScr v) 0 0) ∧ (∀ v, Sm D T nn k (cChs v) 0 0) ∧ (∀ v, Sm D T nn k (cCh v) 0 9000) ∧ (∀ v, Sm D T nn k (cPps v) 0 (if v ≠ -1 ∧ tC T v = 0 then 9000 else 0)) ∧ (∀ v, Sm D T nn k (cPp v) 0 9000) ∧
  Sv D T nn k ∧ Sv1 D T nn k ∧ (∀ v, Sm D T nn k (cCmd v) 0 13000) ∧ (∀ v, Sm D T nn k (cBdy v) 10000 6000) ∧ Sw D T nn k ∧ Sc D T nn k ∧ Sf D T nn k ∧ Sb D T nn k ∧ Sj D T nn k
theorem sm_all (hc : Cd D) (wt : WT T nn) : ∀ k, Mall D T nn k := by
  intro k
  induction k with
  | zero =>
    have A : ∀ c ex sl, Sm D T nn 0 c ex sl := by intro c ex sl d g x x' p q en F K e; cases e
    refine ⟨fun _ => A _ _ _, fun _ => A _ _ _, fun _ => A _ _ _, fun _ => A _ _ _, fun _ => A _ _ _, ?_, ?_, fun _ => A _ _ _, fun _ => A _ _ _, ?_, ?_, ?_, ?_, ?_⟩
    · intro v l rr ah ac d g x x' p q en F K e; cases e
    · intro v d g x x' p q r en F K e; cases e
    · intro v l d g x x' r1 r2 p0 q en F K e; cases e
    · intro v d g x x' en F K kd ret a e; cases e
    · intro d g y y' p0 f' E K e; cases e
    · intro j d g x x' en F K p0 G m0 e; cases e
    · intro j b d g x x' en F K bh pu e; cases e
  | succ k ih =>
    obtain ⟨scr, chs, ch, pps, pp, sv, sv1, cmd, bdy, wh, ca, fi, jb, jo⟩ := ih
    exact ⟨sm_scr chs wt, sm_chs chs ch wt, sm_ch pps wt, sm_pps pps pp wt, sm_pp cmd sv1 wt, sm_sv hc fi cmd sv wt, sm_sv1 hc fi cmd sv wt, sm_cmd bdy wt, sm_bdy hc fi scr ch ca jo jb wh wt, sm_whl hc scr ch wh wt, sm_cal hc scr wt, sm_fin hc ca jb wt, sm_jbs jo jb wt, sm_job hc fi ch wt⟩
end MXPI
