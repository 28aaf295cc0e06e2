/-! THE MACHINE DOES THE TASKS: subshells, pipelines of several commands, commands -/
section MXPC
variable {D : pmC} {T : spT} {nn k d d1 d2 d' g g2 p q r s : Nat} {x x0 x1 x' y y0 y1 y2 : spX} {en : Bool} {F fr : List pmF} {K K' : List (pmU × pmL)} {m m1 m' : pmM} {v l rr ac : Int32} {c : spC} {ex ex' ex1 ex2 sl sl' sl1 sl2 n0 fl : Nat} {O O' : Nat → pmM → Prop} {w w1 : spW} {f f1 : spF} {js : List spJ} {ah : Option Nat} {u : pmU}
theorem red_vH {r : spR} (h : redOp r w f = some (w1, f1)) : f1 = vH f (fH f1) := by
  unfold redOp at h
  split at h
  · split at h
    · cases h
    · cases h; rfl
  · split at h
    · split at h
      · cases h
      · cases h; rfl
    · split at h
      · split at h
        · cases h
        · cases h; rfl
      · split at h
        · split at h
          · cases h
          · cases h; rfl
        · cases h; rfl
theorem reds_vH : ∀ (l : List spR) (w : spW) (f : spF), (redOps l w f).2.2 = vH f (fH (redOps l w f).2.2)
  | [], w, f => rfl
  | r :: l, w, f => by
    unfold redOps
    cases e : redOp r w f with
    | none => rfl
    | some wf =>
      have a := red_vH (w1 := wf.1) (f1 := wf.2) e
      have b := reds_vH l wf.1 wf.2
      show (redOps l wf.1 wf.2).2.2 = vH f (fH (redOps l wf.1 wf.2).2.2)
      generalize (redOps l wf.1 wf.2).2.2 = X at b ⊢
      exact b.trans (show vH wf.2 (fH X) = vH (vH f (fH wf.2)) (fH X) from congrArg (fun q => vH q (fH X)) a)
theorem pip_vH {b : Bool} : (pipd w f ah b).2.1 = vH f (fH (pipd w f ah b).2.1) := by
  unfold pipd
  cases ah <;> cases b <;> rfl
theorem okX1.sub (h : okX1 D T f) : okX1 D T (subF f) := by
  refine ⟨h.1, fun g => ?_, h.2.2.1, h.2.2.1⟩
  show (if fA f g = -2 then (-2 : Int64) else 0) = 0 ∨ (if fA f g = -2 then (-2 : Int64) else 0) = -2 ∨ 0 < (if fA f g = -2 then (-2 : Int64) else 0)
  split
  · exact Or.inr (Or.inl rfl)
  · exact Or.inl rfl
theorem okX1.vh (h : okX1 D T f) {hs : spH} : okX1 D T (vH f hs) := h
/-- the shell's code ends in a step that leaves it -/
def Cd (D : pmC) : Prop := kSt D (kZ D - 1) = 21 ∧ 0 < kZ D ∧ kZ D ≤ 2802
/-- a shell that ends: it is about to be left -/
def OutF (D : pmC) (y' : spX) (K : List (pmU × pmL)) (fl : Nat) (m' : pmM) : Prop :=
  (fl = 0 ∧ wX (xw y') = false ∧ PI D m' ∧ pmStep D m' = pmLev D (xw y') (xj y') K (xf y')) ∨ (fl = 1 ∧ wX (xw y') = true ∧ OutS y' K m')
def Sf (D : pmC) (T : spT) (nn k : Nat) : Prop := ∀ d g y y' p0 f' E K, gEx T k cFin y = some y' → bEx T k d g cFin y → Hz T nn cFin y → wX (xw y) = false → kSt D p0 = 21 → p0 < kZ D → okX D T y → feq f' (xf y) → unw E (fH f') = fH (xf y) → fN f' ≤ 4 →
  E.length + nFK K ≤ 2900 → nSL E + nSK K ≤ wB (xw y) → Rm y [] K d g → SR0 D T (xw y, p0, (f', false, xj y, E), K) y y' 0 0 9000 6000 (OutF D y' K)
theorem sub_run (hc : Cd D) (hf : Sf D T nn k) (h1 : SR0 D T m y0 y1 p r ex1 sl1 (Out D y0 y1 r false [] K' d1)) (kr : kSt D r = 21) (hr : r < kZ D) (hw : wB (xw y0) ≤ wB (xw y1)) (hs : wX (xw y1) = true → y2 = y1)
    (hF : wX (xw y1) = false → gEx T k cFin y1 = some y2 ∧ bEx T k d2 g2 cFin y1 ∧ Hz T nn cFin y1) (rm : Rm y0 [] K' d1 g2) (hd : d2 ≤ d1)
    (a1 : ex1 ≤ ex) (a2 : ex1 + 9000 ≤ ex + sl1) (a3 : sl + ex1 + 3000 ≤ ex + sl1) : SR0 D T m y0 y2 p r ex sl (OutF D y2 K') := by
  obtain ⟨n, fl, m', a, b, c, o⟩ := h1
  obtain ⟨rm1, rm2, rm3⟩ := rm
  have rm1 : 0 + nFK K' + d1 ≤ 2800 := rm1
  have rm2 : 0 + nSK K' ≤ wB (xw y0) := rm2
  have go : ∀ p0 f' E, wX (xw y1) = false → m' = (xw y1, p0, (f', false, xj y1, E), K') → fl = 0 → kSt D p0 = 21 → p0 < kZ D → feq f' (xf y1) → unw E (fH f') = fH (xf y1) → fN f' ≤ 4 → E.length ≤ d1 → nSL E + wB (xw y0) ≤ wB (xw y1) → SR0 D T m y0 y2 p r ex sl (OutF D y2 K') := by
    intro p0 f' E nX e f0 kp hp fe ue n4 le ns
    subst f0
    subst e
    rw [if_pos rfl] at b
    obtain ⟨e1, e2, e3⟩ := hF nX
    obtain ⟨n2, fl2, m2, b1, b2, b3, b4⟩ := hf d2 g2 y1 y2 p0 f' E K' e1 e2 e3 nX kp hp c fe ue n4 (by omega) (by omega) ⟨(by show 0 + nFK K' + d2 ≤ 2800; omega), (by show 0 + nSK K' ≤ _; omega), rm3⟩
    refine ⟨n + n2, fl2, m2, a.tr b1, ?_, b3, b4⟩
    by_cases e : fl2 = 0
    · rw [if_pos e] at b2 ⊢; omega
    · rw [if_neg e] at b2 ⊢; omega
  rcases o with ⟨f0, nX, ne, e⟩ | ⟨f0, nX, ne, f', E, e, fe, ue, le, ns, n4⟩ | ⟨f1, yX, os⟩
  · exact go r (xf y1) [] nX e f0 kr hr feq.rf rfl c.1.2.2.1 (Nat.zero_le _) (by show 0 + _ ≤ _; omega)
  · rw [List.append_nil] at e
    exact go (kZ D - 1) f' E nX e f0 hc.1 (by have := hc.2.1; omega) fe ue n4 le ns
  · have e := hs yX
    subst e
    subst f1
    rw [if_neg (by decide)] at b
    exact ⟨n, 1, m', a, by rw [if_neg (by decide)]; omega, c, Or.inr ⟨rfl, yX, os⟩⟩
theorem OutS.par {x' : spX} (h : OutS y ((u, (f, en, js, fr)) :: K) m') (hw : xw x' = xw y) (hj : xj x' = js) (hf : feq f (xf x')) : OutS x' K m' := by
  obtain ⟨h1, up, f', en', E', h2, h3⟩ := h
  refine ⟨h1.trans hw.symm, up ++ [(f', en', xj y, E')], f, en, fr, ?_, hf⟩
  rw [h2, hj, List.append_assoc]
  rfl
/-- the kind of a pipeline's frame, when v is the next command -/
def kq (v : Int32) : Nat := if v = -1 then 8 else 6
theorem kq_ne (v : Int32) : kq v ≠ 1 := by unfold kq; split <;> decide
theorem kq_68 (v : Int32) : kq v = 6 ∨ kq v = 8 := by
  unfold kq
  split
  · exact Or.inr rfl
  · exact Or.inl rfl
theorem nSL_q {q : pmF} (h : q.1 ≠ 1) : nSL (q :: fr) = nSL fr := by
  show (if q.1 = 1 then 1 else 0) + nSL fr = _
  rw [if_neg h, Nat.zero_add]
/-- the rest of a pipeline of several commands -/
def Sv (D : pmC) (T : spT) (nn k : Nat) : Prop := ∀ v l rr ah ac d g x x' p q en F K, gEx T k (cSev v l rr ah) x = some x' → bEx T k d g (cSev v l rr ah) x → Hz T nn (cSev v l rr ah) x → wX (xw x) = false → xe x = false → KX D T 5 v p q → q < kZ D → okX D T x → Rm x ((kq v, l, rr, ac, pmN, ah) :: F) K d g →
  SR0 D T (xw x, p, (xf x, en, xj x, (kq v, l, rr, ac, pmN, ah) :: F), K) x x' p q 0 (if v = -1 then 0 else 9000) (Out D x x' q en F K d)
/-- its first command -/
def Sv1 (D : pmC) (T : spT) (nn k : Nat) : Prop := ∀ v d g x x' p q r en F K, gEx T k (cSev v 0 0 none) x = some x' → bEx T k d g (cSev v 0 0 none) x → Hz T nn (cSev v 0 0 none) x → wX (xw x) = false → xe x = false → v ≠ -1 → tN T v ≠ -1 → kSt D p = 17 → kTg D p = r + 1 → KX D T 6 v (p + 1) r → kSt D r = 21 → KX D T 5 (tN T v) (r + 1) q → q < kZ D → okX D T x → Rm x ((6, 0, 0, -1, pmN, none) :: F) K d g →
  SR0 D T (xw x, p, (xf x, en, xj x, F), K) x x' p q 0 9000 (Out D x x' q en F K d)
theorem sev_el (hc : Cd D) (hf : Sf D T nn k) (ihc : ∀ v, Sm D T nn k (cCmd v) 0 13000) (ihs : Sv D T nn k) (wt : WT T nn)
    (hx : gEx T (k + 1) (cSev v l rr ah) x = some x') (hb : bEx T (k + 1) d g (cSev v l rr ah) x) (hz : Hz T nn (cSev v l rr ah) x) (nX : wX (xw x) = false) (ne : xe x = false) (c1 : v ≠ -1)
    (ks1 : KX D T 6 v (p + 1) r) (kr : kSt D r = 21) (ks2 : KX D T 5 (tN T v) (r + 1) q) (hq : q < kZ D) (ox : okX D T x) (rm : Rm x ((kq v, l, rr, ac, pmN, ah) :: F) K d g) (pi : PI D m) {ac' : Int32}
    (st : pmStep D m = some (0, ((pipd (frk (xw x)) (subF (xf x)) ah (decide (tN T v = -1))).1, p + 1, ((pipd (frk (xw x)) (subF (xf x)) ah (decide (tN T v = -1))).2.1, false, [], []), ((nI (r + 1), 1, 0), (xf x, en, xj x, (kq (tN T v), l, rr, ac', pmN, (pipd (frk (xw x)) (subF (xf x)) ah (decide (tN T v = -1))).2.2) :: F)) :: K))) :
    SR0 D T m x x' p q 0 9000 (Out D x x' q en F K d) := by
  obtain ⟨hd, hb⟩ := bx hb
  have hb : bSev T (gEx T k) (bEx T k) d g v l rr ah x := hb
  have hx : gSev T (gEx T k) v l rr ah x = some x' := hx
  have nX' : ¬ wX (xw x) = true := by rw [nX]; decide
  unfold gSev at hx
  rw [if_neg (fun e => e.elim c1 nX')] at hx
  obtain ⟨hk1, hl, hr⟩ : (v = -1 ∨ isK T nn kCmd v) ∧ stat l ∧ stat rr := hz.1
  obtain ⟨i, e1, e2, e3⟩ := hk1.resolve_left c1
  have nx := ((wt.2 i v e1 e2).2.2.2.1 e3).1.is
  rcases hb with e | e | ⟨g1, hb1, hb2⟩
  · exact absurd e c1
  · exact absurd e nX'
  obtain ⟨y1, hy1, h2⟩ := Option.bind_eq_some_iff.mp hx
  obtain ⟨y2, hy2, hx3⟩ := Option.bind_eq_some_iff.mp h2
  obtain ⟨hb3, hb4⟩ := hb2 y1 hy1
  have hb5 := hb4 y2 hy2
  have w0 := hz.w0 (show (5 : Nat) ≠ 6 by decide) nX
  obtain ⟨P1, P2, P3, P4⟩ := pip_N (w := frk (xw x)) (f := subF (xf x)) (p := ah) (b := decide (tN T v = -1))
  have pv := pip_vH (w := frk (xw x)) (f := subF (xf x)) (ah := ah) (b := decide (tN T v = -1))
  have hz0 : Hz T nn (cCmd v) ((pipd (frk (xw x)) (subF (xf x)) ah (decide (tN T v = -1))).1, (pipd (frk (xw x)) (subF (xf x)) ah (decide (tN T v = -1))).2.1, false, []) := ⟨⟨i, e1, e2, e3⟩, ⟨okF.pip hz.2.1.1, fun q hq => absurd hq List.not_mem_nil⟩, fun _ => okW.pip w0⟩
  have lp : Le (xw x) (pipd (frk (xw x)) (subF (xf x)) ah (decide (tN T v = -1))).1 := Le.pip (w := frk (xw x))
  generalize pipd (frk (xw x)) (subF (xf x)) ah (decide (tN T v = -1)) = R at P1 P2 P3 P4 pv hz0 lp st hy1 hx3 hb1 hb3 hb5
  have P3 : wX R.1 = wX (xw x) := P3
  have P4 : wB R.1 = wB (xw x) := P4
  have oR : okX D T (R.1, R.2.1, false, []) := by
    refine ⟨?_, Nat.zero_le _, fun e he => absurd he List.not_mem_nil⟩
    show okX1 D T R.2.1
    rw [pv]
    exact ox.1.sub.vh
  have p1 := mi_all wt k _ _ _ hy1 hz0
  obtain ⟨rm1, rm2, rm3⟩ := rm
  have rm1 : F.length + 1 + nFK K + d ≤ 2800 := rm1
  rw [nSL_q (kq_ne v)] at rm2
  have rK : Rm (R.1, R.2.1, false, []) [] (((nI (r + 1), 1, 0), (xf x, en, xj x, (kq (tN T v), l, rr, ac', pmN, R.2.2) :: F)) :: K) (d - 1) (g - 1) := by
    refine ⟨?_, ?_, ?_⟩
    · show 0 + (1 + (F.length + 1) + nFK K) + (d - 1) ≤ 2800
      omega
    · show 0 + (nSL ((kq (tN T v), l, rr, ac', pmN, R.2.2) :: F) + nSK K) ≤ wB R.1
      rw [nSL_q (kq_ne _)]
      omega
    · show K.length + 1 + (g - 1) ≤ 95
      omega
  have r2 := KS.le _ _ _ _ _ _ _ ks1.choose_spec
  have r3 := KS.le _ _ _ _ _ _ _ ks2.choose_spec
  have one := ihc v (d - 1) (g - 1) (R.1, R.2.1, false, []) y1 (p + 1) r false [] _ hy1 hb1 hz0 (P3.trans nX) rfl ks1 (by omega) oR rK
  have le1 : wB R.1 ≤ wB (xw y1) := p1.2.1.2.2.1
  have hzf : wX (xw y1) = false → Hz T nn cFin y1 := fun e => p1.hz (c2 := cFin) trivial (show (10 : Nat) ≠ 7 by decide) (show (10 : Nat) ≠ 6 by decide)
  have hs : wX (xw y1) = true → y2 = y1 := fun e => by rw [if_pos e] at hy2; cases hy2; rfl
  have hF : wX (xw y1) = false → gEx T k cFin y1 = some y2 := fun e => by rw [if_neg (by rw [e]; decide)] at hy2; exact hy2
  have two := sub_run (ex := 0) (sl := 10000) hc hf one kr (by omega) le1 hs (fun e => ⟨hF e, hb3 e, hzf e⟩) rK (Nat.le_refl _) (by omega) (by omega) (by omega)
  have p2 : okS T nn y2.2 ∧ Le (xw y1) (xw y2) ∧ (wX (xw y2) = false → okW (xw y2) 0 0) := by
    split at hy2
    · rename_i cx; cases hy2; exact ⟨p1.1, Le.rf, fun e => by rw [cx] at e; cases e⟩
    · rename_i cx
      have cx' : wX (xw y1) = false := by cases e : wX (xw y1) with
        | false => rfl
        | true => exact absurd e cx
      have := mi_all wt k _ _ _ hy2 (hzf cx')
      exact ⟨this.1, this.2.1, this.2.2.2⟩
  have l2 : Le (xw x) (xw y2) := lp.tr (Le.tr p1.2.1 p2.2.1)
  have wy2 : wB R.1 ≤ wB (xw y2) := Nat.le_trans le1 p2.2.1.2.2.1
  obtain ⟨n1, f1, m1, a, b, c, o⟩ := two
  have a := pmIt.step pi st a
  have b : n1 + (p + 1) + 20000 * wB R.1 + (if f1 = 0 then 10000 else 0) ≤ r + 0 + 20000 * wB (xw y2) := b
  rw [P4] at b
  rcases o with ⟨f0, nX2, pi2, st2⟩ | ⟨f1', yX, os⟩
  · subst f0
    rw [if_pos rfl] at b
    have kz := hc.2.2
    have st3 : pmStep D m1 = some (0, (xw y2, r + 1, (xf x, en, xj x, (kq (tN T v), fS (xf y2), (if fS (xf y2) = 0 then rr else fS (xf y2)), ac', pmN, R.2.2) :: F), K)) := by
      rw [st2]
      unfold pmLev
      simp only []
      rw [nI_clamp (by omega)]
      exact if_pos (kq_68 _)
    have ox2 : okX D T (xw y2, x.2) := ox
    have hz2 : Hz T nn (cSev (tN T v) (fS (xf y2)) (if fS (xf y2) = 0 then rr else fS (xf y2)) R.2.2) (xw y2, x.2) := ⟨⟨nx, p2.1.1.1, by split; exact hr; exact p2.1.1.1⟩, hz.2.1, fun e => p2.2.2 e⟩
    have l3 : wB (xw x) ≤ wB (xw y2) := l2.2.2.1
    have thr := ihs (tN T v) (fS (xf y2)) (if fS (xf y2) = 0 then rr else fS (xf y2)) R.2.2 ac' d g (xw y2, x.2) x' (r + 1) q en F K hx3 hb5 hz2 nX2 ne ks2 hq ox2 ⟨rm1, (by rw [nSL_q (kq_ne _)]; show nSL F + nSK K ≤ wB (xw y2); omega), rm3⟩
    obtain ⟨n3, f3, m3, a3, b3, c3, o3⟩ := thr
    have b3 : n3 + (r + 1) + 20000 * wB (xw y2) + (if f3 = 0 then (if tN T v = -1 then 0 else 9000) else 0) ≤ q + 0 + 20000 * wB (xw x') := b3
    refine ⟨n1 + 1 + (1 + n3), f3, m3, a.tr ((pmIt.one pi2 st3).tr a3), ?_, c3, ?_⟩
    · by_cases e : f3 = 0
      · rw [if_pos e] at b3 ⊢; omega
      · rw [if_neg e] at b3 ⊢; omega
    · rcases o3 with o3 | ⟨z1, z2, z3, z4⟩ | o3
      · exact Or.inl o3
      · exact Or.inr (Or.inl ⟨z1, z2, z3, z4.up (Nat.le_refl _) l3⟩)
      · exact Or.inr (Or.inr o3)
  · subst f1'
    rw [if_neg (by decide)] at b
    have ex' : x' = (xw y2, x.2) := by
      cases k with
      | zero => cases hx3
      | succ k =>
        have hx3 : gSev T (gEx T k) (tN T v) (fS (xf y2)) (if fS (xf y2) = 0 then rr else fS (xf y2)) R.2.2 (xw y2, x.2) = some x' := hx3
        unfold gSev at hx3
        have yX' : wX (xw ((xw y2, x.2) : spX)) = true := yX
        rw [if_pos (Or.inr yX'), if_pos yX'] at hx3
        cases hx3; rfl
    refine ⟨n1 + 1, 1, m1, a, ?_, ?_, ?_⟩
    · rw [if_neg (by decide), ex']
      show n1 + 1 + p + 20000 * wB (xw x) + 0 ≤ q + 0 + 20000 * wB (xw y2)
      omega
    · rw [ex']; exact ox
    · rw [ex']
      exact Or.inr (Or.inr ⟨rfl, yX, os.par (x' := (xw y2, x.2)) rfl rfl feq.rf⟩)
theorem sm_sv (hc : Cd D) (hf : Sf D T nn k) (ihc : ∀ v, Sm D T nn k (cCmd v) 0 13000) (ihs : Sv D T nn k) (wt : WT T nn) : Sv D T nn (k + 1) := by
  intro v l rr ah ac d g x x' p q en F K hx hb hz nX ne ⟨kk, ks⟩ hq ox rm
  cases kk with
  | zero => exact ks.elim
  | succ kk =>
  unfold KS at ks
  have nX' : ¬ wX (xw x) = true := by rw [nX]; decide
  by_cases c1 : v = -1
  · rw [if_pos c1] at ks
    have hx : gSev T (gEx T k) v l rr ah x = some x' := hx
    unfold gSev at hx
    rw [if_pos (Or.inl c1), if_neg nX'] at hx
    cases hx
    rw [if_pos c1]
    obtain ⟨k20, rfl⟩ := ks
    have kv : kq v = 8 := if_pos c1
    rw [kv] at rm ⊢
    have st : pmStep D (xw x, p, (xf x, en, xj x, (8, l, rr, ac, pmN, ah) :: F), K) = some (0, (xw x, p + 1, (vS (xf x) (if fP (xf x) = true then rr else l), en, xj x, F), K)) := by
      rw [stp k20]; rfl
    refine SR0.done (pmIt.one (PI.at hz nX ox rm (by omega) k20 (by omega) (show (5 : Nat) ≠ 7 by decide)) st) ox.st ?_ (Or.inl ⟨rfl, nX, ne, rfl⟩)
    rw [if_pos rfl]
    show 1 + p + 20000 * wB (xw x) + 0 ≤ p + 1 + 0 + 20000 * wB (xw x)
    omega
  · rw [if_neg c1] at ks
    rw [if_neg c1]
    obtain ⟨r, kp, ktg, ks1, kr, ks2⟩ := ks
    have r2 := KS.le _ _ _ _ _ _ _ ks1
    have r3 := KS.le _ _ _ _ _ _ _ ks2
    by_cases c2 : tN T v = -1
    · rw [if_pos c2] at kp
      refine sev_el (ac := ac) (ac' := ac) hc hf ihc ihs wt hx hb hz nX ne c1 ⟨kk, ks1⟩ kr ⟨kk, ks2⟩ hq ox rm (PI.at hz nX ox rm (by omega) kp (by omega) (show (5 : Nat) ≠ 7 by decide)) ?_
      have kv : kq v = 6 := if_neg c1
      have kn : kq (tN T v) = 8 := if_pos c2
      rw [stp kp, decide_eq_true c2, kv, kn]
      show pmPip (xw x) p (xf x) en (xj x) ((6, l, rr, ac, pmN, ah) :: F) K true (kTg D p) = _
      rw [ktg]
      rfl
    · rw [if_neg c2] at kp
      refine sev_el (ac := ac) (ac' := nI (wU (xw x)).length) hc hf ihc ihs wt hx hb hz nX ne c1 ⟨kk, ks1⟩ kr ⟨kk, ks2⟩ hq ox rm (PI.at hz nX ox rm (by omega) kp (by omega) (show (5 : Nat) ≠ 7 by decide)) ?_
      have kv : kq v = 6 := if_neg c1
      have kn : kq (tN T v) = 6 := if_neg c2
      rw [stp kp, decide_eq_false c2, kv, kn]
      show pmPip (xw x) p (xf x) en (xj x) ((6, l, rr, ac, pmN, ah) :: F) K false (kTg D p) = _
      rw [ktg]
      rfl
theorem sm_sv1 (hc : Cd D) (hf : Sf D T nn k) (ihc : ∀ v, Sm D T nn k (cCmd v) 0 13000) (ihs : Sv D T nn k) (wt : WT T nn) : Sv1 D T nn (k + 1) := by
  intro v d g x x' p q r en F K hx hb hz nX ne c1 c2 kp ktg ks1 kr ks2 hq ox rm
  have r2 := KS.le _ _ _ _ _ _ _ ks1.choose_spec
  have r3 := KS.le _ _ _ _ _ _ _ ks2.choose_spec
  have rm0 : Rm x F K d g := ⟨by have := rm.1; rw [List.length_cons] at this; omega, by have := rm.2.1; have e : nSL ((6, 0, 0, -1, pmN, none) :: F) = 0 + nSL F := rfl; omega, rm.2.2⟩
  have kv : kq v = 6 := if_neg c1
  have kn : kq (tN T v) = 6 := if_neg c2
  have rmq : Rm x ((kq v, 0, 0, -1, pmN, none) :: F) K d g := by rw [kv]; exact rm
  refine sev_el (ac := -1) (ac' := nI (wU (xw x)).length) hc hf ihc ihs wt hx hb hz nX ne c1 ks1 kr ks2 hq ox rmq (PI.at hz nX ox rm0 (by omega) kp (by omega) (show (5 : Nat) ≠ 7 by decide)) ?_
  rw [stp kp, decide_eq_false c2, kn]
  show pmPip (xw x) p (xf x) en (xj x) ((6, 0, 0, -1, pmN, none) :: F) K false (kTg D p) = _
  rw [ktg]
  rfl
theorem sm_pp (ihc : ∀ v, Sm D T nn k (cCmd v) 0 13000) (ihs : Sv1 D T nn k) (wt : WT T nn) (v : Int32) : Sm D T nn (k + 1) (cPp v) 0 9000 := by
  intro d g x x' p q en F K hx hb hz nX ne ⟨kk, ks⟩ hq ox rm
  obtain ⟨hd, hb1, hb2⟩ := bx hb
  have hx : gPp T (gEx T k) v x = some x' := hx
  cases kk with
  | zero => exact ks.elim
  | succ kk =>
  have ks : KS D T (kk + 1) 4 v p q := ks
  unfold KS at ks
  obtain ⟨r, ks1, ks2⟩ := ks
  unfold gPp at hx
  obtain ⟨x1, hx1, h2⟩ := Option.bind_eq_some_iff.mp hx
  cases h2
  obtain ⟨i, e1, e2, e3⟩ : isK T nn (· = 3) v := hz.1
  have nc := ((wt.2 i v e1 e2).2.2.1 e3).1.is
  have rq : r ≤ q := by split at ks2 <;> omega
  have rm' : Rm x F K (d - 1) g := rm.le (by omega) (Nat.le_refl _)
  have fin : ∀ {sl1 : Nat}, 9000 ≤ sl1 → (SR0 D T (xw x, p, (xf x, en, xj x, F), K) x x1 p r 0 sl1 (Out D x x1 r en F K (d - 1))) → Pz T nn (cPp v) x x1 → SR0 D T (xw x, p, (xf x, en, xj x, F), K) x (neg1 x1 (decide (tB T v = 1))) p q 0 9000 (Out D x (neg1 x1 (decide (tB T v = 1))) q en F K d) := by
    intro sl1 h9 one pz
    refine SR0.bnd (d := d) (ex2 := 0) (sl2 := 0) one (by omega) pz.2.1.2.2.1 (fun nX1 ne1 ox1 => ?_) (fun e => by unfold neg1; rw [if_neg (fun q => by rw [e] at q; cases q.1)]) rq (by omega) (by omega) (by omega) (by omega)
    have nh : hlt x1 = false := by
      show (wX (xw x1) || xe x1) = false
      rw [nX1, ne1]; rfl
    by_cases cb : tB T v = 1
    · rw [if_pos cb] at ks2
      obtain ⟨k8, rfl⟩ := ks2
      unfold neg1
      rw [if_pos ⟨nh, decide_eq_true cb⟩]
      have hz1 : Hz T nn (cJbs 0) x1 := pz.hz (c2 := cJbs 0) trivial (show (11 : Nat) ≠ 7 by decide) (show (11 : Nat) ≠ 6 by decide)
      refine SR0.done (pmIt.one (PI.at hz1 nX1 ox1 (rm'.le (Nat.le_refl _) pz.2.1.2.2.1) (by omega) k8 (by omega) (show (11 : Nat) ≠ 7 by decide)) (stp k8)) ox1.st ?_ (Or.inl ⟨rfl, nX1, ne1, rfl⟩)
      rw [if_pos rfl]
      show 1 + r + 20000 * wB (xw x1) + 0 ≤ r + 1 + 0 + 20000 * wB (xw x1)
      omega
    · rw [if_neg cb] at ks2
      subst ks2
      unfold neg1
      rw [if_neg (fun q => cb (of_decide_eq_true q.2))]
      exact SR0.done pmIt.nil ox1 (by rw [if_pos rfl]; omega) (Or.inl ⟨rfl, nX1, ne1, rfl⟩)
  by_cases cn : tN T (tA T v) = -1
  · rw [if_pos cn] at ks1 hx1
    obtain ⟨k0, ks3⟩ := ks1
    have pr := KS.le _ _ _ _ _ _ _ ks3
    have hz1 := hz.to (c2 := cCmd (tA T v)) (show (4 : Nat) ≠ 6 by decide) nc (show (6 : Nat) ≠ 7 by decide)
    have pz : Pz T nn (cPp v) x x1 := (mi_all wt k _ _ _ hx1 hz1).cc (show (6 : Nat) ≠ 10 by decide)
    have one := ihc (tA T v) (d - 1) g x x1 (p + 1) r en F K hx1 (hb1 cn) hz1 nX ne ⟨kk, ks3⟩ (by omega) ox rm'
    have zero : SR0 D T (xw x, p, (xf x, en, xj x, F), K) x x1 p r 0 10000 (Out D x x1 r en F K (d - 1)) := SR0.pre (n0 := 1) (pmIt.one (PI.at hz nX ox rm (by omega) k0 (by omega) (show (4 : Nat) ≠ 7 by decide)) (stp k0)) one (by omega) (by omega)
    exact fin (by omega) zero pz
  · rw [if_neg cn] at ks1 hx1
    obtain ⟨k17, r1, ktg, ks3, kr1, ks4⟩ := ks1
    have hz4 : Hz T nn (cSev (tA T v) 0 0 none) x := hz.to (c2 := cSev _ 0 0 none) (show (4 : Nat) ≠ 6 by decide) ⟨Or.inr nc, st0, st0⟩ (show (5 : Nat) ≠ 7 by decide)
    have pz : Pz T nn (cPp v) x x1 := (mi_all wt k _ _ _ hx1 hz4).cc (show (5 : Nat) ≠ 10 by decide)
    have one := ihs (tA T v) (d - 1) g x x1 p r r1 en F K hx1 (hb2 cn) hz4 nX ne (nc.nn wt.1) cn k17 ktg ⟨kk, ks3⟩ kr1 ⟨kk, ks4⟩ (by omega) ox ⟨(by have := rm.1; rw [List.length_cons]; omega), (by have := rm.2.1; have e : nSL ((6, 0, 0, -1, pmN, none) :: F) = 0 + nSL F := rfl; omega), rm.2.2⟩
    exact fin (Nat.le_refl _) one pz
end MXPC
