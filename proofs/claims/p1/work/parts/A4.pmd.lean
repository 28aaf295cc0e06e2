/-! THE MACHINE DOES THE TASKS: a command; the names' sign -/
section MXPD
variable {D : pmC} {T : spT} {nn k d d1 d2 d' g g2 p q r s : Nat} {x x0 x1 x' y y0 y1 y2 : spX} {en : Bool} {F fr : List pmF} {K K' : List (pmU × pmL)} {m m1 m' : pmM} {v l rr ac : Int32} {c : spC} {ex ex' ex1 ex2 sl sl' sl1 sl2 n0 fl : Nat} {O O' : Nat → pmM → Prop} {w w1 : spW} {f f1 : spF} {js : List spJ} {ah : Option Nat} {u : pmU} {as : List spL}
theorem chn_nil {k : Nat} {v : Int32} : chn T (k + 1) v = [] ↔ v = -1 := by
  unfold chn
  by_cases c : v = -1
  · rw [if_pos c]; exact ⟨fun _ => c, fun _ => rfl⟩
  · rw [if_neg c]; exact ⟨fun e => (by cases e), fun e => absurd e c⟩
theorem reds_nil {v : Int32} : redsOf T v = [] ↔ tR T v = -1 := by
  unfold redsOf
  rw [List.map_eq_nil_iff]
  exact chn_nil (k := 2999)
theorem args_nil {v : Int32} : argsOf T v = [] ↔ tA T v = -1 := by
  unfold argsOf
  rw [List.map_eq_nil_iff]
  exact chn_nil (k := 2999)
theorem cmdK_le (n : Int64) : cmdK n ≤ 12 := by
  rw [cmdK_eq]
  repeat' split
  all_goals decide
theorem cmdK6 {n : Int64} : cmdK n = 6 ↔ n = 286309 := by
  constructor
  · intro h
    rw [cmdK_eq] at h
    by_cases c : n = 286309
    · exact c
    · rw [if_neg c] at h
      exfalso
      revert h
      repeat' split
      all_goals decide
  · rintro rfl
    rw [cmdK_eq]
    decide
theorem nI_n2 {n : Nat} (h : n < 2 ^ 31) : nI n ≠ -2 := fun e => by
  have := nI_pos (n := n) h
  rw [e] at this
  exact this (by decide)
theorem stay_e (hs : stays T v = true) (h : gEx T k (cBdy v) y = some y1) : xe y1 = xe y := by
  unfold stays at hs
  rw [Bool.and_eq_true, Bool.and_eq_true] at hs
  obtain ⟨⟨h1, h2⟩, h3⟩ := hs
  have h1 := of_decide_eq_true h1
  have h2 := of_decide_eq_true h2
  cases k with
  | zero => cases h
  | succ k =>
    have h : gBdy T (gEx T k) v y = some y1 := h
    unfold gBdy at h
    rw [h1, if_neg (by decide), if_neg (by decide), if_neg (by decide), if_neg (by decide), if_neg (by decide), if_neg (by decide), cmdK6.mpr h2] at h
    have h : some (zSt y (if ((argsOf T v).map (evA (xf y))).length = 0 then 0 else 2)) = some y1 := h
    cases h; rfl
/-- a record -/
theorem pmRec_eq {c : Nat} (ci : CI D T c v) (nh : hlt y = false) : pmRec D c (xw y) (xf y) = xw (cmdE T v y) ∧ xf (cmdE T v y) = xf y ∧ xj (cmdE T v y) = xj y ∧ xe (cmdE T v y) = xe y ∧ wB (xw (cmdE T v y)) = wB (xw y) ∧ wX (xw (cmdE T v y)) = wX (xw y) := by
  obtain ⟨c1, c2, -⟩ := ci
  unfold pmRec cmdE
  rw [c1, c2]
  by_cases k9 : tK T v = 9
  · have i : isRec (tK T v) = true := by rw [k9]; rfl
    rw [if_pos k9, if_neg (by decide), if_pos ⟨nh, i⟩]
    exact ⟨rfl, rfl, rfl, rfl, rfl, rfl⟩
  · rw [if_neg k9]
    by_cases k10 : tK T v = 10
    · have i : isRec (tK T v) = true := by rw [k10]; rfl
      have := cmdK_le (tM T v)
      rw [if_pos k10, if_neg (nI_n2 (by omega)), if_pos ⟨nh, i⟩]
      exact ⟨rfl, rfl, rfl, rfl, rfl, rfl⟩
    · have i : ¬ isRec (tK T v) = true := by
        unfold isRec
        rw [Bool.or_eq_true]
        rintro (e | e)
        · exact k9 (of_decide_eq_true e)
        · exact k10 (of_decide_eq_true e)
      rw [if_neg k10, if_pos rfl, if_neg (fun q => i q.2)]
      exact ⟨rfl, rfl, rfl, rfl, rfl, rfl⟩
theorem cmdE_h (h : hlt y = true) : cmdE T v y = y := by
  unfold cmdE
  rw [if_neg (fun q => by rw [h] at q; cases q.1)]
theorem okX.ce (h : okX D T x) {hs : spH} {b : Bool} : okX D T (cmdEnd T v hs b x) := by
  rw [cmdEnd_eq]
  have h2 : okX D T (if b = true then zf x (vH (xf x) hs) else x) := by
    split
    · exact h
    · exact h
  generalize (if b = true then zf x (vH (xf x) hs) else x) = y at h2 ⊢
  unfold cmdE
  split
  · exact h2
  · exact h2
set_option maxRecDepth 100000 in
theorem ar1 {n p W r W1 q : Nat} (b : n + (p + 1) + 20000 * (W + 1) + 6000 ≤ r + 10000 + 20000 * W1) (e : q = r + 1) : n + 1 + 1 + p + 20000 * W + 13000 ≤ q + 0 + 20000 * W1 := by omega
set_option maxRecDepth 100000 in
theorem ar2 {n p W r W1 q : Nat} (b : n + (p + 1) + 20000 * (W + 1) + 6000 ≤ r + 10000 + 20000 * W1) (e : q = r + 1) : n + 1 + p + 20000 * W + 13000 ≤ q + 0 + 20000 * W1 := by omega
theorem ar3 {n p W r W1 q : Nat} (b : n + (p + 1) + 20000 * (W + 1) + 0 ≤ r + 10000 + 20000 * W1) (e : q = r + 1) : n + 1 + p + 20000 * W + 0 ≤ q + 0 + 20000 * W1 := by omega
theorem cmdEnd_wx (hs : spH) (b : Bool) : wX (xw (cmdEnd T v hs b x)) = wX (xw x) ∧ xe (cmdEnd T v hs b x) = xe x := by
  rw [cmdEnd_eq]
  have h2 : wX (xw (if b = true then zf x (vH (xf x) hs) else x)) = wX (xw x) ∧ xe (if b = true then zf x (vH (xf x) hs) else x) = xe x := by
    split <;> exact ⟨rfl, rfl⟩
  generalize (if b = true then zf x (vH (xf x) hs) else x) = y at h2 ⊢
  unfold cmdE
  split
  · exact h2
  · exact h2
theorem sm_cmd (ihb : ∀ v, Sm D T nn k (cBdy v) 10000 6000) (wt : WT T nn) (v : Int32) : Sm D T nn (k + 1) (cCmd v) 0 13000 := by
  intro d g x x' p q en F K hx hb hz nX ne ⟨kk, ks⟩ hq ox rm
  obtain ⟨hd, hb⟩ := bx hb
  have hb : bCmd T (bEx T k) d g v x := hb
  have hx : gCmd T (gEx T k) v x = some x' := hx
  cases kk with
  | zero => exact ks.elim
  | succ kk =>
  have ks : KS D T (kk + 1) 6 v p q := ks
  unfold KS at ks
  obtain ⟨r, k1, ktg, ci, ks1, k2, kop, eq⟩ := ks
  have pr := KS.le _ _ _ _ _ _ _ ks1
  unfold gCmd at hx
  have pi := PI.at (en := en) hz nX ox rm (by omega) k1 (by omega) (show (6 : Nat) ≠ 7 by decide)
  by_cases cB : wB (xw x) = 300
  · rw [if_pos cB] at hx
    cases hx
    have st : pmStep D (xw x, p, (xf x, en, xj x, F), K) = some (1, (uX (xw x) true, p + 1, (xf x, en, xj x, F), K)) := by
      rw [stp k1]
      show pmBeg D (xw x) p (xf x) en (xj x) F K (kOp D p) (kTg D p) = _
      unfold pmBeg
      rw [if_pos cB]
    refine SR0.done (pmIt.last pi st (by decide)) ox ?_ (Or.inr (Or.inr ⟨rfl, rfl, rfl, [], xf x, en, F, rfl, feq.rf⟩))
    rw [if_neg (by decide)]
    show 1 + p + 20000 * wB (xw x) + 0 ≤ q + 0 + 20000 * wB (xw x)
    omega
  rw [if_neg cB] at hx
  obtain ⟨x1, hx1, h2⟩ := Option.bind_eq_some_iff.mp hx
  cases h2
  have hb := hb.resolve_left cB
  obtain ⟨hzb, xX, xB, xM⟩ := cmd_hz hz cB
  have rv := reds_vH (redsOf T v) (uB (xw x) (wB (xw x) + 1)) (xf x)
  have ci3 : kRd D (kOp D p) = redsOf T v := ci.2.2.1
  have st1 : pmStep D (xw x, p, (xf x, en, xj x, F), K) = (if redsOf T v = [] then pmGo1 en K (uB (xw x) (wB (xw x) + 1)) (p + 1) (xf x) (xj x) F else
      if (redOps (redsOf T v) (uB (xw x) (wB (xw x) + 1)) (xf x)).1 = true then pmGo1 en K (redOps (redsOf T v) (uB (xw x) (wB (xw x) + 1)) (xf x)).2.1 (p + 1) (redOps (redsOf T v) (uB (xw x) (wB (xw x) + 1)) (xf x)).2.2 (xj x) ((1, 0, 0, 0, fH (xf x), none) :: F) else
      pmGo1 en K (pmRec D (kOp D p) (redOps (redsOf T v) (uB (xw x) (wB (xw x) + 1)) (xf x)).2.1 (vS (vH (redOps (redsOf T v) (uB (xw x) (wB (xw x) + 1)) (xf x)).2.2 (fH (xf x))) 1)) q (vS (vH (redOps (redsOf T v) (uB (xw x) (wB (xw x) + 1)) (xf x)).2.2 (fH (xf x))) 1) (xj x) F) := by
    rw [stp k1]
    show pmBeg D (xw x) p (xf x) en (xj x) F K (kOp D p) (kTg D p) = _
    unfold pmBeg
    rw [if_neg cB, ci3, ktg]
  have nilR : redsOf T v = [] → (redOps (redsOf T v) (uB (xw x) (wB (xw x) + 1)) (xf x)).1 = true ∧ (redOps (redsOf T v) (uB (xw x) (wB (xw x) + 1)) (xf x)).2 = (uB (xw x) (wB (xw x) + 1), xf x) := fun e => by rw [e]; exact ⟨rfl, rfl⟩
  generalize redOps (redsOf T v) (uB (xw x) (wB (xw x) + 1)) (xf x) = R at hzb xX xB xM rv hx1 hb st1 nilR ⊢
  have xX : wX R.2.1 = wX (xw x) := xX
  have xB : wB R.2.1 = wB (xw x) + 1 := xB
  obtain ⟨rm1, rm2, rm3⟩ := rm
  by_cases cr : R.1 = true
  · rw [if_pos cr] at hx1
    have hbb := hb cr
    -- the frame of the redirections
    obtain ⟨fs, ef⟩ : ∃ fs : List pmF, fs = (if redsOf T v = [] then [] else [(1, 0, 0, 0, fH (xf x), none)]) := ⟨_, rfl⟩
    have fl1 : fs.length ≤ 1 := by
      rw [ef]; split
      · exact Nat.zero_le _
      · exact Nat.le_refl _
    have fn1 : nSL fs ≤ 1 := by
      rw [ef]; split
      · exact Nat.zero_le _
      · exact Nat.le_refl _
    have stB : pmStep D (xw x, p, (xf x, en, xj x, F), K) = some (0, (R.2.1, p + 1, (R.2.2, en, xj x, fs ++ F), K)) := by
      rw [st1, ef]
      by_cases c0 : redsOf T v = []
      · rw [if_pos c0, if_pos c0, (nilR c0).2]
        rfl
      · rw [if_neg c0, if_neg c0, if_pos cr]
        rfl
    have eb : ∀ hs, vH (if decide (tR T v ≠ -1) && !(R.1 && stays T v) then vH (xf x1) (fH (xf x)) else xf x1) hs = vH (xf x1) hs := fun hs => by split <;> rfl
    have stF : ∀ y : spX, hlt y = false → pmStep D (xw y, r, (xf y, en, xj y, fs ++ F), K) = some (0, (xw (cmdEnd T v (fH (xf x)) (decide (tR T v ≠ -1) && !(R.1 && stays T v)) y), q, (xf (cmdEnd T v (fH (xf x)) (decide (tR T v ≠ -1) && !(R.1 && stays T v)) y), en, xj (cmdEnd T v (fH (xf x)) (decide (tR T v ≠ -1) && !(R.1 && stays T v)) y), F), K)) := by
      intro y nh
      rw [stp k2, eq]
      show pmFns D (xw y) r (xf y) en (xj y) (fs ++ F) K (kOp D r) = _
      unfold pmFns
      rw [kop, ci3, cmdEnd_eq, ef, cr]
      by_cases c0 : redsOf T v = []
      · rw [if_pos c0, if_pos c0, reds_nil.mp c0]
        have eb : (decide ((-1 : Int32) ≠ -1) && !(true && stays T v)) = false := by
          rw [decide_eq_false (fun q => q rfl)]; rfl
        rw [eb, if_neg (by decide)]
        obtain ⟨z1, z2, z3, -⟩ := pmRec_eq ci nh
        show some (0, (pmRec D (kOp D p) (xw y) (xf y), r + 1, (xf y, en, xj y, F), K)) = _
        rw [z1, z2, z3]
      · rw [if_neg c0, if_neg c0]
        have ne1 : tR T v ≠ -1 := fun e => c0 (reds_nil.mpr e)
        rw [decide_eq_true ne1]
        have ek : (kKd D (kOp D p) = 6 ∧ kAr D (kOp D p) = []) ↔ stays T v = true := by
          obtain ⟨i, -, -, -, i5⟩ := ci
          unfold stays
          rw [Bool.and_eq_true, Bool.and_eq_true, decide_eq_true_eq, decide_eq_true_eq, decide_eq_true_eq, i]
          constructor
          · rintro ⟨a, b⟩
            by_cases k9 : tK T v = 9
            · rw [if_pos k9] at a; exact absurd a (by decide)
            · rw [if_neg k9] at a
              by_cases k10 : tK T v = 10
              · rw [if_pos k10] at a
                have := cmdK_le (tM T v)
                have a6 : cmdK (tM T v) = 6 := (nI_eq (b := 6) (by omega) (by omega)).mp a
                rw [i5 (Or.inr k10)] at b
                exact ⟨⟨k10, cmdK6.mp a6⟩, args_nil.mp b⟩
              · rw [if_neg k10] at a; exact absurd a (by decide)
          · rintro ⟨⟨a, b⟩, c⟩
            rw [i5 (Or.inr a)]
            refine ⟨?_, args_nil.mpr c⟩
            rw [if_neg (by rw [a]; decide), if_pos a, cmdK6.mpr b]
            rfl
        cases es : stays T v with
        | true =>
          have e9 : (if (true && !(true && true)) = true then zf y (vH (xf y) (fH (xf x))) else y) = y := rfl
          rw [e9]
          obtain ⟨z1, z2, z3, -⟩ := pmRec_eq ci nh
          have := ek.mpr es
          show (if (1 : Nat) = 1 then some (0, (pmRec D (kOp D p) (xw y) (if kKd D (kOp D p) = 6 ∧ kAr D (kOp D p) = [] then xf y else vH (xf y) (fH (xf x))), r + 1, ((if kKd D (kOp D p) = 6 ∧ kAr D (kOp D p) = [] then xf y else vH (xf y) (fH (xf x))), en, xj y, F), K)) else none) = _
          rw [if_pos rfl, if_pos this, z1, z2, z3]
        | false =>
          have e9 : (if (true && !(true && false)) = true then zf y (vH (xf y) (fH (xf x))) else y) = zf y (vH (xf y) (fH (xf x))) := rfl
          rw [e9]
          have nh2 : hlt (zf y (vH (xf y) (fH (xf x)))) = false := nh
          obtain ⟨z1, z2, z3, -⟩ := pmRec_eq (y := zf y (vH (xf y) (fH (xf x)))) ci nh2
          have : ¬ (kKd D (kOp D p) = 6 ∧ kAr D (kOp D p) = []) := fun q => by rw [ek.mp q] at es; cases es
          show (if (1 : Nat) = 1 then some (0, (pmRec D (kOp D p) (xw y) (if kKd D (kOp D p) = 6 ∧ kAr D (kOp D p) = [] then xf y else vH (xf y) (fH (xf x))), r + 1, ((if kKd D (kOp D p) = 6 ∧ kAr D (kOp D p) = [] then xf y else vH (xf y) (fH (xf x))), en, xj y, F), K)) else none) = _
          rw [if_pos rfl, if_neg this]
          have z1 : pmRec D (kOp D p) (xw y) (vH (xf y) (fH (xf x))) = _ := z1
          rw [z1, z2, z3]
    have oxb : okX D T (zwf x R.2.1 R.2.2) := by
      refine ⟨?_, ox.2⟩
      show okX1 D T R.2.2
      rw [rv]
      exact ox.1.vh
    have rmb : Rm (zwf x R.2.1 R.2.2) (fs ++ F) K (d - 1) g := by
      refine ⟨?_, ?_, rm3⟩
      · rw [List.length_append]; omega
      · rw [nSL_app]
        show nSL fs + nSL F + nSK K ≤ wB R.2.1
        omega
    have pz := mi_all wt k _ _ _ hx1 hzb
    have body := ihb v (d - 1) g (zwf x R.2.1 R.2.2) x1 (p + 1) r en (fs ++ F) K hx1 hbb hzb (xX.trans nX) ne ⟨kk, ks1⟩ (by omega) oxb rmb
    obtain ⟨n, fl, m', a, b, c, o⟩ := body
    have b : n + (p + 1) + 20000 * wB R.2.1 + (if fl = 0 then 6000 else 0) ≤ r + 10000 + 20000 * wB (xw x1) := b
    rw [xB] at b
    have a := pmIt.step pi stB a
    have hw : ∀ b, wB (xw (cmdEnd T v (fH (xf x)) b x1)) = wB (xw x1) := fun b => by
      have g : ∀ y, wB (xw (cmdE T v y)) = wB (xw y) := fun y => by unfold cmdE; split <;> rfl
      rw [cmdEnd_eq, g]
      cases b <;> rfl
    rcases o with ⟨f0, nX1, ne1, rfl⟩ | ⟨f0, nX1, ne1, f', E, e1, e2, e3, e4, e5, e6⟩ | ⟨f1, yX, s1, up, f', en', E', s2, s3⟩
    · subst f0
      rw [if_pos rfl] at b
      have nh : hlt x1 = false := by
        show (wX (xw x1) || xe x1) = false
        rw [nX1, ne1]; rfl
      have hz1 : Hz T nn (cJbs 0) x1 := pz.hz (c2 := cJbs 0) trivial (show (11 : Nat) ≠ 7 by decide) (show (11 : Nat) ≠ 6 by decide)
      have lx1 : wB R.2.1 ≤ wB (xw x1) := pz.2.1.2.2.1
      have pi2 := PI.at (en := en) hz1 nX1 c (rmb.le (Nat.le_refl _) lx1) (by omega) k2 (by omega) (show (11 : Nat) ≠ 7 by decide)
      refine SR0.done (a.tr (pmIt.one pi2 (stF x1 nh))) c.ce ?_ (Or.inl ⟨rfl, ?_, ?_, rfl⟩)
      · rw [if_pos rfl, hw]; exact ar1 b eq
      · rw [(cmdEnd_wx _ _).1]; exact nX1
      · rw [(cmdEnd_wx _ _).2]; exact ne1
    · subst f0
      rw [if_pos rfl] at b
      have hh : hlt x1 = true := by
        show (wX (xw x1) || xe x1) = true
        rw [ne1, Bool.or_true]
      have ns : stays T v = false := by
        cases es : stays T v with
        | false => rfl
        | true =>
          have := stay_e es hx1
          rw [ne1] at this
          have this : true = xe x := this
          rw [ne] at this; cases this
      have bk : (decide (tR T v ≠ -1) && !(R.1 && stays T v)) = decide (tR T v ≠ -1) := by rw [ns, Bool.and_false, Bool.not_false, Bool.and_true]
      rw [bk]
      have fin : cmdEnd T v (fH (xf x)) (decide (tR T v ≠ -1)) x1 = if tR T v = -1 then x1 else zf x1 (vH (xf x1) (fH (xf x))) := by
        rw [cmdEnd_eq]
        by_cases cn : tR T v = -1
        · rw [decide_eq_false (fun q => q cn), if_neg (by decide), if_pos cn, cmdE_h hh]
        · rw [decide_eq_true cn, if_pos rfl, if_neg cn, cmdE_h (y := zf x1 (vH (xf x1) (fH (xf x)))) hh]
      have hw2 := hw (decide (tR T v ≠ -1))
      refine SR0.done a c.ce ?_ (Or.inr (Or.inl ⟨rfl, ?_, ?_, f', E ++ fs, ?_, ?_, ?_, ?_, ?_, e6⟩))
      · rw [if_pos rfl, hw2]; exact ar2 b eq
      · rw [fin]; split <;> exact nX1
      · rw [fin]; split <;> exact ne1
      · rw [e1, fin, List.append_assoc]
        split <;> rfl
      · rw [fin]
        split
        · exact e2
        · exact e2
      · rw [unw_app, fin, ef]
        by_cases cn : tR T v = -1
        · rw [if_pos cn, if_pos (reds_nil.mpr cn)]
          exact e3
        · rw [if_neg cn, if_neg (fun q => cn (reds_nil.mp q))]
          rfl
      · rw [List.length_append]; omega
      · rw [nSL_app, hw2]
        have e5 : nSL E + wB R.2.1 ≤ wB (xw x1) := e5
        omega
    · subst f1
      rw [if_neg (by decide)] at b
      have hh : hlt x1 = true := hlt_X yX
      have fin : ∀ b, cmdEnd T v (fH (xf x)) b x1 = if b = true then zf x1 (vH (xf x1) (fH (xf x))) else x1 := fun b => by
        rw [cmdEnd_eq]
        cases b with
        | true => rw [if_pos rfl, cmdE_h (y := zf x1 (vH (xf x1) (fH (xf x)))) hh]
        | false => rw [if_neg (by decide), cmdE_h hh]
      refine SR0.done a c.ce ?_ (Or.inr (Or.inr ⟨rfl, ?_, ?_, up, f', en', E', ?_, ?_⟩))
      · rw [if_neg (by decide), hw]; exact ar3 b eq
      · rw [fin]; split <;> exact yX
      · rw [fin]; split <;> exact s1
      · rw [fin, s2]; split <;> rfl
      · rw [fin]; split <;> exact s3
  · have crf : R.1 = false := by cases e : R.1 with
      | false => rfl
      | true => exact absurd e cr
    rw [if_neg cr] at hx1
    cases hx1
    have c0 : ¬ redsOf T v = [] := fun e => cr (nilR e).1
    have ne1 : tR T v ≠ -1 := fun e => c0 (reds_nil.mpr e)
    rw [if_neg c0, if_neg cr] at st1
    have bk : (decide (tR T v ≠ -1) && !(R.1 && stays T v)) = true := by rw [crf, decide_eq_true ne1]; rfl
    have nh : hlt (zf (zSt (zwf x R.2.1 R.2.2) 1) (vH (xf (zSt (zwf x R.2.1 R.2.2) 1)) (fH (xf x)))) = false := by
      show (wX R.2.1 || xe x) = false
      rw [xX, nX, ne]; rfl
    obtain ⟨z1, z2, z3, z4, z5, z6⟩ := pmRec_eq (y := zf (zSt (zwf x R.2.1 R.2.2) 1) (vH (xf (zSt (zwf x R.2.1 R.2.2) 1)) (fH (xf x)))) ci nh
    have fin : cmdEnd T v (fH (xf x)) (decide (tR T v ≠ -1) && !(R.1 && stays T v)) (zSt (zwf x R.2.1 R.2.2) 1) = cmdE T v (zf (zSt (zwf x R.2.1 R.2.2) 1) (vH (xf (zSt (zwf x R.2.1 R.2.2) 1)) (fH (xf x)))) := by
      rw [bk, cmdEnd_eq, if_pos rfl]
    have st : pmStep D (xw x, p, (xf x, en, xj x, F), K) = some (0, (xw (cmdE T v (zf (zSt (zwf x R.2.1 R.2.2) 1) (vH (xf (zSt (zwf x R.2.1 R.2.2) 1)) (fH (xf x))))), q, (xf (cmdE T v (zf (zSt (zwf x R.2.1 R.2.2) 1) (vH (xf (zSt (zwf x R.2.1 R.2.2) 1)) (fH (xf x))))), en, xj (cmdE T v (zf (zSt (zwf x R.2.1 R.2.2) 1) (vH (xf (zSt (zwf x R.2.1 R.2.2) 1)) (fH (xf x))))), F), K)) := by
      rw [st1, ← z1, z2, z3]
    have oxb : okX D T (zSt (zwf x R.2.1 R.2.2) 1) := by
      refine ⟨?_, ox.2⟩
      show okX1 D T R.2.2
      rw [rv]
      exact ox.1.vh
    refine SR0.done (pmIt.one pi st) oxb.ce ?_ ?_
    · rw [if_pos rfl, fin, z5]
      show 1 + p + 20000 * wB (xw x) + 13000 ≤ q + 0 + 20000 * wB R.2.1
      omega
    · rw [fin]
      refine Or.inl ⟨rfl, ?_, ?_, rfl⟩
      · rw [z6]; exact xX.trans nX
      · rw [z4]; exact ne
end MXPD
