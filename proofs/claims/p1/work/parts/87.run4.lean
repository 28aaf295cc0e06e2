/-! THE REFERENCE'S RUN: the loop over a pipeline's commands -/
section MXR4
variable {d g : Nat} {h0 h h1 : mxH} {T : spT} {nn k s : Nat} {x x1 x' y : spX} {w w1 : spW} {S : spS} {js : List Nat} {G L : List spE} {V W : List (Option (Option Nat))} {P : List spX} {N : spN} {Z : List (Int32 × Nat)} {n m xs n0 m0 u : Nat} {Q : mxRes → mxH → Prop} {v : Int32}
theorem cmd_up (wt : WT T nn) (h : gEx T k (cCmd v) x = some x') (hz : Hz T nn (cCmd v) x) (hX : wX (xw x') = false) : wB (xw x) + 1 ≤ wB (xw x') := by
  cases k with
  | zero => cases h
  | succ k =>
    have h : gCmd T (gEx T k) v x = some x' := h
    unfold gCmd at h
    split at h
    · cases h; cases hX
    · rename_i cB
      obtain ⟨x1, hx1, h2⟩ := Option.bind_eq_some_iff.mp h
      cases h2
      obtain ⟨hzb, xX, xB, xM⟩ := cmd_hz hz cB
      have l1 : wB (xw x) + 1 ≤ wB (xw x1) := by
        split at hx1
        · have := (mi_all wt k _ _ _ hx1 hzb).2.1.2.2.1
          have e : wB (xw (zwf x (redOps (redsOf T v) (uB (xw x) (wB (xw x) + 1)) (xf x)).2.1 (redOps (redsOf T v) (uB (xw x) (wB (xw x) + 1)) (xf x)).2.2)) = wB (xw x) + 1 := xB
          rw [e] at this
          exact this
        · cases hx1
          exact Nat.le_of_eq xB.symm
      have e : ∀ (b : Bool) (hs : spH), wB (xw (cmdEnd T v hs b x1)) = wB (xw x1) := fun b hs => by
        have g : ∀ y, wB (xw (cmdE T v y)) = wB (xw y) := fun y => by unfold cmdE; split <;> rfl
        rw [cmdEnd_eq, g]
        cases b <;> rfl
      rw [e]; exact l1
theorem pip_B {f : spF} {a : Option Nat} {l : Bool} : wB (pipd w f a l).1 = wB w ∧ wM (pipd w f a l).1 = wM w ∧ wX (pipd w f a l).1 = wX w := by
  unfold pipd
  cases l <;> exact ⟨rfl, rfl, rfl⟩
theorem ct_svl (ih : Ctr h0 T nn k) (wt : WT T nn) (hT : rtabs h0 = T) : SVc h0 T nn (k + 1) := by
  intro d g h x x' s js G V W P Z Z' n0 m0 cm l r p x6 u hx hb hz rg nX pV pG pn pm ha ho hu
  obtain ⟨hd, hb⟩ := bx hb
  have hb : bSev T (gEx T k) (bEx T k) d g cm l r p x := hb
  have hx0 := hx
  have hx : gSev T (gEx T k) cm l r p x = some x' := hx
  have sr := rg.sr
  have hs := rg.own.1
  have l8 : x.2.2.2.length ≤ 8 := rg.own.2.2.2.2.1
  have lj := jG_len (S := x.2) (js := js)
  obtain ⟨hk, hl, hr⟩ : (cm = -1 ∨ isK T nn kCmd cm) ∧ stat l ∧ stat r := hz.1
  have nX' : ¬ wX (xw x) = true := by rw [nX]; decide
  have ksn : ∀ d, mx_SM mY_X12_isStoppedNow d [.ref 320] h (mx_xct (.inl (some (.int 0))) h) := fun d => by
    have := k_X12_isStoppedNow (d := d) rg
    rw [nX] at this
    exact this
  have ZZ : ∀ z ∈ Z, z ∈ Z' := by
    cases p with
    | none => obtain ⟨-, e, -⟩ := ha; rw [e]; exact fun _ h => h
    | some o => obtain ⟨b, pp, i, ps, -, -, e, -⟩ := ha; rw [e]; exact fun _ h => List.mem_cons_of_mem _ h
  unfold gSev at hx
  by_cases c : cm = -1
  · rw [if_pos (Or.inl c), if_neg nX'] at hx
    cases hx
    refine b_X12_runsSeveral_17 320 _ _ _ _ _ _ ⟨fun _ => ?_, fun c2 => absurd c c2⟩
    have r1 := (rg.vdrop).drop (N' := ([], [], Z)) (fun _ h => h) (fun _ h => h) ZZ
    have s1 := r1.sr
    refine b_X12_runsSeveral_204 320 _ _ _ _ ⟨sr_k sr, ?_⟩
    rintro _ rfl
    have k1 := k_X12_isStoppedNow (d := d - 1) r1
    rw [nX] at k1
    have e32 : hpI (hsI h 320 69 (nI V.length)) 354 (83 * s + 32) = if fP x.2.1 = true then 1 else 0 := r1.own.2.1.2.2.2.1
    refine ⟨by omega, mx_xKI2 k1 ⟨fun c => absurd rfl c, fun _ => ⟨sr_k s1, mx_xKI2 (k_X12_of (j := 32) s1 (by omega)) ?_⟩⟩⟩
    rw [e32]
    cases eP : fP x.2.1 with
    | true =>
      exact ⟨fun c => absurd rfl c, fun _ => ⟨sr_k s1, mx_xKV (k_X12_sets (j := 33) s1 (by omega)) (Or.inl ⟨rfl, Or.inl ⟨nX, js, r1.st⟩⟩)⟩⟩
    | false =>
      exact ⟨fun _ => ⟨sr_k s1, mx_xKV (k_X12_sets (j := 33) s1 (by omega)) (Or.inl ⟨rfl, Or.inl ⟨nX, js, r1.st⟩⟩)⟩, fun c => absurd c (by decide)⟩
  · rw [if_neg (fun q => q.elim c nX')] at hx
    rcases hk with e | hk
    · exact absurd e c
    obtain ⟨i, e1, e2, e3⟩ := id hk
    have i3 : i < 3000 := Nat.lt_of_lt_of_le e2 wt.1
    have hcm : ∃ i, cm = nI i ∧ i < 3000 := ⟨i, e1, i3⟩
    have nx := ((wt.2 i cm e1 e2).2.2.2.1 e3).1.is
    rcases hb with e | e | ⟨g1, hb1, hb2⟩
    · exact absurd e c
    · exact absurd e nX'
    obtain ⟨y1, hy1, h2⟩ := Option.bind_eq_some_iff.mp hx
    obtain ⟨y2, hy2, hx3⟩ := Option.bind_eq_some_iff.mp h2
    have w0 := hz.w0 (show (5 : Nat) ≠ 6 by decide) nX
    have hzc : Hz T nn (cCmd cm) ((pipd (frk (xw x)) (subF (xf x)) p (decide (tN T cm = -1))).1, (pipd (frk (xw x)) (subF (xf x)) p (decide (tN T cm = -1))).2.1, false, []) := ⟨⟨i, e1, e2, e3⟩, ⟨okF.pip hz.2.1.1, fun q hq => absurd hq List.not_mem_nil⟩, fun _ => okW.pip (w := frk (xw x)) w0⟩
    have p1 := mi_all wt k _ _ _ hy1 hzc
    obtain ⟨pB, pM, pX⟩ := pip_B (w := frk (xw x)) (f := subF (xf x)) (a := p) (l := decide (tN T cm = -1))
    have lp : Le (xw x) (xw y1) := Le.tr (b := (pipd (frk (xw x)) (subF (xf x)) p (decide (tN T cm = -1))).1) (Le.pip (w := frk (xw x))) p1.2.1
    have hzf : wX (xw y1) = false → Hz T nn cFin y1 := fun e => p1.hz (c2 := cFin) trivial (show (10 : Nat) ≠ 7 by decide) (show (10 : Nat) ≠ 6 by decide)
    have p2 : okS T nn y2.2 ∧ Le (xw y1) (xw y2) ∧ (wX (xw y2) = false → okW (xw y2) 0 0) := by
      split at hy2
      · rename_i cx; cases hy2; exact ⟨p1.1, Le.rf, fun e => by rw [cx] at e; cases e⟩
      · rename_i cx
        have cx' : wX (xw y1) = false := by cases e : wX (xw y1) with
          | false => rfl
          | true => exact absurd e cx
        have := mi_all wt k _ _ _ hy2 (hzf cx')
        exact ⟨this.1, this.2.1, this.2.2.2⟩
    have l2 : Le (xw x) (xw y2) := lp.tr p2.2.1
    have hb3 := hb2 y1 hy1
    have hb4 := hb3.2 y2 hy2
    refine b_X12_runsSeveral_17 320 _ _ _ _ _ _ ⟨fun c2 => absurd c2 c, fun _ => ⟨by omega, sr_k sr, mx_xKI2 (ksn _) ⟨fun c => absurd rfl c, fun _ => ⟨sr_k sr, mx_uI (k_X12_fork (by omega) rg (by omega) (by rw [List.length_append]; omega)) ?_⟩⟩⟩⟩
    rintro v2 h1 ⟨q, rfl, q1, q2, r1⟩
    have sr1 := r1.sr
    have lL : ((s, x.2, js) :: (jG x.2 js ++ G)).length ≤ 9 + G.length := by rw [List.length_cons, List.length_append]; omega
    -- the command and what is behind it
    have at124 : ∀ (b pp : Nat) (h3 : mxH) (x9 : Int32) (W2 : List (Option (Option Nat))) (Z2 : List (Int32 × Nat)),
        ((x6 = -1 ∧ (∀ z ∈ Z, z ∈ Z2)) ∨ (x6 = nI b ∧ b < 400 ∧ (nI b, pp) ∈ Z2 ∧ u ≤ pp ∧ (∀ z ∈ Z2, z.2 = pp → z = (nI b, pp)) ∧ ∀ z ∈ W2, ∀ a, z = some (some a) → notP (xw y2) pp a)) →
        (V ++ W2).length ≤ (V ++ W).length + 1 →
        RG h0 h3 (pipd (frk (xw x)) (subF (xf x)) p (decide (tN T cm = -1))).1 ((q, ((pipd (frk (xw x)) (subF (xf x)) p (decide (tN T cm = -1))).2.1, false, []), []) :: ((s, x.2, js) :: (jG x.2 js ++ G))) (V ++ W2) P ([], [], Z2) (n0 + wM (xw x)) (m0 + 12 * wB (xw x) + 2) 1000 →
        Ahd (xw y2) u Z W2 (if x6 = -1 then Z2 else Z2.filter fun z => decide (z.2 ≠ pp)) x9 (pipd (frk (xw x)) (subF (xf x)) p (decide (tN T cm = -1))).2.2 →
        mx_SX mY_X12_runsSeveral d 124 [(0, .ref 320), (1, .int (nI s)), (3, .int (nI V.length)), (5, .int r), (6, .int x6), (7, .int cm), (8, .int (nI q)), (9, .int x9)] [] h3 (mx_KV (Pst h0 x' s G V P Z n0 m0) fun _ _ => False) := by
      intro b pp h3 x9 W2 Z2 hA hW r3 hA2
      have pre : Pre 1 h0 h3 ((pipd (frk (xw x)) (subF (xf x)) p (decide (tN T cm = -1))).1, (pipd (frk (xw x)) (subF (xf x)) p (decide (tN T cm = -1))).2.1, false, []) q [] ((s, x.2, js) :: (jG x.2 js ++ G)) (V ++ W2) P Z2 n0 m0 (g - 1) := by
        refine ⟨r3.up ?_ ?_, ?_, ?_, by omega, pn, pm⟩
        · show n0 + wM (xw x) ≤ n0 + wM (pipd (frk (xw x)) (subF (xf x)) p (decide (tN T cm = -1))).1
          rw [pM]; exact Nat.le_refl _
        · show _ ≤ m0 + 12 * wB (pipd (frk (xw x)) (subF (xf x)) p (decide (tN T cm = -1))).1 + 2 * 1
          rw [pB]; show m0 + 12 * wB (xw x) + 2 ≤ m0 + 12 * wB (xw x) + 2 * 1; omega
        · show wX (pipd (frk (xw x)) (subF (xf x)) p (decide (tN T cm = -1))).1 = false
          rw [pX]; exact nX
        · show _ ≤ 10 + 11 * wB (pipd (frk (xw x)) (subF (xf x)) p (decide (tN T cm = -1))).1 + 1
          rw [pB]; show _ ≤ 10 + 11 * wB (xw x) + 1; omega
      have stop : ∀ h5 jq (E : spS), wX (xw y2) = true → RGs h0 h5 (xw y2) ((q, E, jq) :: ((s, x.2, js) :: (jG x.2 js ++ G))) (V ++ W2) P →
          mx_SX mY_X12_runsSeveral d 145 [(0, .ref 320), (1, .int (nI s)), (3, .int (nI V.length)), (5, .int r), (6, .int x6), (7, .int cm), (8, .int (nI q)), (9, .int x9)] [] h5 (mx_KV (Pst h0 x' s G V P Z n0 m0) fun _ _ => False) := by
        intro h5 jq E hX5 rs
        have e := sev_s (x := (xw y2, x.2)) hX5 hx3
        subst e
        have rs2 : RGs h0 h5 (xw y2) ((q, E, jq) :: (s, (xw y2, x.2).2, js) :: G) (V ++ W2) P := rs.sub (List.Sublist.cons_cons _ (List.Sublist.cons_cons _ (List.sublist_append_right _ _)))
        exact sv_145s (x := (xw y2, x.2)) (by omega) hcm hX5 rs2 rfl rfl (hA.imp (fun q => q.1) fun q => ⟨b, q.1, q.2.1⟩)
      refine b_X12_runsSeveral_124 320 _ _ _ _ _ _ _ ⟨by omega, sr_k r3.sr, mx_uV (ih.cmd cm (d - 1) (g - 1) h3 _ y1 q [] _ (V ++ W2) P Z2 n0 m0 hy1 hb1 hzc (Or.inl rfl) pre) fun h4 ps => ?_⟩
      rcases ps with ⟨aX, jq, r4⟩ | ⟨aX, jq, r4⟩
      · have s4 := r4.sr
        have k4 := k_X12_isStoppedNow (d := d - 1) r4
        rw [aX] at k4
        have up := cmd_up wt hy1 hzc aX
        have up' : wB (xw x) + 1 ≤ wB (xw y1) := by
          have e : wB (xw ((pipd (frk (xw x)) (subF (xf x)) p (decide (tN T cm = -1))).1, (pipd (frk (xw x)) (subF (xf x)) p (decide (tN T cm = -1))).2.1, false, [])) = wB (xw x) := pB
          rw [e] at up; exact up
        rw [if_neg (by rw [aX]; decide)] at hy2
        have pre2 : Pre 0 h0 h4 y1 q jq ((s, x.2, js) :: (jG x.2 js ++ G)) (V ++ W2) P Z2 n0 m0 (g - 1) := ⟨r4, aX, by omega, by omega, pn, pm⟩
        refine ⟨sr_k s4, mx_xKI2 k4 ⟨fun c => absurd rfl c, fun _ => ⟨sr_k s4, mx_uV (ih.fin (d - 1) (g - 1) h4 y1 y2 q jq _ (V ++ W2) P Z2 n0 m0 hy2 (hb3.1 aX) (hzf aX) (Or.inr (Nat.le_refl 10)) pre2) fun h5 ps => ?_⟩⟩⟩
        rcases ps with ⟨bX, jq2, r5⟩ | ⟨bX, jq2, r5⟩
        · rw [jG_nil (nz_fin hy2 bX)] at r5
          have up2 : wB (xw x) + 1 ≤ wB (xw y2) := Nat.le_trans up' p2.2.1.2.2.1
          have old := ho.le l2
          have np : ∀ pp a, u ≤ pp → oldO (xw y2) u a → notP (xw y2) pp a := fun pp a hp ho q hq hh => by
            obtain ⟨q', z1, z2⟩ := ho
            rw [z1] at hq
            have e : q' = q := (Option.some.injEq _ _).mp hq
            subst e
            have := z2 hh.1
            omega
          have hA' : x6 = -1 ∨ (x6 = nI b ∧ b < 400 ∧ (nI b, pp) ∈ Z2 ∧ (∀ e ∈ ((s, x.2, js) :: (jG x.2 js ++ G)), ∀ k, k < 10 → ∀ a, fH e.2.1.1 k = some a → notP (xw y2) pp a) ∧ (∀ z ∈ V ++ W2, ∀ a, z = some (some a) → notP (xw y2) pp a) ∧ ∀ z ∈ Z2, z.2 = pp → z = (nI b, pp)) := by
            rcases hA with z1 | ⟨z1, z2, z3, z4, z5, z6⟩
            · exact Or.inl z1.1
            · refine Or.inr ⟨z1, z2, z3, fun e he k hk a ea => np _ _ z4 (old.1 e he k hk a ea), fun z hzm a ea => ?_, z5⟩
              rcases List.mem_append.mp hzm with g | g
              · exact np _ _ z4 (old.2.1 z g a ea)
              · exact z6 z g a ea
          refine sv_145 (y := y2) (b := b) (pp := pp) (by omega) hcm hT bX r5 hA' fun h6 r6 => ?_
          exact ih.svl d g h6 (xw y2, x.2) x' s js G V W2 P Z _ n0 m0 (tN T cm) _ _ _ x9 u hx3 hb4 ⟨⟨nx, p2.1.1.1, by split; exact hr; exact p2.1.1.1⟩, hz.2.1, fun e => p2.2.2 e⟩ r6 bX (by show _ ≤ 10 + 11 * wB (xw y2); omega) pG pn pm hA2 old (Nat.le_trans hu l2.2.1)
        · exact stop h5 jq2 y2.2 bX r5
      · rw [if_pos aX] at hy2
        cases hy2
        have k4 := k_X12_isStoppedNow_s (d := d - 1) r4
        rw [aX, if_pos rfl] at k4
        exact ⟨sr_k r4.sr, mx_xKI2 k4 ⟨fun _ => stop h4 jq y1.2 aX r4, fun c => absurd c (by decide)⟩⟩
    -- the pipe behind
    have at65 : ∀ (b pp : Nat) (h2 : mxH) (i' : Nat) (f1 : spF), ((x6 = -1 ∧ Z' = Z) ∨ (x6 = nI b ∧ b < 400 ∧ Z' = (nI b, pp) :: Z ∧ u ≤ pp ∧ pp < (wU (xw x)).length)) →
        (∀ last, pipd (frk (xw x)) (subF (xf x)) p last = if last then (frk (xw x), f1, none) else ((opn (opn (uU (frk (xw x)) (wU (xw x) ++ [[]])) 6 (wU (xw x)).length).2 5 (wU (xw x)).length).2, vH f1 (fup (fH f1) 1 (some (wO (xw x)).length)), some ((wO (xw x)).length + 1))) →
        (V ++ List.replicate i' none).length ≤ (V ++ W).length → RG h0 h2 (frk (xw x)) ((q, (f1, false, []), []) :: ((s, x.2, js) :: (jG x.2 js ++ G))) (V ++ List.replicate i' none) P ([], [], Z') (n0 + wM (xw x)) (m0 + 12 * wB (xw x)) 1000 →
        mx_SX mY_X12_runsSeveral d 65 [(0, .ref 320), (1, .int (nI s)), (3, .int (nI V.length)), (5, .int r), (6, .int x6), (7, .int cm), (8, .int (nI q)), (9, .int (-1))] [] h2 (mx_KV (Pst h0 x' s G V P Z n0 m0) fun _ _ => False) := by
      intro b pp h2 i' f1 hA pd hl r2
      have k300 : wB (xw x) ≤ 300 := w0.1
      have kU : (wU (xw x)).length ≤ wB (xw x) := w0.2.2.2.1
      have hZu : ∀ z ∈ Z, z.2 < u := ho.2.2
      have fz : ∀ pp, u ≤ pp → (Z.filter fun z => decide (z.2 ≠ pp)) = Z := fun pp hp => by
        rw [List.filter_eq_self]
        intro z hz
        have := hZu z hz
        exact decide_eq_true (by omega)
      refine sv_65 (by omega) hcm hT r2 (by omega) (by omega) (by show (wU (xw x)).length < 400; omega) (fun cl => ?_) (fun cl h3 b2 b2l r3 => ?_)
      · have e := pd (decide (tN T cm = -1))
        rw [decide_eq_true cl, if_pos rfl] at e
        refine at124 b pp h2 (-1) (List.replicate i' none) Z' ?_ (by omega) ?_ ?_
        · rcases hA with ⟨z1, z2⟩ | ⟨z1, z2, z3, z4, z5⟩
          · exact Or.inl ⟨z1, ZZ⟩
          · refine Or.inr ⟨z1, z2, by rw [z3]; exact List.mem_cons_self, z4, fun z hz hp => ?_, fun z hz a ea => ?_⟩
            · rw [z3] at hz
              rcases List.mem_cons.mp hz with g | g
              · exact g
              · have := hZu z g; omega
            · rw [List.eq_of_mem_replicate hz] at ea; cases ea
        · rw [decide_eq_true cl, e]
          exact r2.up (Nat.le_refl _) (by omega)
        · rw [decide_eq_true cl, e]
          refine ⟨rfl, ?_, i', rfl⟩
          rcases hA with ⟨z1, z2⟩ | ⟨z1, z2, z3, z4, z5⟩
          · rw [if_pos z1, z2]
          · rw [if_neg (by rw [z1]; exact fun q => (nI_neg1 (by omega)).mp q), z3]
            rw [List.filter_cons_of_neg (by simp)]
            exact fz pp z4
      · have e := pd (decide (tN T cm = -1))
        rw [decide_eq_false cl, if_neg (by decide)] at e
        -- the new pipe's in-end
        have ho2 : ∃ ps, (wO (xw y2))[(wO (xw x)).length + 1]? = some (5, (wU (xw x)).length, ps) := by
          have le3 : Le (opn (opn (uU (frk (xw x)) (wU (xw x) ++ [[]])) 6 (wU (xw x)).length).2 5 (wU (xw x)).length).2 (xw y2) := by
            have := p1.2.1
            rw [decide_eq_false cl, e] at this
            exact this.tr p2.2.1
          refine le3.1 ((wO (xw x)).length + 1) (5, (wU (xw x)).length, 0) ?_
          show ((wO (xw x) ++ [(6, (wU (xw x)).length, 0)]) ++ [(5, (wU (xw x)).length, 0)])[(wO (xw x)).length + 1]? = _
          rw [List.getElem?_append_right (by rw [List.length_append]; simp), List.length_append]
          simp
        obtain ⟨ps2, ho2⟩ := ho2
        have hW2 : V ++ List.replicate i' none ++ [some (some ((wO (xw x)).length + 1))] = V ++ (List.replicate i' none ++ [some (some ((wO (xw x)).length + 1))]) := List.append_assoc ..
        rw [show (wO (frk (xw x))).length = (wO (xw x)).length from rfl, show (wU (frk (xw x))) = wU (xw x) from rfl, hW2] at r3
        refine at124 b pp h3 (nI b2) (List.replicate i' none ++ [some (some ((wO (xw x)).length + 1))]) ((nI b2, (wU (xw x)).length) :: Z') ?_ ?_ ?_ ?_
        · rcases hA with ⟨z1, z2⟩ | ⟨z1, z2, z3, z4, z5⟩
          · exact Or.inl ⟨z1, fun z hz => List.mem_cons_of_mem _ (ZZ z hz)⟩
          · refine Or.inr ⟨z1, z2, by rw [z3]; exact List.mem_cons_of_mem _ List.mem_cons_self, z4, fun z hz hp => ?_, fun z hz a ea => ?_⟩
            · rw [z3] at hz
              rcases List.mem_cons.mp hz with g | g
              · rw [g] at hp
                have hp : (wU (xw x)).length = pp := hp
                omega
              · rcases List.mem_cons.mp g with g | g
                · exact g
                · have := hZu z g; omega
            · rcases List.mem_append.mp hz with g | g
              · rw [List.eq_of_mem_replicate g] at ea; cases ea
              · rw [List.mem_singleton.mp g] at ea
                cases ea
                intro q' hq' hh
                rw [ho2] at hq'
                cases hq'
                have h2 : (wU (xw x)).length = pp := hh.2
                omega
        · rw [← List.append_assoc, List.length_append, List.length_singleton]; omega
        · rw [decide_eq_false cl, e]
          exact r3
        · rw [decide_eq_false cl, e]
          refine ⟨b2, (wU (xw x)).length, i', ps2, rfl, b2l, ?_, rfl, ho2, hu⟩
          rcases hA with ⟨z1, z2⟩ | ⟨z1, z2, z3, z4, z5⟩
          · rw [if_pos z1, z2]
          · rw [if_neg (by rw [z1]; exact fun q => (nI_neg1 (by omega)).mp q), z3]
            rw [List.filter_cons_of_pos (by simp; omega), List.filter_cons_of_neg (by simp), fz pp z4]
    cases p with
    | none =>
      obtain ⟨a1, a2, i', a3⟩ := ha
      refine ⟨fun _ => ?_, fun c => absurd a1 c⟩
      subst a3
      refine at65 0 0 h1 i' (subF (xf x)) (Or.inl ⟨a1, a2⟩) (fun last => ?_) (Nat.le_refl _) r1
      cases last with
      | true => rfl
      | false =>
        have eo : (wO (opn (uU (frk (xw x)) (wU (xw x) ++ [[]])) 6 (wU (xw x)).length).2).length = (wO (xw x)).length + 1 := by
          show (wO (xw x) ++ [(6, (wU (xw x)).length, 0)]).length = _
          rw [List.length_append]; rfl
        rw [if_neg (by decide), ← eo]
        rfl
    | some o =>
      obtain ⟨b, pp, i', ps, a1, a2, a3, a4, a5, a6⟩ := ha
      have ne : ¬ x6 = -1 := by rw [a1]; exact fun q => (nI_neg1 (by omega)).mp q
      subst a4
      have e69 : hpI h1 320 69 = nI (V.length + i' + 1) := by
        obtain ⟨A, B, Qs, -, -, -, -, -, -, -, hv, -⟩ := r1
        have := hv.1
        rw [List.length_append, List.length_append, List.length_replicate, List.length_singleton, ← Nat.add_assoc] at this
        exact this
      have iV : V.length + i' < (V ++ (List.replicate i' none ++ [some (some o)])).length := by rw [List.length_append, List.length_append, List.length_replicate, List.length_singleton]; omega
      have eV : (V ++ (List.replicate i' none ++ [some (some o)]))[V.length + i']'iV = some (some o) := by
        rw [List.getElem_append_right (by omega), List.getElem_append_right (by rw [List.length_replicate]; omega)]
        simp
      have lV2 : (V ++ (List.replicate i' none ++ [some (some o)])).length = V.length + i' + 1 := by rw [List.length_append, List.length_append, List.length_replicate, List.length_singleton]; omega
      have k300 : wB (xw x) ≤ 300 := w0.1
      refine ⟨fun c => absurd c ne, fun _ => ⟨sr_k sr1, 352, sr_r68 sr1, sr_k352 sr1, ?_⟩⟩
      rw [e69, nI_pred, nI_clamp (by omega)]
      refine ⟨by rw [sr_z352 sr1]; exact vp_in_nI (by omega) (by omega), mx_xKV (k_X12_sets (j := 36) sr1 (by omega)) ?_⟩
      have r2 := r1.hput2 (k := 0) (by omega) (v := hpI h1 352 (V.length + i')) (x := some o) (fun A _ hv _ => by
        have := hv.2 (V.length + i') iV
        rw [eV] at this
        exact this) (fun L hL _ => hL _ iV)
      have r3 : RG h0 (hsI h1 354 (83 * q + 36) (hpI h1 352 (V.length + i'))) (frk (xw x)) ((q, (vH (subF (xf x)) (fup (fH (subF (xf x))) 0 (some o)), false, []), []) :: ((s, x.2, js) :: (jG x.2 js ++ G))) (V ++ List.replicate (i' + 1) none) P ([], [], Z') (n0 + wM (xw x)) (m0 + 12 * wB (xw x)) 1000 := by
        rw [← List.append_assoc] at r2
        have := r2.vfor
        rw [List.append_assoc, ← List.replicate_succ'] at this
        exact this
      have ppl : pp < (wU (xw x)).length := by
        have := w0.2.2.2.2.1 (5, pp, ps) (List.mem_of_getElem? a5) (Or.inl rfl)
        exact this
      refine at65 b pp _ (i' + 1) (vH (subF (xf x)) (fup (fH (subF (xf x))) 0 (some o))) (Or.inr ⟨a1, a2, a3, a6, ppl⟩) (fun last => ?_) ?_ r3
      · cases last with
        | true => rfl
        | false =>
          have eo : (wO (opn (uU (frk (xw x)) (wU (xw x) ++ [[]])) 6 (wU (xw x)).length).2).length = (wO (xw x)).length + 1 := by
            show (wO (xw x) ++ [(6, (wU (xw x)).length, 0)]).length = _
            rw [List.length_append]; rfl
          rw [if_neg (by decide), ← eo]
          rfl
      · rw [lV2, List.length_append, List.length_replicate]; omega
theorem ct_sev (ih : Ctr h0 T nn k) (wt : WT T nn) (hT : rtabs h0 = T) (v : Int32) : SMc h0 T nn (k + 1) 0 mY_X12_runsSeveral [.int v] (cSev v 0 0 none) := by
  intro d g h x x' s js G V P Z n0 m0 hx hb hz he p
  obtain ⟨r, nX, pV, pG, pn, pm⟩ := id p
  have sr := r.sr
  have e69 : hpI h 320 69 = nI V.length := by
    obtain ⟨A, B, Qs, -, -, -, -, -, -, -, hv, -⟩ := r
    exact hv.1
  refine b_X12_runsSeveral 320 _ _ ⟨sr_k sr, ?_⟩
  rw [e69]
  have w0 := hz.w0 (show (5 : Nat) ≠ 6 by decide) nX
  have r' : RG h0 h (xw x) ((s, x.2, js) :: (jG x.2 js ++ G)) (V ++ []) P ([], [], Z) (n0 + wM (xw x)) (m0 + 12 * wB (xw x)) 1000 := by rw [List.append_nil]; exact r
  have o := r.olds w0.2.2.2.2.1
  exact ct_svl ih wt hT d g h x x' s js G V [] P Z Z n0 m0 v 0 0 none (-1) (wU (xw x)).length hx hb hz r' nX (by rw [List.append_nil]; omega) pG pn pm ⟨rfl, rfl, 0, rfl⟩ o (Nat.le_refl _)
end MXR4
