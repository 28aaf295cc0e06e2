/-! THE REFERENCE'S RUN: calls, conditions, loops, round brackets -/
section MXR5
variable {d g : Nat} {h0 h h1 : mxH} {T : spT} {nn k s : Nat} {x x1 x' y : spX} {w w1 : spW} {S : spS} {js : List Nat} {G L : List spE} {V W : List (Option (Option Nat))} {P : List spX} {N : spN} {Z : List (Int32 × Nat)} {n m xs n0 m0 u : Nat} {Q : mxRes → mxH → Prop} {v : Int32}
theorem RG.ne (r : RG h0 h w ((s, S, js) :: G) V P N n m xs) {q : Nat} (hq : q ≤ 4) : RG h0 (hsI h 354 (83 * s + 46) (nI q)) w ((s, (vN S.1 q, S.2), js) :: G) V P N n m xs :=
  r.place (S' := (vN S.1 q, S.2)) (by omega) (by omega) (by omega) rfl (fun _ _ _ r => r.ne hq) (fun _ r => r.other (by omega))
theorem RGs.ne (r : RGs h0 h w ((s, S, js) :: G) V P) {q : Nat} (hq : q ≤ 4) : RGs h0 (hsI h 354 (83 * s + 46) (nI q)) w ((s, (vN S.1 q, S.2), js) :: G) V P :=
  r.row (f := fup (hpI h 354) (83 * s + 46) (nI q)) (S' := (vN S.1 q, S.2)) (offS.rf.up (by omega)) fun ln g a b => by rw [shR_up]; exact ⟨a.ne hq, b.other (by omega)⟩
theorem ct_cal (ih : Ctr h0 T nn k) (wt : WT T nn) (hT : rtabs h0 = T) (v : Int32) : SMc h0 T nn (k + 1) 0 mY_X12_calls [.int v] (cCal v) := by
  intro d g h x x' s js G V P Z n0 m0 hx hb hz he p
  obtain ⟨hd, hb⟩ := bx hb
  have hb : fN (xf x) = 4 ∨ bEx T k (d - 1) g (cScr v) (zf x (vN (xf x) (fN (xf x) + 1))) := hb
  have hx : gCal (gEx T k) v x = some x' := hx
  have ne : xe x = false := he.elim id fun q => absurd q (show ¬ 10 ≤ (9 : Nat) by decide)
  obtain ⟨r, nX, pV, pG, pn, pm⟩ := id p
  have sr := p.sr
  have hs := p.sN
  have e46 : hpI h 354 (83 * s + 46) = nI (fN x.2.1) := r.own.2.1.2.2.2.2.2.2.2.1
  have l4 : fN x.2.1 ≤ 4 := r.own.2.1.2.2.2.2.2.2.2.2.1
  unfold gCal at hx
  refine b_X12_calls 320 _ _ ⟨by omega, sr_k sr, mx_xKI2 (k_X12_of (j := 46) sr (by omega)) ?_⟩
  rw [e46]
  refine ⟨fun c => ?_, fun c => ?_⟩
  · have c4 : ¬ fN (xf x) = 4 := fun e => c (by rw [show fN x.2.1 = 4 from e]; rfl)
    rw [if_neg c4] at hx
    obtain ⟨x1, hx1, h2⟩ := Option.bind_eq_some_iff.mp hx
    cases h2
    have c5 : ¬ fN x.2.1 = 4 := c4
    have hz1 : Hz T nn (cScr v) (zf x (vN (xf x) (fN (xf x) + 1))) := ⟨Or.inr hz.1, hz.2.1, fun e => hz.w0 (show (9 : Nat) ≠ 6 by decide) e⟩
    have p1 := mi_all wt k _ _ _ hx1 hz1
    have eN : fN (xf x1) = fN (xf x) + 1 := p1.2.2.1 (show (0 : Nat) ≠ 10 by decide)
    have hb1 : bEx T k (d - 1) g (cScr v) (zf x (vN (xf x) (fN (xf x) + 1))) := hb.elim (fun e => absurd e c4) id
    have r1 := r.ne (q := fN x.2.1 + 1) (by omega)
    refine ⟨sr_k sr, mx_xKI2 (k_X12_of (j := 46) sr (by omega)) ⟨sr_k sr, ?_⟩⟩
    rw [e46, nI_1]
    refine mx_xKV (k_X12_sets (j := 46) sr (by omega)) ⟨sr_k sr, mx_uV (ih.scr v (d - 1) g _ _ x1 s js G V P Z n0 m0 hx1 hb1 hz1 (Or.inl ne) ⟨r1, nX, pV, pG, pn, pm⟩) fun h2 ps => ?_⟩
    rcases ps with ⟨a, js2, r2⟩ | ⟨a, js2, r2⟩
    · have s2 := r2.sr
      have f46 : hpI h2 354 (83 * s + 46) = nI (fN x1.2.1) := r2.own.2.1.2.2.2.2.2.2.2.1
      have k4 : fN x1.2.1 ≤ 4 := r2.own.2.1.2.2.2.2.2.2.2.2.1
      refine ⟨sr_k s2, mx_xKI2 (k_X12_of (j := 46) s2 (by omega)) ⟨sr_k s2, ?_⟩⟩
      have e1 : fN x1.2.1 = fN x.2.1 + 1 := eN
      rw [f46, show nI (fN x1.2.1) - 1 = nI (fN x1.2.1 - 1) from pk_sub (b := 1) (by omega)]
      refine mx_xKV (k_X12_sets (j := 46) s2 (by omega)) (Or.inl ⟨rfl, Or.inl ⟨a, js2, ?_⟩⟩)
      exact r2.ne (q := fN x1.2.1 - 1) (by omega)
    · have s2 := r2.sr
      have f46 : hpI h2 354 (83 * s + 46) = nI (fN x1.2.1) := r2.own.2.1.2.2.2.2.2.2.2.1
      have k4 : fN x1.2.1 ≤ 4 := r2.own.2.1.2.2.2.2.2.2.2.2.1
      refine ⟨sr_k s2, mx_xKI2 (k_X12_of (j := 46) s2 (by omega)) ⟨sr_k s2, ?_⟩⟩
      have e1 : fN x1.2.1 = fN x.2.1 + 1 := eN
      rw [f46, show nI (fN x1.2.1) - 1 = nI (fN x1.2.1 - 1) from pk_sub (b := 1) (by omega)]
      refine mx_xKV (k_X12_sets (j := 46) s2 (by omega)) (Or.inl ⟨rfl, Or.inr ⟨a, js2, ?_⟩⟩)
      exact r2.ne (q := fN x1.2.1 - 1) (by omega)
  · have c4 : fN (xf x) = 4 := (nI_eq (a := fN x.2.1) (b := 4) (by omega) (by omega)).mp c
    rw [if_pos c4] at hx
    cases hx
    exact ⟨sr_k sr, mx_xKV (k_X12_sets (j := 33) sr (by omega)) (Or.inl ⟨rfl, (p.st (v := 126)).pst⟩)⟩
/-- a subshell's end in both ways: its row goes -/
theorem whl_s {l : Int32} (hd : 4 ≤ d) (hX : wX (xw x) = true) (r : RGs h0 h (xw x) ((s, x.2, js) :: G) V P) (hx : gEx T k (cWhl v l) x = some x') :
    mx_SX mY_X12_runsWhile d 13 [(0, .ref 320), (1, .int (nI s)), (2, .int v), (3, .int l)] [] h (mx_KV (Pst h0 x' s G V P Z n0 m0) fun _ _ => False) := by
  have e : x' = x := by
    cases k with
    | zero => cases hx
    | succ k =>
      have hx : gWhl T (gEx T k) v l x = some x' := hx
      unfold gWhl at hx
      rw [if_pos (by rw [hlt_eq, hX]; rfl)] at hx
      cases hx; rfl
  subst e
  refine b_X12_runsWhile_13 320 _ _ _ ⟨by omega, sr_k r.sr, mx_xKI2 (k_X12_isHalted_s (by omega) r hX) ⟨fun _ => ?_, fun c => absurd c (by decide)⟩⟩
  exact b_X12_runsWhile_69 320 _ _ ⟨by omega, sr_k r.sr, mx_xKI2 (k_X12_isHalted_s (by omega) r hX) ⟨fun _ => Or.inl ⟨rfl, Or.inr ⟨hX, js, r⟩⟩, fun c => absurd c (by decide)⟩⟩
theorem ct_whl (ih : Ctr h0 T nn k) (wt : WT T nn) (hT : rtabs h0 = T) (v l : Int32) : SXc h0 T nn (k + 1) mY_X12_runsWhile 13 [(2, .int v), (3, .int l)] (cWhl v l) := by
  intro d g h x x' s js G V P Z n0 m0 hx hb hz p
  obtain ⟨hd, hb⟩ := bx hb
  have hx : gWhl T (gEx T k) v l x = some x' := hx
  obtain ⟨r, nX, pV, pG, pn, pm⟩ := id p
  have sr := p.sr
  have hs := p.sN
  obtain ⟨⟨i, e1, e2, e3⟩, hl⟩ : isK T nn (· = 7) v ∧ stat l := hz.1
  have i3 : i < 3000 := Nat.lt_of_lt_of_le e2 wt.1
  have vin : vp_in v 3000 := by rw [e1]; exact vp_in_nI i3 (by omega)
  obtain ⟨hA, hB⟩ := ((wt.2 i v e1 e2).2.2.2.2.2.2.2.1 e3)
  unfold gWhl at hx
  refine b_X12_runsWhile_13 320 _ _ _ ⟨by omega, sr_k sr, mx_xKI2 (k_X12_isHalted (by omega) r) ?_⟩
  by_cases ch : hlt x = true
  · rw [if_pos ch] at hx
    cases hx
    have ch' : (wX (xw x) || x.2.2.1) = true := ch
    rw [if_pos ch']
    refine ⟨fun _ => b_X12_runsWhile_69 320 _ _ ⟨by omega, sr_k sr, mx_xKI2 (k_X12_isHalted (by omega) r) ?_⟩, fun c => absurd c (by decide)⟩
    rw [if_pos ch']
    exact ⟨fun _ => Or.inl ⟨rfl, p.pst⟩, fun c => absurd c (by decide)⟩
  · rw [if_neg ch] at hx
    have ch' : ¬ (wX (xw x) || x.2.2.1) = true := ch
    rw [if_neg ch']
    have ne : xe x = false := by
      cases e : xe x with
      | false => rfl
      | true => exact absurd (by rw [hlt_eq]; show (wX (xw x) || xe x) = true; rw [e, Bool.or_true]) ch
    refine ⟨fun c => absurd rfl c, fun _ => ⟨sr_k sr, mx_xKI2 (k_X12_statusOf (by omega) r) ⟨fun c => ?_, fun c => ⟨sr_k sr, 325, sr_r35 sr, sr_k325 sr, by rw [sr_z325 sr]; exact vin, ?_⟩⟩⟩⟩
    · have c' : fS (xf x) ≠ 0 := c
      rw [if_pos c'] at hx
      cases hx
      refine b_X12_runsWhile_69 320 _ _ ⟨by omega, sr_k sr, mx_xKI2 (k_X12_isHalted (by omega) r) ?_⟩
      rw [if_neg ch']
      exact ⟨fun c => absurd rfl c, fun _ => ⟨sr_k sr, mx_xKV (k_X12_sets (j := 33) sr (by omega)) (Or.inl ⟨rfl, (p.st (v := l)).pst⟩)⟩⟩
    · have c' : ¬ fS (xf x) ≠ 0 := fun q => q c
      rw [if_neg c'] at hx
      rcases hb with e | e | ⟨hb1, hb2⟩
      · exact absurd e ch
      · exact absurd e c'
      obtain ⟨x1, hx1, h2⟩ := Option.bind_eq_some_iff.mp hx
      have hz1 := hz.to (c2 := cScr (tB T v)) (show (8 : Nat) ≠ 6 by decide) (Or.inr hB.is) (show (0 : Nat) ≠ 7 by decide)
      have p1 : Pz T nn (cWhl v l) x x1 := (mi_all wt k _ _ _ hx1 hz1).cc (show (0 : Nat) ≠ 10 by decide)
      rw [show hpI h 325 v.toNatClampNeg = tB T v by rw [← hT, ← r.rt]; rfl]
      refine mx_uV (ih.scr _ (d - 1) g h x x1 s js G V P Z n0 m0 hx1 hb1 hz1 (Or.inl ne) p) fun h1 ps => ?_
      rcases ps.go (V' := V) (x := x) (g := g) p1.2.1.2.2.1 pV pG pn pm with ⟨sX, js1, r1⟩ | ⟨js1, q1⟩
      · rw [if_pos (by rw [hlt_eq, sX]; rfl)] at h2
        cases h2
        exact ⟨sr_k r1.sr, mx_xKI2 (k_X12_isHalted_s (by omega) r1 sX) ⟨fun c => absurd c (by decide), fun _ => Or.inl ⟨rfl, Or.inr ⟨sX, js1, r1⟩⟩⟩⟩
      · have s1 := q1.sr
        obtain ⟨r1, nX1, pV1, -⟩ := id q1
        refine ⟨sr_k s1, mx_xKI2 (k_X12_isHalted (by omega) r1) ?_⟩
        by_cases ch1 : hlt x1 = true
        · rw [if_pos ch1] at h2
          have ch1' : (wX (xw x1) || x1.2.2.1) = true := ch1
          rw [if_pos ch1']
          cases h2
          exact ⟨fun c => absurd c (by decide), fun _ => Or.inl ⟨rfl, q1.pst⟩⟩
        · rw [if_neg ch1] at h2
          have ch1' : ¬ (wX (xw x1) || x1.2.2.1) = true := ch1
          have ch1f : hlt x1 = false := by cases e : hlt x1 with
            | false => rfl
            | true => exact absurd e ch1
          have ne1 : xe x1 = false := by
            cases e : xe x1 with
            | false => rfl
            | true => exact absurd (by rw [hlt_eq]; show (wX (xw x1) || xe x1) = true; rw [e, Bool.or_true]) ch1
          rw [if_neg ch1']
          obtain ⟨x2, hx2, h3⟩ := Option.bind_eq_some_iff.mp h2
          obtain ⟨hb3, hb4⟩ := hb2 x1 hx1 ch1f
          have hz2 := p1.hz (c2 := cCh (tA T v)) hA.is (show (2 : Nat) ≠ 7 by decide) (show (2 : Nat) ≠ 6 by decide)
          have p2 := mi_all wt k _ _ _ hx2 hz2
          have p12 : Pz T nn (cWhl v l) x x2 := p1.tr p2 (show (8 : Nat) ≠ 10 by decide) (show (2 : Nat) ≠ 10 by decide)
          refine ⟨fun _ => ⟨sr_k s1, mx_xKI2 (k_X12_statusOf (by omega) r1) ⟨sr_k s1, 324, sr_r34 s1, sr_k324 s1, by rw [sr_z324 s1]; exact vin, ?_⟩⟩, fun c => absurd rfl c⟩
          rw [show hpI h1 324 v.toNatClampNeg = tA T v by rw [← hT, ← r1.rt]; rfl]
          refine mx_uV (ih.ch _ (d - 1) g h1 x1 x2 s js1 G V P Z n0 m0 hx2 hb3 hz2 (Or.inl ne1) q1) fun h2' ps2 => ?_
          rcases ps2.go (V' := V) (x := x) (g := g) p12.2.1.2.2.1 pV pG pn pm with ⟨sX, js2, r2⟩ | ⟨js2, q2⟩
          · exact whl_s (by omega) sX r2 h3
          · exact ih.whl v _ d g h2' x2 x' s js2 G V P Z n0 m0 h3 (hb4 x2 hx2) (p12.hz (c2 := cWhl v (fS (xf x1))) ⟨⟨i, e1, e2, e3⟩, p1.1.1.1⟩ (show (8 : Nat) ≠ 7 by decide) (show (8 : Nat) ≠ 6 by decide)) q2
/-- round brackets -/
theorem ct_rnd (ih : Ctr h0 T nn k) (wt : WT T nn) (hT : rtabs h0 = T) {v : Int32} (hd : 19 ≤ d) (hcm : ∃ i, v = nI i ∧ i < 3000) (hA : isK T nn (· = 1) (tA T v)) (hx : gRnd T (gEx T k) v x = some x') (hz : Hz T nn (cBdy v) x)
    (hg : 1 ≤ g) (hb1 : bEx T k (d - 1) (g - 1) (cScr (tA T v)) (frk (xw x), subF (xf x), false, [])) (hb2 : ∀ y1, gEx T k (cScr (tA T v)) (frk (xw x), subF (xf x), false, []) = some y1 → wX (xw y1) = false → bEx T k (d - 1) (g - 1) cFin y1)
    (p : Pre 0 h0 h x s js G V P Z n0 m0 g) : mx_SM mY_X12_runsRound d [.ref 320, .int (nI s), .int v] h (mx_KV (Pst h0 x' s G V P Z n0 m0) fun _ _ => False) := by
  obtain ⟨r, nX, pV, pG, pn, pm⟩ := id p
  have sr := p.sr
  have hs := p.sN
  have l8 : x.2.2.2.length ≤ 8 := r.own.2.2.2.2.1
  have lj := jG_len (S := x.2) (js := js)
  obtain ⟨iv, ev, hiv⟩ := hcm
  have vin : vp_in v 3000 := by rw [ev]; exact vp_in_nI hiv (by omega)
  unfold gRnd at hx
  obtain ⟨y1, hy1, h2⟩ := Option.bind_eq_some_iff.mp hx
  have hz1 : Hz T nn (cScr (tA T v)) (frk (xw x), subF (xf x), false, []) := ⟨Or.inr hA, ⟨(hz.2.1.1 : okF T nn (subF (xf x))), fun q hq => absurd hq List.not_mem_nil⟩, fun e => (hz.w0 (show (7 : Nat) ≠ 6 by decide) e : okW (frk (xw x)) 0 0)⟩
  have p1 := mi_all wt k _ _ _ hy1 hz1
  have lL : ((s, x.2, js) :: (jG x.2 js ++ G)).length ≤ 9 + G.length := by rw [List.length_cons, List.length_append]; omega
  refine b_X12_runsRound 320 _ _ ⟨by omega, sr_k sr, mx_uI (k_X12_fork (by omega) r (by omega) (by rw [List.length_append]; omega)) ?_⟩
  rintro v2 h1 ⟨q, rfl, q1, q2, r1⟩
  have s1 := r1.sr
  -- the row goes
  have stop : ∀ h3 (w : spW) (E : spS) jq, wX w = true → RGs h0 h3 w ((q, E, jq) :: ((s, x.2, js) :: (jG x.2 js ++ G))) V P → mx_SX mY_X12_runsRound d 48 [(0, .ref 320), (3, .int (nI q))] [] h3 (mx_KV (Pst h0 (w, x.2) s G V P Z n0 m0) fun _ _ => False) := by
    intro h3 w E jq hX rs
    refine b_X12_runsRound_48 320 _ ⟨by omega, sr_k rs.sr, mx_xKV (k_X12_sets (j := 82) rs.sr (by omega)) (Or.inl ⟨rfl, Or.inr ⟨hX, js, ?_⟩⟩)⟩
    exact (rs.set0 (j := 82) (v := 0) (by omega) (by omega)).sub (List.Sublist.trans (List.Sublist.cons_cons _ (List.sublist_append_right _ _)) (List.sublist_cons_self _ _))
  refine ⟨sr_k s1, 324, sr_r34 s1, sr_k324 s1, by rw [sr_z324 s1]; exact vin, ?_⟩
  rw [show hpI h1 324 v.toNatClampNeg = tA T v by rw [← hT, ← r1.rt]; rfl]
  have pre : Pre 0 h0 h1 (frk (xw x), subF (xf x), false, []) q [] ((s, x.2, js) :: (jG x.2 js ++ G)) V P Z n0 m0 (g - 1) := ⟨r1, nX, pV, by omega, pn, pm⟩
  refine mx_uV (ih.scr _ (d - 1) (g - 1) h1 _ y1 q [] _ V P Z n0 m0 hy1 hb1 hz1 (Or.inl rfl) pre) fun h3 ps => ?_
  rcases ps with ⟨aX, jq, r3⟩ | ⟨aX, jq, r3⟩
  · have s3 := r3.sr
    have k3 := k_X12_isStoppedNow (d := d - 1) r3
    rw [aX] at k3
    rw [if_neg (by rw [aX]; decide)] at h2
    obtain ⟨y2, hy2, h4⟩ := Option.bind_eq_some_iff.mp h2
    have hz2 := p1.hz (c2 := cFin) trivial (show (10 : Nat) ≠ 7 by decide) (show (10 : Nat) ≠ 6 by decide)
    have p2 := mi_all wt k _ _ _ hy2 hz2
    have up : wB (xw x) ≤ wB (xw y1) := p1.2.1.2.2.1
    have pre2 : Pre 0 h0 h3 y1 q jq ((s, x.2, js) :: (jG x.2 js ++ G)) V P Z n0 m0 (g - 1) := ⟨r3, aX, by omega, by omega, pn, pm⟩
    refine ⟨sr_k s3, mx_xKI2 k3 ⟨fun c => absurd rfl c, fun _ => ⟨sr_k s3, mx_uV (ih.fin (d - 1) (g - 1) h3 y1 y2 q jq _ V P Z n0 m0 hy2 (hb2 y1 hy1 aX) hz2 (Or.inr (Nat.le_refl 10)) pre2) fun h5 ps => ?_⟩⟩⟩
    rcases ps with ⟨bX, jq2, r5⟩ | ⟨bX, jq2, r5⟩
    · rw [jG_nil (nz_fin hy2 bX)] at r5
      have s5 := r5.sr
      have k5 := k_X12_isStoppedNow (d := d - 1) r5
      rw [bX] at k5
      rw [if_neg (by rw [bX]; decide)] at h4
      cases h4
      refine ⟨sr_k s5, mx_xKI2 k5 ⟨fun c => absurd rfl c, fun _ => ⟨sr_k s5, mx_xKI2 (k_X12_statusOf (by omega) r5) ⟨sr_k s5, mx_xKV (k_X12_sets (j := 33) s5 (by omega)) ?_⟩⟩⟩⟩
      have r6 := (RG.swap r5).st (v := fS y2.2.1)
      have r7 := r6.swap
      refine b_X12_runsRound_48 320 _ ⟨by omega, sr_k r7.sr, mx_xKV (k_X12_sets (j := 82) r7.sr (by omega)) (Or.inl ⟨rfl, Or.inl ⟨bX, js, ?_⟩⟩)⟩
      exact r7.dead
    · have s5 := r5.sr
      have k5 := k_X12_isStoppedNow_s (d := d - 1) r5
      rw [bX, if_pos rfl] at k5
      rw [if_pos bX] at h4
      cases h4
      exact ⟨sr_k s5, mx_xKI2 k5 ⟨fun _ => stop h5 _ _ _ bX r5, fun c => absurd c (by decide)⟩⟩
  · have k3 := k_X12_isStoppedNow_s (d := d - 1) r3
    rw [aX, if_pos rfl] at k3
    rw [if_pos aX] at h2
    cases h2
    exact ⟨sr_k r3.sr, mx_xKI2 k3 ⟨fun _ => stop h3 _ _ _ aX r3, fun c => absurd c (by decide)⟩⟩
end MXR5
