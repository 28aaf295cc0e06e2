/-! THE REFERENCE'S RUN: plain commands, bodies, all tasks -/
section MXR9
variable {d g : Nat} {h0 h h1 : mxH} {T : spT} {nn k s : Nat} {x x1 x' y : spX} {w w1 : spW} {S : spS} {js : List Nat} {G L : List spE} {V W : List (Option (Option Nat))} {P : List spX} {N : spN} {Z : List (Int32 × Nat)} {n m xs n0 m0 u : Nat} {Q : mxRes → mxH → Prop} {v : Int32} {f : spF} {as : List spL}
theorem opRead_M : Wr w (opRead as w f).2.1 := by
  unfold opRead
  split
  · exact Wr.rf
  · simp only []
    split
    · exact Wr.rd
    · split
      · exact Wr.rd
      · split
        · exact Wr.rd
        · exact Wr.rd
theorem opTrap_M : (opTrap as w f).2.1 = w := by
  unfold opTrap
  split
  · rfl
  · split
    · rfl
    · rfl
theorem opSet_M : (opSet as w f).2.1 = w := by
  unfold opSet
  split
  · rfl
  · rfl
theorem stat_n1 {v : Int32} (h : stat v) : v ≠ -1 := by
  obtain ⟨k, k1, rfl⟩ := h
  exact fun e => (nI_neg1 (by omega)).mp e
theorem RBr.n1 {r : Int32 × spW × spF} {h' : mxH} (o : Owk T nn w f r) (q : RBr h0 G V P Z n m xs s S js r v h') : v ≠ -1 := by
  rcases q with ⟨q1, rfl, -⟩ | ⟨q1, rfl, -⟩
  · exact stat_n1 (o.2.2.1.resolve_left q1)
  · decide
theorem ct_pln (ih : Ctr h0 T nn k) (wt : WT T nn) (hT : rtabs h0 = T) (hd : 18 ≤ d) (hcm : ∃ i, v = nI i ∧ i < 3000) (hA : okA T 350 (tA T v)) (hx : gPln (gEx T k) (cmdK (tM T v)) (tM T v) ((argsOf T v).map (evA (xf x))) x = some x') (hz : Hz T nn (cBdy v) x) (ne : xe x = false)
    (hb : bPln (bEx T k) g d (cmdK (tM T v)) (tM T v) ((argsOf T v).map (evA (xf x))) x) (p : Pre 0 h0 h x s js G V P Z n0 m0 g) :
    mx_SM mY_X12_runsPlain d [.ref 320, .int (nI s), .int v] h (mx_KV (Pst h0 x' s G V P Z n0 m0) fun _ _ => False) := by
  obtain ⟨r, nX, pV, pG, pn, pm⟩ := id p
  have sr := p.sr
  have hs := p.sN
  have rt : rtabs h = T := p.rt.trans hT
  obtain ⟨iv, ev, hiv⟩ := hcm
  have vin : vp_in v 3000 := by rw [ev]; exact vp_in_nI hiv (by omega)
  obtain ⟨k1, k2, k3, k4, k5, k6, k7⟩ : okW (xw x) 1 0 := hz.2.2 nX
  have hst : ∃ k, k < 1000 ∧ fS x.2.1 = nI k := by
    obtain ⟨k, a, b⟩ := hz.2.1.1.1
    exact ⟨k, by omega, b⟩
  have eM : hpL h 330 v.toNatClampNeg = tM T v := by rw [← rt]; rfl
  refine b_X12_runsPlain 320 _ _ ⟨sr_k sr, 330, sr_r40 sr, sr_k330 sr, by rw [sr_z330 sr]; exact vin, by omega, ?_⟩
  rw [eM]
  refine mx_xKI2 (k_X12_isCommand sr) ⟨fun c => ?_, fun c => ?_⟩
  · have cK : cmdK (tM T v) ≠ 0 := fun e => c (by rw [if_pos e])
    refine ⟨sr_k sr, mx_uV (k_X12_evaluatesAll (cm := v) (by omega) r hst ⟨iv, ev, hiv⟩ (by rw [rt]; exact hA.1) (by rw [rt]; exact hA.2.1) (by rw [rt]; exact hA.2.2)) ?_⟩
    rw [rt]
    rintro h2 ⟨sa, ra, l80, l350⟩
    have xfe : evA (xf x) = evA x.2.1 := rfl
    rw [xfe] at hx hb
    generalize (argsOf T v).map (evA x.2.1) = as at hx hb ra l80 l350
    have h30 : as.flatten.length ≤ 30000 := by omega
    have hl : as.length ≤ 400 := by omega
    have p2 : Pre 0 h0 h2 x s js G V P Z n0 m0 g := ⟨r.sa sa, nX, pV, pG, pn, pm⟩
    obtain ⟨r2, -⟩ := id p2
    have s2 := p2.sr
    have hxs : s ≠ 1000 := by omega
    refine ⟨sr_k s2, ?_⟩
    rw [sr_l13 s2, sr_l14 s2, sr_l15 s2, sr_l16 s2, sr_l17 s2, sr_l18 s2, sr_l19 s2, sr_l20 s2, sr_l21 s2, sr_l22 s2, sr_l24 s2]
    simp only [lg_cmp_eq]
    rw [cmdK_eq] at hx hb cK
    generalize tM T v = nm at hx hb cK ⊢
    have out : ∀ v1 h3, Aft h0 x' s G V P Z n0 m0 v1 h3 → mx_SX mY_X12_runsPlain d 262 [(0, .ref 320), (1, .int (nI s)), (5, .int v1)] [] h3 (mx_KV (Pst h0 x' s G V P Z n0 m0) fun _ _ => False) := fun v1 h3 a => pl_262 (by omega) hs a
    refine ⟨fun c1 => ⟨fun c2 => ⟨fun c3 => ⟨fun c4 => ⟨fun c5 => ⟨fun c6 => ⟨fun c7 => ⟨fun c8 => ⟨fun c => absurd trivial c, fun _ => ⟨fun c9 => ⟨fun c10 => ⟨fun c12 => ?_, fun c12 => ?_⟩, fun c10 => ?_⟩, fun c9 => ?_⟩⟩, fun c8 => ?_⟩, fun c7 => ?_⟩, fun c6 => ?_⟩, fun c5 => ?_⟩, fun c4 => ?_⟩, fun c3 => ?_⟩, fun c2 => ?_⟩, fun c1 => ?_⟩
    · -- wait
      rw [if_neg c1, if_neg c2, if_neg c3, if_neg c4, if_neg c5, if_neg c6, if_neg c7, if_neg c8, if_neg c9, if_neg c10] at hx hb cK
      have c11 : nm = 1166741 := by
        by_cases c11 : nm = 1166741
        · exact c11
        · rw [if_neg c11, if_neg c12] at cK; exact absurd rfl cK
      rw [if_pos c11] at hx hb
      have hx : gWt (gEx T k) false as x = some x' := hx
      exact mx_uI (ct_wt (fg := false) ih wt (by omega) ra h30 hl hx hz ne (hb.2.2 (by omega)) p2) fun v1 h3 a => out v1 h3 a
    · -- fg
      rw [if_neg c1, if_neg c2, if_neg c3, if_neg c4, if_neg c5, if_neg c6, if_neg c7, if_neg c8, if_neg c9, if_neg c10, if_neg (by rw [c12]; decide), if_pos c12] at hx hb
      have hx : gWt (gEx T k) true as x = some x' := hx
      exact mx_uI (ct_wt (fg := true) ih wt (by omega) ra h30 hl hx hz ne (hb.2.2 (by omega)) p2) fun v1 h3 a => out v1 h3 a
    · -- raise
      rw [if_neg c1, if_neg c2, if_neg c3, if_neg c4, if_neg c5, if_neg c6, if_neg c7, if_neg c8, if_neg c9, if_pos c10] at hx hb
      have hx : gRse (gEx T k) as x = some x' := hx
      exact mx_uI (ct_rse ih wt (by omega) ra h30 hl hx hz ne (hb.2.1 rfl) p2) fun v1 h3 a => out v1 h3 a
    · -- exit
      rw [if_neg c1, if_neg c2, if_neg c3, if_neg c4, if_neg c5, if_neg c6, if_neg c7, if_neg c8, if_pos c9] at hx
      have hx : some (match opExit as (xf x) with
        | none => zSt x 2
        | some v => zEnd x v) = some x' := hx
      have hx := Option.some.inj hx
      refine mx_uI (k_X12_exits (by omega) ra h30 hl r2) fun v1 h3 q => out v1 h3 ?_
      have hx : (match opExit as x.2.1 with
        | none => zSt x 2
        | some v => zEnd x v) = x' := hx
      cases eo : opExit as x.2.1 with
      | none =>
        rw [eo] at q hx
        obtain ⟨q1, q2⟩ := q
        rw [← hx, q1]
        exact Pre.aft (g := g) ⟨q2, nX, pV, pG, pn, pm⟩ ne
      | some st =>
        rw [eo] at q hx
        rw [← hx]
        refine ⟨zEnd x st, ?_, Or.inl ⟨nX, js, q⟩⟩
        unfold zUn
        rw [if_pos (by show (wX (xw x) || true) = true; rw [Bool.or_true])]
    · -- set
      rw [if_neg c1, if_neg c2, if_neg c3, if_neg c4, if_neg c5, if_neg c6, if_neg c7, if_pos c8] at hx
      cases hx
      refine mx_uI (k_X12_setsOption (by omega) ra h30 hl r2) fun v1 h3 q => ⟨fun _ => out v1 h3 (q.aft ne ?_ ?_ ?_), fun e => absurd e (RBr.n1 (T := T) (nn := nn) (f := x.2.1) (w := xw x) Owk.set q)⟩
      · show wX (opSet as x.1 x.2.1).2.1 = false; rw [opSet_M]; exact nX
      · show _ ≤ n0 + wM (opSet as x.1 x.2.1).2.1; rw [opSet_M]; exact Nat.le_refl _
      · show _ ≤ m0 + 12 * wB (opSet as x.1 x.2.1).2.1; rw [opSet_M]; exact Nat.le_refl _
    · -- trap
      rw [if_neg c1, if_neg c2, if_neg c3, if_neg c4, if_neg c5, if_neg c6, if_pos c7] at hx
      cases hx
      refine mx_uI (k_X12_traps (by omega) ra h30 hl r2) fun v1 h3 q => ⟨fun _ => out v1 h3 (q.aft ne ?_ ?_ ?_), fun e => absurd e (RBr.n1 (T := T) (nn := nn) (f := x.2.1) (w := xw x) Owk.trap q)⟩
      · show wX (opTrap as x.1 x.2.1).2.1 = false; rw [opTrap_M]; exact nX
      · show _ ≤ n0 + wM (opTrap as x.1 x.2.1).2.1; rw [opTrap_M]; exact Nat.le_refl _
      · show _ ≤ m0 + 12 * wB (opTrap as x.1 x.2.1).2.1; rw [opTrap_M]; exact Nat.le_refl _
    · -- exec
      rw [if_neg c1, if_neg c2, if_neg c3, if_neg c4, if_neg c5, if_pos c6] at hx
      cases hx
      rw [ra.1]
      refine ⟨fun c => ⟨fun _ => out 2 h2 ?_, fun e => absurd e (by decide)⟩, fun c => ⟨fun _ => out 0 h2 ?_, fun e => absurd e (by decide)⟩⟩
      · rw [if_neg (fun e => c (by rw [e]; rfl))]; exact p2.aft ne
      · rw [if_pos ((nI_eq (b := 0) (by omega) (by omega)).mp c)]; exact p2.aft ne
    · -- cat
      rw [if_neg c1, if_neg c2, if_neg c3, if_neg c4, if_pos c5] at hx
      have hx : (if as.length = 0 then (catN 12041 (xw x) (xf x)).bind fun q => some (zRes x (q.1, q.2, xf x)) else some (zSt x 2)) = some x' := hx
      have p40 : pot (xw x) (fH x.2.1 0) ≤ 40 := pot40 k6
      have ht : totU (xw x) + pot (xw x) (fH x.2.1 0) < 13000 := by omega
      by_cases c0 : as.length = 0
      · rw [if_pos c0] at hx
        obtain ⟨q, hq, h3⟩ := Option.bind_eq_some_iff.mp hx
        cases h3
        have hq' : catN 12041 (xw x) x.2.1 = some q := hq
        have kc := k_X12_copies (d := d - 1) (by omega) hxs ra hl r2 ht (q := q) (fun _ => hq')
        rw [if_pos c0] at kc
        obtain ⟨wq, -, -⟩ := Wr.cat _ _ _ hq'
        refine mx_uI kc fun v1 h3 z => ⟨fun _ => out v1 h3 (z.aft ne ?_ ?_ ?_), fun e => absurd e (RBr.n1 (T := T) (nn := nn) (f := x.2.1) (w := xw x) (Owk.cat hq') z)⟩
        · show wX q.2 = false; rw [wq.2.2.1]; exact nX
        · show _ ≤ n0 + wM q.2; rw [wq.2.1]; exact Nat.le_refl _
        · show _ ≤ m0 + 12 * wB q.2; rw [wq.1]; exact Nat.le_refl _
      · rw [if_neg c0] at hx
        cases hx
        have kc := k_X12_copies (d := d - 1) (by omega) hxs ra hl r2 ht (q := (0, xw x)) (fun e => absurd e c0)
        rw [if_neg c0] at kc
        refine mx_uI kc fun v1 h3 z => ⟨fun _ => out v1 h3 ?_, fun e => absurd e (RBr.n1 (T := T) (nn := nn) (f := x.2.1) (w := xw x) (Owk.same st2) z)⟩
        have := z.aft (n0 := n0) (m0 := m0) ne (show wX (xw x) = false from nX) (Nat.le_refl _) (Nat.le_refl _)
        have e : zRes x (2, xw x, x.2.1) = zSt x 2 := by unfold zRes; rw [if_neg (show ¬ (2 : Int32) = -2 by decide)]
        rw [e] at this
        exact this
    · -- read
      rw [if_neg c1, if_neg c2, if_neg c3, if_pos c4] at hx
      cases hx
      have wq : Wr (xw x) (opRead as (xw x) x.2.1).2.1 := opRead_M
      refine mx_uI (k_X12_readsInto (by omega) hxs ra h30 hl nX ne r2) fun v1 h3 q => ⟨fun _ => out v1 h3 (q.aft ne ?_ ?_ ?_), fun e => absurd e (RBr.n1 (T := T) (nn := nn) (f := x.2.1) (w := xw x) Owk.read q)⟩
      · show wX (opRead as (xw x) x.2.1).2.1 = false; rw [wq.2.2.1]; exact nX
      · show _ ≤ n0 + wM (opRead as (xw x) x.2.1).2.1; rw [wq.2.1]; exact Nat.le_refl _
      · show _ ≤ m0 + 12 * wB (opRead as (xw x) x.2.1).2.1; rw [wq.1]; exact Nat.le_refl _
    · -- echo
      rw [if_neg c1, if_neg c2, if_pos c3] at hx
      cases hx
      have wq : Wr (uM (xw x) (wM (xw x) + 1)) (opEcho as (xw x) x.2.1).2.1 := Wr.wr
      refine mx_uI (k_X12_echoes (by omega) hxs (by omega) (by omega) ra h30 hl r2) fun v1 h3 q => ⟨fun _ => out v1 h3 (q.aft ne ?_ ?_ ?_), fun e => absurd e (RBr.n1 (T := T) (nn := nn) (f := x.2.1) (w := xw x) Owk.echo q)⟩
      · show wX (opEcho as (xw x) x.2.1).2.1 = false; rw [wq.2.2.1]; exact nX
      · show _ ≤ n0 + wM (opEcho as (xw x) x.2.1).2.1; rw [wq.2.1]; exact Nat.le_refl _
      · show _ ≤ m0 + 12 * wB (opEcho as (xw x) x.2.1).2.1; rw [wq.1]; exact Nat.le_refl _
    · -- false
      rw [if_neg c1, if_pos c2] at hx
      cases hx
      exact ⟨fun _ => out 1 h2 (p2.aft ne), fun e => absurd e (by decide)⟩
    · -- true
      rw [if_pos c1] at hx
      cases hx
      exact ⟨fun _ => out 0 h2 (p2.aft ne), fun e => absurd e (by decide)⟩
  · have cK : cmdK (tM T v) = 0 := by
      by_cases e : cmdK (tM T v) = 0
      · exact e
      · rw [if_neg e] at c; exact absurd c (by decide)
    rw [cK] at hx hb
    have hx : gFnc (gEx T k) (tM T v) x = some x' := hx
    unfold gFnc at hx
    refine ⟨sr_k sr, mx_xKI2 (k_X12_functionOf (by omega) r) ?_⟩
    have hx : (match tbF (fU x.2.1) (tM T v) with
      | none => some (zSt x 127)
      | some i => gEx T k (cCal ((fU x.2.1).getD i (0, 0)).2) x) = some x' := hx
    cases et : tbF (fU x.2.1) (tM T v) with
    | none =>
      rw [et] at hx
      cases hx
      exact ⟨fun c => absurd rfl c, fun _ => ⟨sr_k sr, mx_xKV (k_X12_sets (j := 33) sr (by omega)) (Or.inl ⟨rfl, (p.st (v := 127)).pst⟩)⟩⟩
    | some i =>
      rw [et] at hx
      obtain ⟨hi, -⟩ := tbF_at et
      have h10 : (fU x.2.1).length ≤ 10 := r.own.2.1.2.1.2.1
      have hf := (r.own.2.1.2.1.2.2 i hi).2
      refine ⟨fun _ => ⟨sr_k sr, ?_⟩, fun c => absurd c (ixI_some (by omega))⟩
      rw [show (22 : Int32) + ixI (some i) = nI (22 + i) from nI_add 22 i]
      refine mx_xKI2 (k_X12_of sr (by omega)) ⟨sr_k sr, ?_⟩
      have ef : hpI h 354 (83 * s + (22 + i)) = ((fU x.2.1).getD i (0, 0)).2 := by rw [gd_at hi]; exact hf
      rw [ef]
      exact mx_uV (ih.cal _ (d - 1) g h x x' s js G V P Z n0 m0 hx (hb.1 rfl i et) (hz.to (c2 := cCal _) (show (7 : Nat) ≠ 6 by decide) (hz.2.1.1.2 _ (tb_mem et)) (show (9 : Nat) ≠ 7 by decide)) (Or.inl ne) p) fun h1 ps => Or.inl ⟨rfl, ps⟩
theorem ct_bdy (ih : Ctr h0 T nn k) (wt : WT T nn) (hT : rtabs h0 = T) (v : Int32) : SMc h0 T nn (k + 1) 0 mY_X12_runsBody [.int v] (cBdy v) := by
  intro d g h x x' s js G V P Z n0 m0 hx hb hz he p
  obtain ⟨hd, hb⟩ := bx hb
  have hb : bBdy T (gEx T k) (bEx T k) d g v x := hb
  have hx : gBdy T (gEx T k) v x = some x' := hx
  have ne : xe x = false := he.elim id fun q => absurd q (show ¬ 10 ≤ (7 : Nat) by decide)
  obtain ⟨r, nX, pV, pG, pn, pm⟩ := id p
  have sr := p.sr
  have hs := p.sN
  have rt : rtabs h = T := p.rt.trans hT
  obtain ⟨i, e1, e2, e3⟩ : isK T nn kCmd v := hz.1
  have i3 : i < 3000 := Nat.lt_of_lt_of_le e2 wt.1
  have vin : vp_in v 3000 := by rw [e1]; exact vp_in_nI i3 (by omega)
  have hcm : ∃ i, v = nI i ∧ i < 3000 := ⟨i, e1, i3⟩
  obtain ⟨-, -, -, -, w4, w5, w6, w7, w8, w9, w10⟩ := wt.2 i v e1 e2
  obtain ⟨b4, b5, b6, b7, b10⟩ := hb
  obtain ⟨k1, k2, k3, k4, k5, k6, k7⟩ : okW (xw x) 1 0 := hz.2.2 nX
  have eK : hpI h 323 v.toNatClampNeg = tK T v := by rw [← rt]; rfl
  have eA : ∀ h1, rtabs h1 = rtabs h0 → hpI h1 324 v.toNatClampNeg = tA T v := fun h1 e => by rw [← hT, ← e]; rfl
  have eB : ∀ h1, rtabs h1 = rtabs h0 → hpI h1 325 v.toNatClampNeg = tB T v := fun h1 e => by rw [← hT, ← e]; rfl
  have eC : ∀ h1, rtabs h1 = rtabs h0 → hpI h1 326 v.toNatClampNeg = tC T v := fun h1 e => by rw [← hT, ← e]; rfl
  refine b_X12_runsBody 320 _ _ ⟨sr_k sr, 323, sr_r33 sr, sr_k323 sr, by rw [sr_z323 sr]; exact vin, ?_⟩
  rw [eK]
  unfold gBdy at hx
  rcases e3 with e | e | e | e | e | e | e
  · rw [e] at hx
    rw [if_pos rfl] at hx
    obtain ⟨g1, hb1, hb2⟩ := b4 e
    rw [e]
    refine ⟨fun c => absurd c (by decide), fun _ => ?_, fun c => absurd c (by decide), fun c => absurd c (by decide), fun c => absurd c (by decide), fun c => absurd c (by decide), fun c => absurd c (by decide)⟩
    exact b_X12_runsBody_44 320 _ _ ⟨by omega, sr_k sr, mx_uV (ct_rnd ih wt hT (by omega) hcm (w4 e).is hx hz g1 hb1 hb2 p) fun h1 ps => Or.inl ⟨rfl, ps⟩⟩
  · rw [e] at hx
    rw [if_neg (by decide), if_pos rfl] at hx
    rw [e]
    refine ⟨fun c => absurd c (by decide), fun c => absurd c (by decide), fun _ => ?_, fun c => absurd c (by decide), fun c => absurd c (by decide), fun c => absurd c (by decide), fun c => absurd c (by decide)⟩
    refine b_X12_runsBody_53 320 _ _ ⟨sr_k sr, 324, sr_r34 sr, sr_k324 sr, by rw [sr_z324 sr]; exact vin, by omega, ?_⟩
    rw [eA h p.rt]
    exact mx_uV (ih.scr _ (d - 1) g h x x' s js G V P Z n0 m0 hx (b5 e) (hz.to (c2 := cScr _) (show (7 : Nat) ≠ 6 by decide) (Or.inr (w5 e).is) (show (0 : Nat) ≠ 7 by decide)) (Or.inl ne) p) fun h1 ps => Or.inl ⟨rfl, ps⟩
  · rw [e] at hx
    rw [if_neg (by decide), if_neg (by decide), if_pos rfl] at hx
    rw [e]
    refine ⟨fun c => absurd c (by decide), fun c => absurd c (by decide), fun c => absurd c (by decide), fun _ => ?_, fun c => absurd c (by decide), fun c => absurd c (by decide), fun c => absurd c (by decide)⟩
    obtain ⟨hb1, hb2⟩ := b6 e
    obtain ⟨wA, wBB, wC⟩ := w6 e
    unfold gIf at hx
    obtain ⟨x1, hx1, h2⟩ := Option.bind_eq_some_iff.mp hx
    have hz1 := hz.to (c2 := cCh (tA T v)) (show (7 : Nat) ≠ 6 by decide) wA.is (show (2 : Nat) ≠ 7 by decide)
    have p1 := mi_all wt k _ _ _ hx1 hz1
    refine b_X12_runsBody_67 320 _ _ ⟨sr_k sr, 324, sr_r34 sr, sr_k324 sr, by rw [sr_z324 sr]; exact vin, by omega, ?_⟩
    rw [eA h p.rt]
    refine mx_uV (ih.ch _ (d - 1) g h x x1 s js G V P Z n0 m0 hx1 hb1 hz1 (Or.inl ne) p) fun h1 ps => ?_
    rcases ps.go (V' := V) (x := x) (g := g) p1.2.1.2.2.1 pV pG pn pm with ⟨sX, js1, r1⟩ | ⟨js1, q1⟩
    · rw [if_pos (by rw [hlt_eq, sX]; rfl)] at h2
      cases h2
      exact ⟨sr_k r1.sr, mx_xKI2 (k_X12_isHalted_s (by omega) r1 sX) ⟨fun c => absurd c (by decide), fun _ => Or.inl ⟨rfl, Or.inr ⟨sX, js1, r1⟩⟩⟩⟩
    · have s1 := q1.sr
      obtain ⟨r1, nX1, -⟩ := id q1
      refine ⟨sr_k s1, mx_xKI2 (k_X12_isHalted (by omega) r1) ?_⟩
      by_cases ch1 : hlt x1 = true
      · rw [if_pos ch1] at h2
        have ch1' : (wX (xw x1) || x1.2.2.1) = true := ch1
        rw [if_pos ch1']
        cases h2
        exact ⟨fun c => absurd c (by decide), fun _ => Or.inl ⟨rfl, q1.pst⟩⟩
      · rw [if_neg ch1] at h2
        have ch1' : ¬ (wX (xw x1) || x1.2.2.1) = true := ch1
        have ch1f : hlt x1 = false := by cases e : hlt x1 with
          | false => rfl
          | true => exact absurd e ch1
        have ne1 : xe x1 = false := by
          cases e : xe x1 with
          | false => rfl
          | true => exact absurd (by rw [hlt_eq]; show (wX (xw x1) || xe x1) = true; rw [e, Bool.or_true]) ch1
        rw [if_neg ch1']
        have hb3 := hb2 x1 hx1 ch1f
        refine ⟨fun _ => ⟨sr_k s1, mx_xKI2 (k_X12_statusOf (by omega) r1) ⟨fun c => ⟨sr_k s1, 326, sr_r36 s1, sr_k326 s1, by rw [sr_z326 s1]; exact vin, ?_⟩, fun c => ⟨sr_k s1, 325, sr_r35 s1, sr_k325 s1, by rw [sr_z325 s1]; exact vin, ?_⟩⟩⟩, fun c => absurd rfl c⟩
        · have c' : ¬ fS (xf x1) = 0 := c
          rw [if_neg c'] at h2 hb3
          rw [eC h1 q1.rt]
          exact mx_uV (ih.scr _ (d - 1) g h1 x1 x' s js1 G V P Z n0 m0 h2 hb3 (p1.hz (c2 := cScr (tC T v)) wC.is (show (0 : Nat) ≠ 7 by decide) (show (0 : Nat) ≠ 6 by decide)) (Or.inl ne1) q1) fun h1 ps => Or.inl ⟨rfl, ps⟩
        · have c' : fS (xf x1) = 0 := c
          rw [if_pos c'] at h2 hb3
          rw [eB h1 q1.rt]
          exact mx_uV (ih.scr _ (d - 1) g h1 x1 x' s js1 G V P Z n0 m0 h2 hb3 (p1.hz (c2 := cScr (tB T v)) (Or.inr wBB.is) (show (0 : Nat) ≠ 7 by decide) (show (0 : Nat) ≠ 6 by decide)) (Or.inl ne1) q1) fun h1 ps => Or.inl ⟨rfl, ps⟩
  · rw [e] at hx
    rw [if_neg (by decide), if_neg (by decide), if_neg (by decide), if_pos rfl] at hx
    rw [e]
    refine ⟨fun c => absurd c (by decide), fun c => absurd c (by decide), fun c => absurd c (by decide), fun c => absurd c (by decide), fun _ => ?_, fun c => absurd c (by decide), fun c => absurd c (by decide)⟩
    obtain ⟨hb1, hb2⟩ := b7 e
    obtain ⟨wA, wBB⟩ := w7 e
    obtain ⟨x1, hx1, h2⟩ := Option.bind_eq_some_iff.mp hx
    have hz1 := hz.to (c2 := cCh (tA T v)) (show (7 : Nat) ≠ 6 by decide) wA.is (show (2 : Nat) ≠ 7 by decide)
    have p1 := mi_all wt k _ _ _ hx1 hz1
    refine b_X12_runsBody_118 320 _ _ ⟨by omega, sr_k sr, mx_uV (P := Pst h0 x' s G V P Z n0 m0) ?_ fun h1 ps => Or.inl ⟨rfl, ps⟩⟩
    refine b_X12_runsWhile 320 _ _ ⟨sr_k sr, 324, sr_r34 sr, sr_k324 sr, by rw [sr_z324 sr]; exact vin, by omega, ?_⟩
    rw [eA h p.rt]
    refine mx_uV (ih.ch _ (d - 1 - 1) g h x x1 s js G V P Z n0 m0 hx1 hb1 hz1 (Or.inl ne) p) fun h1 ps => ?_
    rcases ps.go (V' := V) (x := x) (g := g) p1.2.1.2.2.1 pV pG pn pm with ⟨sX, js1, r1⟩ | ⟨js1, q1⟩
    · exact whl_s (by omega) sX r1 h2
    · exact ih.whl v 0 (d - 1) g h1 x1 x' s js1 G V P Z n0 m0 h2 (hb2 x1 hx1) (p1.hz (c2 := cWhl v 0) ⟨⟨i, e1, e2, e⟩, st0⟩ (show (8 : Nat) ≠ 7 by decide) (show (8 : Nat) ≠ 6 by decide)) q1
  · rw [e] at hx
    rw [if_neg (by decide), if_neg (by decide), if_neg (by decide), if_neg (by decide), if_pos rfl] at hx
    cases hx
    rw [e]
    refine ⟨fun c => absurd c (by decide), fun c => absurd c (by decide), fun c => absurd c (by decide), fun c => absurd c (by decide), fun c => absurd c (by decide), fun _ => ?_, fun c => absurd c (by decide)⟩
    refine b_X12_runsBody_127 320 _ _ ⟨by omega, sr_k sr, mx_uI (k_X12_defines (by omega) r hcm) ?_⟩
    rw [rt]
    unfold gDef
    rintro b h1 (⟨rfl, q1, q2, q3⟩ | ⟨rfl, q1, q3⟩)
    · have s1 := q3.sr
      rw [show tbF (fU (xf x)) (tM T v) = none from q1]
      refine ⟨fun _ => ⟨sr_k s1, mx_xKV (k_X12_sets (j := 33) s1 (by omega)) (Or.inl ⟨rfl, ?_⟩)⟩, fun c => absurd rfl c⟩
      show Pst h0 (if 10 ≤ (fU (xf x)).length then zSt x 1 else _) s G V P Z n0 m0 _
      rw [if_pos q2]
      exact Or.inl ⟨nX, js, q3.st⟩
    · have s1 := q3.sr
      refine ⟨fun c => absurd c (by decide), fun _ => ⟨sr_k s1, mx_xKV (k_X12_sets (j := 33) s1 (by omega)) (Or.inl ⟨rfl, ?_⟩)⟩⟩
      have fin : Pst h0 (zf x (vS (vU (xf x) (tbP (fU (xf x)) (tM T v) (tA T v))) 0)) s G V P Z n0 m0 (hsI h1 354 (83 * s + 33) 0) := Or.inl ⟨nX, js, q3.st⟩
      split
      · exact fin
      · rename_i et
        rw [if_neg (Nat.not_le.mpr (q1 et))]
        exact fin
  · rw [e] at hx
    rw [if_neg (by decide), if_neg (by decide), if_neg (by decide), if_neg (by decide), if_neg (by decide), if_pos rfl] at hx
    cases hx
    rw [e]
    refine ⟨fun c => absurd c (by decide), fun c => absurd c (by decide), fun c => absurd c (by decide), fun c => absurd c (by decide), fun c => absurd c (by decide), fun c => absurd c (by decide), fun _ => ?_⟩
    obtain ⟨wA, wl⟩ := w9 e
    have hst : ∃ k, k < 1000 ∧ fS x.2.1 = nI k := by
      obtain ⟨k, a, b⟩ := hz.2.1.1.1
      exact ⟨k, by omega, b⟩
    have ka := k_X12_assignsArgument (d := d - 1) (by omega) r (by omega) hst hcm (by rw [rt]; exact wA.1) (by rw [rt]; exact wA.2.1) (by rw [rt]; exact wl)
    rw [rt] at ka
    refine b_X12_runsBody_151 320 _ _ ⟨by omega, sr_k sr, mx_uV ka fun h1 r1 => Or.inl ⟨rfl, ?_⟩⟩
    have xfe : xf x = x.2.1 := rfl
    have xwe : xw x = x.1 := rfl
    rw [xfe]
    have fa : opAsgn (tM T v) (((argsOf T v).map (evA x.2.1)).getD 0 []) (xw x) x.2.1 = ((opAsgn (tM T v) (((argsOf T v).map (evA x.2.1)).getD 0 []) (xw x) x.2.1).1, uM (xw x) (wM (xw x) + 1), (opAsgn (tM T v) (((argsOf T v).map (evA x.2.1)).getD 0 []) (xw x) x.2.1).2.2) ∧ (opAsgn (tM T v) (((argsOf T v).map (evA x.2.1)).getD 0 []) (xw x) x.2.1).1 ≠ -2 := by
      unfold opAsgn
      split
      · exact ⟨rfl, show (1 : Int32) ≠ -2 by decide⟩
      · exact ⟨rfl, show (0 : Int32) ≠ -2 by decide⟩
    generalize opAsgn (tM T v) (((argsOf T v).map (evA x.2.1)).getD 0 []) (xw x) x.2.1 = q at r1 fa ⊢
    obtain ⟨f1, f2⟩ := fa
    unfold zRes
    rw [if_neg f2]
    have eq2 : q.2.1 = uM (xw x) (wM (xw x) + 1) := by rw [f1]
    rw [eq2] at r1 ⊢
    exact Or.inl ⟨nX, js, r1⟩
  · rw [e] at hx
    rw [if_neg (by decide), if_neg (by decide), if_neg (by decide), if_neg (by decide), if_neg (by decide), if_neg (by decide)] at hx
    rw [e]
    refine ⟨fun _ => ?_, fun c => absurd c (by decide), fun c => absurd c (by decide), fun c => absurd c (by decide), fun c => absurd c (by decide), fun c => absurd c (by decide), fun c => absurd c (by decide)⟩
    exact b_X12_runsBody_160 320 _ _ ⟨by omega, sr_k sr, mx_uV (ct_pln ih wt hT (by omega) hcm (w10 e) hx hz ne (b10 e) p) fun h1 ps => Or.inl ⟨rfl, ps⟩⟩
theorem ct_0 : Ctr h0 T nn 0 := by
  have A : ∀ b Y As c, SMc h0 T nn 0 b Y As c := by intro b Y As c d g h x x' s js G V P Z n0 m0 e; cases e
  have B : ∀ Y pc L c, SXc h0 T nn 0 Y pc L c := by intro Y pc L c d g h x x' s js G V P Z n0 m0 e; cases e
  have C : SVc h0 T nn 0 := by intro d g h x x' s js G V W P Z Z' n0 m0 cm l r p x6 u e; cases e
  exact ⟨fun _ => A _ _ _ _, fun _ => B _ _ _ _, fun _ => A _ _ _ _, fun _ => B _ _ _ _, fun _ => A _ _ _ _, fun _ => A _ _ _ _, C, fun _ => A _ _ _ _, fun _ => A _ _ _ _, fun _ => A _ _ _ _, A _ _ _ _, fun _ _ => B _ _ _ _, fun _ _ => B _ _ _ _, fun _ _ _ => A _ _ _ _⟩
/-- THE REFERENCE DOES WHAT THE MIDDLE SAYS -/
theorem ct_all (wt : WT T nn) (hT : rtabs h0 = T) : ∀ k, Ctr h0 T nn k
  | 0 => ct_0
  | k + 1 => ⟨ct_scr (ct_all wt hT k) wt hT, ct_chs (ct_all wt hT k) wt hT, ct_ch (ct_all wt hT k) wt hT, ct_pps (ct_all wt hT k) wt hT, ct_pp (ct_all wt hT k) wt hT, ct_sev (ct_all wt hT k) wt hT, ct_svl (ct_all wt hT k) wt hT, ct_cmd (ct_all wt hT k) wt hT, ct_bdy (ct_all wt hT k) wt hT, ct_cal (ct_all wt hT k) wt hT, ct_fin (ct_all wt hT k) wt hT, ct_jbs (ct_all wt hT k) wt hT, ct_whl (ct_all wt hT k) wt hT, ct_job (ct_all wt hT k) wt hT⟩
end MXR9
