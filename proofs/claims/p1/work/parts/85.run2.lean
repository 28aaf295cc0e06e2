/-! THE REFERENCE'S RUN: a command -/
section MXR2
variable {d g : Nat} {h0 h h1 : mxH} {T : spT} {nn k s : Nat} {x x1 x' y : spX} {w : spW} {S : spS} {js : List Nat} {G : List spE} {V W : List (Option (Option Nat))} {P : List spX} {N : spN} {Z : List (Int32 × Nat)} {n m xs n0 m0 : Nat} {Q : mxRes → mxH → Prop} {v : Int32}
/-- the handles as another function -/
theorem RG.hfun (r : RG h0 h w ((s, S, js) :: G) V P N n m xs) {hs : spH} (e : ∀ k, k < 10 → hs k = fH S.1 k) : RG h0 h w ((s, (vH S.1 hs, S.2), js) :: G) V P N n m xs := by
  obtain ⟨A, B, Qs, fr, sr, hw, ht, ho, hp, he, hv, hk, hc, hd, hz, hN⟩ := r
  refine ⟨A, B, Qs, fr, sr, hw, ht, ho, hp, ⟨fun e' he' => ?_, he.2⟩, hv, hk, hc, hd, hz, hN⟩
  rcases List.mem_cons.mp he' with rfl | hm
  · obtain ⟨a1, a2, a3, a4, a5⟩ := he.1 _ List.mem_cons_self
    refine ⟨a1, a2, a3, fun k hk => ?_, a5⟩
    show RHv A _ (hs k)
    rw [e k hk]; exact a4 k hk
  · exact he.1 _ (List.mem_cons_of_mem _ hm)
theorem RGs.hfun (r : RGs h0 h w ((s, S, js) :: G) V P) {hs : spH} : RGs h0 h w ((s, (vH S.1 hs, S.2), js) :: G) V P := by
  obtain ⟨A, Qs, fr, sr, hw, ht, ho, hp, ⟨he, nd⟩, hv, hk, hz⟩ := r
  refine ⟨A, Qs, fr, sr, hw, ht, ho, hp, ⟨fun e' he' => ?_, nd⟩, hv, hk, hz⟩
  rcases List.mem_cons.mp he' with rfl | hm
  · obtain ⟨a1, a3, a5⟩ := he _ List.mem_cons_self
    exact ⟨a1, a3, a5⟩
  · exact he _ (List.mem_cons_of_mem _ hm)
def KH (f : spF) (i : Nat) : List (Option (Option Nat)) := (List.range i).map fun k => some (fH f k)
theorem KH_len {f : spF} {i : Nat} : (KH f i).length = i := by unfold KH; rw [List.length_map, List.length_range]
theorem KH_succ {f : spF} {i : Nat} : KH f (i + 1) = KH f i ++ [some (fH f i)] := by unfold KH; rw [List.range_succ, List.map_append]; rfl
theorem cm_38 (hd : 1 ≤ d) (hcm : ∃ i, v = nI i ∧ i < 3000) (hT : rtabs h0 = T) (hr : tR T v ≠ -1) (hxs : s ≠ xs) (hV : V.length + 10 ≤ 8000) : ∀ j i h, i + j = 10 → RG h0 h w ((s, S, js) :: G) (V ++ KH S.1 i) P N n m xs →
    (∀ h, RG h0 h w ((s, S, js) :: G) (V ++ KH S.1 10) P N n m xs → mx_SX mY_X12_runsCommand d 87 [(0, .ref 320), (1, .int (nI s)), (2, .int v), (3, .int (nI V.length))] [] h Q) →
    mx_SX mY_X12_runsCommand d 38 [(0, .ref 320), (1, .int (nI s)), (2, .int v), (3, .int (nI V.length)), (4, .int (nI i))] [] h Q := by
  obtain ⟨iv, ev, hiv⟩ := hcm
  have vin : vp_in v 3000 := by rw [ev]; exact vp_in_nI hiv (by omega)
  intro j
  induction j with
  | zero =>
    intro i h hi r K
    have e : i = 10 := by omega
    subst e
    exact b_X12_runsCommand_38 320 _ _ _ _ ⟨fun _ => K h r, fun c => absurd (nI_le (a := 10) (b := 10) (by omega) (by omega)) c⟩
  | succ j ih =>
    intro i h hi r K
    have sr := r.sr
    have hs := r.own.1
    have e69 : hpI h 320 69 = nI (V ++ KH S.1 i).length := by
      obtain ⟨A, B, Qs, -, -, -, -, -, -, -, hv, -⟩ := r
      exact hv.1
    have lV : (V ++ KH S.1 i).length = V.length + i := by rw [List.length_append, KH_len]
    refine b_X12_runsCommand_38 320 _ _ _ _ ⟨fun c => absurd c (nI_ge (b := 10) (by omega) (by omega)), fun _ => ⟨sr_k sr, 327, sr_r37 sr, sr_k327 sr, by rw [sr_z327 sr]; exact vin, ?_⟩⟩
    rw [show hpI h 327 v.toNatClampNeg = tR T v by rw [← hT, ← r.rt]; rfl]
    refine ⟨fun c => absurd c hr, fun _ => ⟨352, sr_r68 sr, hd, mx_xKI2 (k_X12_handle sr hs (by omega)) ⟨sr_k352 sr, ?_⟩⟩⟩
    rw [e69, nI_clamp (by omega)]
    refine ⟨by rw [sr_z352 sr]; exact vp_in_nI (by omega) (by omega), ?_⟩
    rintro _ rfl
    refine ⟨sr_k sr, ?_⟩
    rw [hpI_sIo (by decide), e69, nI_1, nI_1]
    rintro _ rfl
    refine ih (i + 1) _ (by omega) ?_ K
    rw [KH_succ, ← List.append_assoc]
    refine r.vpush (x := fH S.1 i) (fun A he _ => ?_) fun L hL _ => ?_
    · have := (he.1 _ List.mem_cons_self).2.2.2.1 i (by omega)
      rw [show hpI h 354 (83 * s + 36 + i) = shR (hpI h 354) s (36 + i) by show _ = hpI h 354 (83 * s + (36 + i)); rw [Nat.add_assoc]]
      exact this
    · have lv : hpI h 354 (83 * s + 82) = 1 := by
        obtain ⟨A, B, Qs, -, -, -, -, -, -, he, -⟩ := r
        exact (he.1 _ List.mem_cons_self).2.1
      exact hL s hs hxs lv i (by omega)
/-- a command's end, behind its handles -/
def cmdE (T : spT) (cm : Int32) (x : spX) : spX := if hlt x = false ∧ isRec (tK T cm) = true then zwf x (uT (xw x) (rec60 (wT (xw x)) (tO T cm, fS (xf x), fD (xf x)))) (xf x) else x
theorem cmdEnd_eq {cm : Int32} {hs : spH} {b : Bool} : cmdEnd T cm hs b x = cmdE T cm (if b = true then zf x (vH (xf x) hs) else x) := by
  unfold cmdEnd cmdE
  cases b <;> rfl
theorem cm_214 (hd : 4 ≤ d) (hcm : ∃ i, v = nI i ∧ i < 3000) (hT : rtabs h0 = T) (hV : V.length ≤ 8000) (p : Pst h0 y s G (V ++ W) P Z n0 m0 h) :
    mx_SX mY_X12_runsCommand d 214 [(0, .ref 320), (1, .int (nI s)), (2, .int v), (3, .int (nI V.length))] [] h (mx_KV (Pst h0 (cmdE T v y) s G V P Z n0 m0) fun _ _ => False) := by
  obtain ⟨iv, ev, hiv⟩ := hcm
  have vin : vp_in v 3000 := by rw [ev]; exact vp_in_nI hiv (by omega)
  unfold cmdE
  rcases p with ⟨a, js, r⟩ | ⟨a, js, r⟩
  · have r1 := r.vdrop
    have s1 := r1.sr
    have hs := r1.own.1
    refine b_X12_runsCommand_214 320 _ _ _ ⟨sr_k r.sr, ?_⟩
    rintro _ rfl
    refine ⟨by omega, mx_xKI2 (k_X12_isHalted (by omega) r1) ?_⟩
    by_cases ch : hlt y = true
    · have ch' : (wX (xw y) || y.2.2.1) = true := ch
      rw [if_pos ch', if_neg (fun q => by rw [q.1] at ch; cases ch)]
      exact ⟨fun _ => Or.inl ⟨rfl, Or.inl ⟨a, js, r1⟩⟩, fun c => absurd c (by decide)⟩
    · have ch' : ¬ (wX (xw y) || y.2.2.1) = true := ch
      have chf : hlt y = false := by cases e : hlt y with
        | false => rfl
        | true => exact absurd e ch
      rw [if_neg ch']
      have rcd : isRec (tK T v) = true → mx_SX mY_X12_runsCommand d 249 [(0, .ref 320), (1, .int (nI s)), (2, .int v)] [] (hsI h 320 69 (nI V.length)) (mx_KV (Pst h0 (if hlt y = false ∧ isRec (tK T v) = true then zwf y (uT (xw y) (rec60 (wT (xw y)) (tO T v, fS (xf y), fD (xf y)))) (xf y) else y) s G V P Z n0 m0) fun _ _ => False) := fun e => by
        rw [if_pos ⟨chf, e⟩]
        refine b_X12_runsCommand_249 320 _ _ ⟨by omega, sr_k s1, mx_uV (k_X12_records (by omega) r1 ⟨iv, ev, hiv⟩) fun h2 r2 => Or.inl ⟨rfl, Or.inl ⟨a, js, ?_⟩⟩⟩
        rw [r1.rt, hT] at r2
        exact r2
      refine ⟨fun c => absurd rfl c, fun _ => ⟨sr_k s1, 323, sr_r33 s1, sr_k323 s1, by rw [sr_z323 s1]; exact vin, ?_⟩⟩
      rw [show hpI (hsI h 320 69 (nI V.length)) 323 v.toNatClampNeg = tK T v by rw [← hT, ← r1.rt]; rfl]
      refine ⟨fun c => rcd (by rw [c]; rfl), fun c => ⟨fun c2 => ?_, fun c2 => rcd (by rw [c2]; rfl)⟩⟩
      have nr : ¬ (hlt y = false ∧ isRec (tK T v) = true) := fun q => by
        have e := q.2
        unfold isRec at e
        rw [decide_eq_false c, decide_eq_false c2] at e
        cases e
      rw [if_neg nr]
      exact Or.inl ⟨rfl, Or.inl ⟨a, js, r1⟩⟩
  · have r1 := r.vdrop
    refine b_X12_runsCommand_214 320 _ _ _ ⟨sr_k r.sr, ?_⟩
    rintro _ rfl
    rw [if_neg (fun q => by rw [hlt_eq, a] at q; cases q.1)]
    exact ⟨by omega, mx_xKI2 (k_X12_isHalted_s (by omega) r1 a) ⟨fun _ => Or.inl ⟨rfl, Or.inr ⟨a, js, r1⟩⟩, fun c => absurd c (by decide)⟩⟩
/-- the handles are set back -/
def hBk (hs cur : spH) (i : Nat) : spH := fun k => if k < i then hs k else cur k
theorem cm_182 (hd : 4 ≤ d) (hcm : ∃ i, v = nI i ∧ i < 3000) (hT : rtabs h0 = T) (hV : V.length + 10 ≤ 8000) {f : spF} : ∀ j i h, i + j = 10 → Pst h0 (zf y (vH (xf y) (hBk (fH f) (fH (xf y)) i))) s G (V ++ KH f 10) P Z n0 m0 h →
    mx_SX mY_X12_runsCommand d 182 [(0, .ref 320), (1, .int (nI s)), (2, .int v), (3, .int (nI V.length)), (6, .int (nI i))] [] h (mx_KV (Pst h0 (cmdE T v (zf y (vH (xf y) (fH f)))) s G V P Z n0 m0) fun _ _ => False) := by
  intro j
  induction j with
  | zero =>
    intro i h hi p
    have e : i = 10 := by omega
    subst e
    refine b_X12_runsCommand_182 320 _ _ _ _ ⟨fun _ => ?_, fun c => absurd (nI_le (a := 10) (b := 10) (by omega) (by omega)) c⟩
    refine cm_214 hd hcm hT (by omega) (W := KH f 10) ?_
    rcases p with ⟨a, js, r⟩ | ⟨a, js, r⟩
    · refine Or.inl ⟨a, js, ?_⟩
      exact RG.hfun (S := (zf y (vH (xf y) (hBk (fH f) (fH (xf y)) 10))).2) r (hs := fH f) fun k hk => by
        show fH f k = hBk (fH f) (fH (xf y)) 10 k
        unfold hBk
        rw [if_pos hk]
    · exact Or.inr ⟨a, js, RGs.hfun (S := (zf y (vH (xf y) (hBk (fH f) (fH (xf y)) 10))).2) r⟩
  | succ j ih =>
    intro i h hi p
    have e36 : (36 : Int32) + nI i = nI (36 + i) := nI_add 36 i
    have eVi : nI V.length + nI i = nI (V.length + i) := nI_add _ _
    have iV : V.length + i < (V ++ KH f 10).length := by rw [List.length_append, KH_len]; omega
    have eV : (V ++ KH f 10)[V.length + i]'iV = some (fH f i) := by
      rw [List.getElem_append_right (by omega)]
      unfold KH
      simp
    rcases p with ⟨a, js, r⟩ | ⟨a, js, r⟩
    · have sr := r.sr
      have hs := r.own.1
      refine b_X12_runsCommand_182 320 _ _ _ _ ⟨fun c => absurd c (nI_ge (b := 10) (by omega) (by omega)), fun _ => ⟨sr_k sr, 352, sr_r68 sr, sr_k352 sr, ?_⟩⟩
      rw [e36, eVi, nI_clamp (n := V.length + i) (by omega), nI_1]
      refine ⟨by rw [sr_z352 sr]; exact vp_in_nI (by omega) (by omega), by omega, mx_xKV (k_X12_sets sr (by omega)) ?_⟩
      refine ih (i + 1) _ (by omega) (Or.inl ⟨a, js, ?_⟩)
      have r2 := r.hput2 (k := i) (by omega) (v := hpI h 352 (V.length + i)) (x := fH f i) (fun A _ hv _ => by
        have := hv.2 (V.length + i) iV
        rw [eV] at this
        exact this) (fun L hL _ => hL _ iV)
      refine RG.hfun (S := (vH (xf (zf y (vH (xf y) (hBk (fH f) (fH (xf y)) i)))) (fup (hBk (fH f) (fH (xf y)) i) i (fH f i)), y.2.2)) r2 (hs := hBk (fH f) (fH (xf y)) (i + 1)) fun k hk => ?_
      show hBk (fH f) (fH (xf y)) (i + 1) k = fup (hBk (fH f) (fH (xf y)) i) i (fH f i) k
      by_cases c : k = i
      · subst c; rw [fup_e]; unfold hBk; rw [if_pos (by omega)]
      · rw [fup_n c]
        unfold hBk
        by_cases c2 : k < i
        · rw [if_pos c2, if_pos (by omega)]
        · rw [if_neg c2, if_neg (by omega)]
    · have sr := r.sr
      have hs := r.own.1
      refine b_X12_runsCommand_182 320 _ _ _ _ ⟨fun c => absurd c (nI_ge (b := 10) (by omega) (by omega)), fun _ => ⟨sr_k sr, 352, sr_r68 sr, sr_k352 sr, ?_⟩⟩
      rw [e36, eVi, nI_clamp (n := V.length + i) (by omega), nI_1]
      refine ⟨by rw [sr_z352 sr]; exact vp_in_nI (by omega) (by omega), by omega, mx_xKV (k_X12_sets sr (by omega)) ?_⟩
      refine ih (i + 1) _ (by omega) (Or.inr ⟨a, js, ?_⟩)
      exact RGs.hfun (S := (zf y (vH (xf y) (hBk (fH f) (fH (xf y)) i))).2) (r.set0 (j := 36 + i) (by omega) (by omega))
theorem cmd_hz (hz : Hz T nn (cCmd v) x) (cB : ¬ wB (xw x) = 300) : Hz T nn (cBdy v) (zwf x (redOps (redsOf T v) (uB (xw x) (wB (xw x) + 1)) (xf x)).2.1 (redOps (redsOf T v) (uB (xw x) (wB (xw x) + 1)) (xf x)).2.2) ∧
    wX (redOps (redsOf T v) (uB (xw x) (wB (xw x) + 1)) (xf x)).2.1 = wX (xw x) ∧ wB (redOps (redsOf T v) (uB (xw x) (wB (xw x) + 1)) (xf x)).2.1 = wB (xw x) + 1 ∧ wM (redOps (redsOf T v) (uB (xw x) (wB (xw x) + 1)) (xf x)).2.1 = wM (xw x) := by
  obtain ⟨a1, a2, a3, a4⟩ := Wr.reds (T := T) (n := nn) (redsOf T v) (uB (xw x) (wB (xw x) + 1)) (xf x)
  have xX : wX (redOps (redsOf T v) (uB (xw x) (wB (xw x) + 1)) (xf x)).2.1 = wX (xw x) := a1.2.2.1
  refine ⟨⟨hz.1, ⟨a3 hz.2.1.1, hz.2.1.2⟩, fun e => ?_⟩, xX, a1.1, a1.2.1⟩
  have e' : wX (xw x) = false := by rw [← xX]; exact e
  obtain ⟨k1, k2, k3, k4, k5, k6, k7⟩ : okW (xw x) 0 1 := hz.2.2 e'
  refine a1.ok (a := 1) (b := 0) ⟨by show wB (xw x) + 1 ≤ 300; omega, by show wM (xw x) + 1 ≤ wB (xw x) + 1; omega, by show totU (xw x) + 40 * 1 ≤ 40 * (wB (xw x) + 1); omega, by show (wU (xw x)).length ≤ wB (xw x) + 1 + 0; omega, k5, k6, k7⟩ ?_
  rw [a2]; show totU (xw x) + 40 * 1 ≤ 40 * (wB (xw x) + 1); omega
theorem ct_cmd (ih : Ctr h0 T nn k) (wt : WT T nn) (hT : rtabs h0 = T) (v : Int32) : SMc h0 T nn (k + 1) 1 mY_X12_runsCommand [.int v] (cCmd v) := by
  intro d g h x x' s js G V P Z n0 m0 hx hb hz he p
  obtain ⟨hd, hb⟩ := bx hb
  have hb : bCmd T (bEx T k) d g v x := hb
  have hx : gCmd T (gEx T k) v x = some x' := hx
  have sr := p.sr
  have rt : rtabs h = T := p.rt.trans hT
  have ne : xe x = false := he.elim id fun q => absurd q (show ¬ 10 ≤ (6 : Nat) by decide)
  obtain ⟨r, nX, pV, pG, pn, pm⟩ := id p
  have hs := r.own.1
  obtain ⟨i, e1, e2, e3⟩ : isK T nn kCmd v := hz.1
  have i3 : i < 3000 := Nat.lt_of_lt_of_le e2 wt.1
  have vin : vp_in v 3000 := by rw [e1]; exact vp_in_nI i3 (by omega)
  have hcm : ∃ i, v = nI i ∧ i < 3000 := ⟨i, e1, i3⟩
  obtain ⟨-, hc, hok⟩ := (wt.2 i v e1 e2).2.2.2.1 e3
  obtain ⟨t1, t2, t3, t4, t5, t6, t7⟩ := id r.told
  unfold gCmd at hx
  refine b_X12_runsCommand 320 _ _ ⟨sr_k sr, 356, sr_r73 sr, sr_k356 sr, by rw [sr_z356 sr]; exact vp_in_nI (n := 0) (by omega) (by omega), ?_⟩
  rw [cl0, t1]
  refine ⟨fun cB => ?_, fun cB => ?_⟩
  · have cB' : ¬ wB (xw x) = 300 := fun e => cB (by rw [e]; rfl)
    rw [if_neg cB'] at hx
    obtain ⟨x1, hx1, h2⟩ := Option.bind_eq_some_iff.mp hx
    cases h2
    obtain ⟨hzb, xX, xB, xM⟩ := cmd_hz hz cB'
    rintro _ rfl
    rw [nI_1]
    have r1 : RG h0 (hsI h 356 0 (nI (wB (xw x) + 1))) (uB (xw x) (wB (xw x) + 1)) ((s, x.2, js) :: (jG x.2 js ++ G)) V P ([], [], Z) (n0 + wM (xw x)) (m0 + 12 * wB (xw x) + 2 * 1) 1000 := by
      refine r.tell (b := wB (xw x) + 1) (k := wK (xw x)) (mm := wM (xw x)) (x := wX (xw x)) (t := wT (xw x)) (f := fup (hpI h 356) 0 (nI (wB (xw x) + 1))) ⟨fup_e, Nat.lt_of_le_of_ne t2 cB', by rw [fup_n (by omega)]; exact t3, by rw [fup_n (by omega)]; exact t4, by rw [fup_n (by omega)]; exact t5, t6, fun k hk => by rw [fup_n (by omega), fup_n (by omega), fup_n (by omega)]; exact t7 k hk⟩
    have e69 : hpI (hsI h 356 0 (nI (wB (xw x) + 1))) 320 69 = nI V.length := by
      obtain ⟨A, B, Qs, -, -, -, -, -, -, -, hv, -⟩ := r1
      exact hv.1
    rw [e69]
    -- behind the handles
    have at87 : ∀ (W : List (Option (Option Nat))) h1, (tR T v ≠ -1 → W = KH (xf x) 10) → W.length ≤ 10 → RG h0 h1 (uB (xw x) (wB (xw x) + 1)) ((s, x.2, js) :: (jG x.2 js ++ G)) (V ++ W) P ([], [], Z) (n0 + wM (xw x)) (m0 + 12 * wB (xw x) + 2 * 1) 1000 →
        mx_SX mY_X12_runsCommand d 87 [(0, .ref 320), (1, .int (nI s)), (2, .int v), (3, .int (nI V.length))] [] h1 (mx_KV (Pst h0 (cmdEnd T v (fH (xf x)) (decide (tR T v ≠ -1) && !((redOps (redsOf T v) (uB (xw x) (wB (xw x) + 1)) (xf x)).1 && stays T v)) x1) s G V P Z n0 m0) fun _ _ => False) := by
      intro W h1 hW hW2 r1
      have s1 := r1.sr
      have lVW : (V ++ W).length ≤ V.length + 10 := by rw [List.length_append]; omega
      rw [cmdEnd_eq]
      -- the end
      have fin : ∀ h3 (b : Bool), b = (redOps (redsOf T v) (uB (xw x) (wB (xw x) + 1)) (xf x)).1 → Pst h0 x1 s G (V ++ W) P Z n0 m0 h3 →
          mx_SX mY_X12_runsCommand d 117 [(0, .ref 320), (1, .int (nI s)), (2, .int v), (3, .int (nI V.length)), (4, .int (if b = true then 1 else 0))] [] h3 (mx_KV (Pst h0 (cmdE T v (if (decide (tR T v ≠ -1) && !((redOps (redsOf T v) (uB (xw x) (wB (xw x) + 1)) (xf x)).1 && stays T v)) = true then zf x1 (vH (xf x1) (fH (xf x))) else x1)) s G V P Z n0 m0) fun _ _ => False) := by
        intro h3 b eb ps
        rw [← eb]
        have s3 : SR h3 := by rcases ps with ⟨-, js, r⟩ | ⟨-, js, r⟩; exact r.sr; exact r.sr
        have rt3 : rtabs h3 = rtabs h0 := by rcases ps with ⟨-, js, r⟩ | ⟨-, js, r⟩; exact r.rt; exact r.rt
        have eR : hpI h3 327 v.toNatClampNeg = tR T v := by rw [← hT, ← rt3]; rfl
        have at214 : (decide (tR T v ≠ -1) && !(b && stays T v)) = false → mx_SX mY_X12_runsCommand d 214 [(0, .ref 320), (1, .int (nI s)), (2, .int v), (3, .int (nI V.length))] [] h3 (mx_KV (Pst h0 (cmdE T v (if (decide (tR T v ≠ -1) && !(b && stays T v)) = true then zf x1 (vH (xf x1) (fH (xf x))) else x1)) s G V P Z n0 m0) fun _ _ => False) := fun e => by
          rw [e]
          exact cm_214 (by omega) hcm hT (by omega) ps
        have at161 : (b && stays T v) = false → mx_SX mY_X12_runsCommand d 161 [(0, .ref 320), (1, .int (nI s)), (2, .int v), (3, .int (nI V.length))] [] h3 (mx_KV (Pst h0 (cmdE T v (if (decide (tR T v ≠ -1) && !(b && stays T v)) = true then zf x1 (vH (xf x1) (fH (xf x))) else x1)) s G V P Z n0 m0) fun _ _ => False) := fun e => by
          refine b_X12_runsCommand_161 320 _ _ _ ⟨sr_k s3, 327, sr_r37 s3, sr_k327 s3, by rw [sr_z327 s3]; exact vin, ?_⟩
          rw [eR]
          refine ⟨fun c => at214 (by rw [decide_eq_false (fun q => q c)]; rfl), fun c => ⟨fun q => absurd rfl q, fun _ => ?_⟩⟩
          have eb2 : (decide (tR T v ≠ -1) && !(b && stays T v)) = true := by rw [e, decide_eq_true c]; rfl
          rw [eb2, if_pos rfl]
          have hW' := hW c
          subst hW'
          refine cm_182 (by omega) hcm hT (by omega) 10 0 h3 (by omega) ?_
          have e0 : hBk (fH (xf x)) (fH (xf x1)) 0 = fH (xf x1) := by
            funext k
            unfold hBk
            rw [if_neg (by omega)]
          rw [e0]
          exact ps
        refine b_X12_runsCommand_117 320 _ _ _ _ ⟨fun c => at161 ?_, fun c => ?_⟩
        · cases b with
          | false => rfl
          | true => exact absurd c (by decide)
        · have bt : b = true := by
            cases b with
            | true => rfl
            | false => exact absurd rfl c
          rw [bt] at at161 at214 ⊢
          refine ⟨sr_k s3, 323, sr_r33 s3, sr_k323 s3, by rw [sr_z323 s3]; exact vin, ?_⟩
          rw [show hpI h3 323 v.toNatClampNeg = tK T v by rw [← hT, ← rt3]; rfl]
          refine ⟨fun c1 => at161 (by unfold stays; rw [decide_eq_false c1]; rfl), fun c1 => ⟨330, sr_r40 s3, sr_k330 s3, by rw [sr_z330 s3]; exact vin, ?_⟩⟩
          rw [show hpL h3 330 v.toNatClampNeg = tM T v by rw [← hT, ← rt3]; rfl, lg_cmp_eq, sr_l18 s3]
          refine ⟨fun c2 => at161 (by unfold stays; rw [decide_eq_false c2, Bool.and_false]; rfl), fun c2 => ⟨324, sr_r34 s3, sr_k324 s3, by rw [sr_z324 s3]; exact vin, ?_⟩⟩
          rw [show hpI h3 324 v.toNatClampNeg = tA T v by rw [← hT, ← rt3]; rfl]
          refine ⟨fun c4 => at161 (by unfold stays; rw [decide_eq_false c4, Bool.and_false]; rfl), fun c4 => ⟨327, sr_r37 s3, sr_k327 s3, by rw [sr_z327 s3]; exact vin, ?_⟩⟩
          have st : (decide (tR T v ≠ -1) && !(true && stays T v)) = false := by unfold stays; rw [decide_eq_true c1, decide_eq_true c2, decide_eq_true c4]; simp
          exact ⟨fun _ => at214 st, fun _ => ⟨fun _ => at214 st, fun q => absurd q (by decide)⟩⟩
      refine b_X12_runsCommand_87 320 _ _ _ ⟨by omega, sr_k s1, mx_uI (k_X12_redirects (by omega) (by omega) (by omega) (r1.unc (s := s)) hcm (by rw [hT]; exact hc) (by rw [hT]; exact hok)) ?_⟩
      rw [hT]
      rintro b h2 ⟨eb, r2⟩
      have r3 := r2.cnt
      have s3 := r3.sr
      cases cr : (redOps (redsOf T v) (uB (xw x) (wB (xw x) + 1)) (xf x)).1 with
      | false =>
        have cr2 : (redOps (redsOf T v) (uB (xw x) (wB (xw x) + 1)) x.2.1).1 = false := cr
        rw [cr2] at eb
        rw [cr] at hx1
        cases hx1
        rw [eb]
        refine ⟨fun _ => ⟨sr_k s3, mx_xKV (k_X12_sets (j := 33) s3 (by omega)) ?_⟩, fun c => absurd rfl c⟩
        rw [cr] at fin
        refine fin _ false rfl (Or.inl ⟨by show wX (redOps (redsOf T v) (uB (xw x) (wB (xw x) + 1)) (xf x)).2.1 = false; rw [xX]; exact nX, js, ?_⟩)
        have := (r3.st (v := 1)).up (n' := n0 + wM (redOps (redsOf T v) (uB (xw x) (wB (xw x) + 1)) (xf x)).2.1) (m' := m0 + 12 * wB (redOps (redsOf T v) (uB (xw x) (wB (xw x) + 1)) (xf x)).2.1) (by rw [xM]; exact Nat.le_refl _) (by rw [xB]; omega)
        exact this
      | true =>
        have cr2 : (redOps (redsOf T v) (uB (xw x) (wB (xw x) + 1)) x.2.1).1 = true := cr
        rw [cr2] at eb
        rw [cr] at hx1
        have hx1 : gEx T k (cBdy v) (zwf x (redOps (redsOf T v) (uB (xw x) (wB (xw x) + 1)) (xf x)).2.1 (redOps (redsOf T v) (uB (xw x) (wB (xw x) + 1)) (xf x)).2.2) = some x1 := hx1
        rw [eb]
        rw [cr] at fin
        have hb2 : bEx T k (d - 1) g (cBdy v) (zwf x (redOps (redsOf T v) (uB (xw x) (wB (xw x) + 1)) (xf x)).2.1 (redOps (redsOf T v) (uB (xw x) (wB (xw x) + 1)) (xf x)).2.2) := by
          rcases hb with e | hb
          · exact absurd e cB'
          · exact hb cr
        have p2 : Pre 0 h0 h2 (zwf x (redOps (redsOf T v) (uB (xw x) (wB (xw x) + 1)) (xf x)).2.1 (redOps (redsOf T v) (uB (xw x) (wB (xw x) + 1)) (xf x)).2.2) s js G (V ++ W) P Z n0 m0 g := by
          refine ⟨?_, by show wX (redOps (redsOf T v) (uB (xw x) (wB (xw x) + 1)) (xf x)).2.1 = false; rw [xX]; exact nX, ?_, pG, pn, pm⟩
          · exact r3.up (n' := n0 + wM (redOps (redsOf T v) (uB (xw x) (wB (xw x) + 1)) (xf x)).2.1) (m' := m0 + 12 * wB (redOps (redsOf T v) (uB (xw x) (wB (xw x) + 1)) (xf x)).2.1 + 2 * 0) (by rw [xM]; exact Nat.le_refl _) (by rw [xB]; omega)
          · show _ ≤ 10 + 11 * wB (redOps (redsOf T v) (uB (xw x) (wB (xw x) + 1)) (xf x)).2.1 + 0
            rw [xB]; omega
        refine ⟨fun c => absurd c (by decide), fun _ => ⟨sr_k s3, mx_uV (ih.bdy v (d - 1) g h2 _ x1 s js G (V ++ W) P Z n0 m0 hx1 hb2 hzb (Or.inl ne) p2) fun h3 ps => fin h3 true rfl ps⟩⟩
    by_cases cR : tR T v = -1
    · refine b_X12_runsCommand_38 320 _ _ _ _ ⟨fun c => absurd c (nI_ge (a := 0) (b := 10) (by omega) (by omega)), fun _ => ⟨sr_k sr, 327, sr_r37 sr, sr_k327 sr, by show vp_in v (hpZ h 327); rw [sr_z327 sr]; exact vin, ?_⟩⟩
      rw [show hpI (hsI h 356 0 (nI (wB (xw x) + 1))) 327 v.toNatClampNeg = tR T v by rw [← hT, ← r1.rt]; rfl]
      refine ⟨fun _ => ?_, fun c => absurd cR c⟩
      exact at87 [] _ (fun q => absurd cR q) (Nat.zero_le _) (by rw [List.append_nil]; exact r1)
    · have r1' : RG h0 (hsI h 356 0 (nI (wB (xw x) + 1))) (uB (xw x) (wB (xw x) + 1)) ((s, x.2, js) :: (jG x.2 js ++ G)) (V ++ KH x.2.1 0) P ([], [], Z) (n0 + wM (xw x)) (m0 + 12 * wB (xw x) + 2 * 1) 1000 := by
        have : KH x.2.1 0 = [] := rfl
        rw [this, List.append_nil]; exact r1
      exact cm_38 (by omega) hcm hT cR (by omega) (by omega) 10 0 _ (by omega) r1' fun h2 r2 => at87 (KH x.2.1 10) h2 (fun _ => rfl) (by rw [KH_len]; exact Nat.le_refl _) r2
  · have cB' : wB (xw x) = 300 := (nI_eq (b := 300) (by omega) (by omega)).mp cB
    rw [if_pos cB'] at hx
    cases hx
    refine ⟨by rw [sr_z356 sr]; exact vp_in_nI (n := 2) (by omega) (by omega), ?_⟩
    rintro _ rfl
    have e2' : (2 : Int32).toNatClampNeg = 2 := by decide
    rw [e2']
    have r1 : RG h0 (hsI h 356 2 1) (uX (xw x) true) ((s, x.2, js) :: (jG x.2 js ++ G)) V P ([], [], Z) (n0 + wM (xw x)) (m0 + 12 * wB (xw x) + 2 * 1) 1000 := by
      refine r.tell (b := wB (xw x)) (k := wK (xw x)) (mm := wM (xw x)) (x := true) (t := wT (xw x)) (f := fup (hpI h 356) 2 1) ⟨by rw [fup_n (by omega)]; exact t1, t2, by rw [fup_n (by omega)]; exact t3, fup_e, by rw [fup_n (by omega)]; exact t5, t6, fun k hk => by rw [fup_n (by omega), fup_n (by omega), fup_n (by omega)]; exact t7 k hk⟩
    refine Or.inl ⟨rfl, Or.inr ⟨rfl, js, ?_⟩⟩
    exact r1.stop.sub (List.Sublist.cons_cons _ (List.sublist_append_right _ _))
end MXR2
