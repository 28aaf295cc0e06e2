/-! THE REFERENCE'S RUN: scripts, chains, pipelines' heads -/
section MXR1
variable {d g : Nat} {h0 h h1 : mxH} {T : spT} {nn k s : Nat} {x x1 x' : spX} {js : List Nat} {G : List spE} {V : List (Option (Option Nat))} {P : List spX} {Z : List (Int32 × Nat)} {n0 m0 : Nat}
theorem jG_len {S : spS} {js : List Nat} : (jG S js).length ≤ S.2.2.length := by
  unfold jG
  exact Nat.le_trans (List.length_filterMap_le _ _) (by rw [List.length_zip]; omega)
theorem Pst.go {V' : List (Option (Option Nat))} (p : Pst h0 x1 s G V P Z n0 m0 h1) (hV : wB (xw x) ≤ wB (xw x1)) (hV2 : V.length ≤ 10 + 11 * wB (xw x)) (hG : G.length + 9 * g ≤ 980) (hn : n0 ≤ 3900) (hm : m0 ≤ 300) :
    (wX (xw x1) = true ∧ ∃ js, RGs h0 h1 (xw x1) ((s, x1.2, js) :: G) V P) ∨ ∃ js, Pre 0 h0 h1 x1 s js G V P Z n0 m0 g := by
  rcases p with ⟨a, js, r⟩ | ⟨a, js, r⟩
  · exact Or.inr ⟨js, r, a, by omega, hG, hn, hm⟩
  · exact Or.inl ⟨a, js, r⟩
theorem Pre.pst (p : Pre 0 h0 h x s js G V P Z n0 m0 g) : Pst h0 x s G V P Z n0 m0 h := Or.inl ⟨p.2.1, js, p.1⟩
theorem Pre.sr {b : Nat} (p : Pre b h0 h x s js G V P Z n0 m0 g) : SR h := p.1.sr
theorem Pre.sN (p : Pre 0 h0 h x s js G V P Z n0 m0 g) : s < 1000 := p.1.own.1
/-- a place of the own row that is no handle -/
theorem Pre.st (p : Pre 0 h0 h x s js G V P Z n0 m0 g) {v : Int32} : Pre 0 h0 (hsI h 354 (83 * s + 33) v) (zSt x v) s js G V P Z n0 m0 g := ⟨p.1.st, p.2⟩
theorem Pre.rt {b : Nat} (p : Pre b h0 h x s js G V P Z n0 m0 g) : rtabs h = rtabs h0 := p.1.rt
theorem hlt_eq {x : spX} : hlt x = (wX (xw x) || x.2.2.1) := rfl
theorem chs_s {v : Int32} (hd : 2 ≤ d) (hX : wX (xw x) = true) (r : RGs h0 h (xw x) ((s, x.2, js) :: G) V P) (hx : gEx T k (cChs v) x = some x') : mx_SX mY_X12_runsScript d 39 [(0, .ref 320), (1, .int (nI s)), (3, .int v)] [] h (mx_KV (Pst h0 x' s G V P Z n0 m0) fun _ _ => False) := by
  have e : x' = x := by
    cases k with
    | zero => cases hx
    | succ k =>
      have hx : gChs T (gEx T k) v x = some x' := hx
      unfold gChs at hx
      rw [if_pos (Or.inr (by rw [hlt_eq, hX]; rfl))] at hx
      cases hx; rfl
  subst e
  have ps : Pst h0 x' s G V P Z n0 m0 h := Or.inr ⟨hX, js, r⟩
  exact b_X12_runsScript_39 320 _ _ ⟨fun _ => Or.inl ⟨rfl, ps⟩, fun _ => ⟨by omega, sr_k r.sr, mx_xKI2 (k_X12_isHalted_s (by omega) r hX) ⟨fun _ => Or.inl ⟨rfl, ps⟩, fun c => absurd c (by decide)⟩⟩⟩
theorem pps_s {v : Int32} (hd : 2 ≤ d) (hX : wX (xw x) = true) (r : RGs h0 h (xw x) ((s, x.2, js) :: G) V P) (hx : gEx T k (cPps v) x = some x') : mx_SX mY_X12_runsChain d 7 [(0, .ref 320), (1, .int (nI s)), (3, .int v)] [] h (mx_KV (Pst h0 x' s G V P Z n0 m0) fun _ _ => False) := by
  have e : x' = x := by
    cases k with
    | zero => cases hx
    | succ k =>
      have hx : gPps T (gEx T k) v x = some x' := hx
      unfold gPps at hx
      rw [if_pos (Or.inr (by rw [hlt_eq, hX]; rfl))] at hx
      cases hx; rfl
  subst e
  have ps : Pst h0 x' s G V P Z n0 m0 h := Or.inr ⟨hX, js, r⟩
  exact b_X12_runsChain_7 320 _ _ ⟨fun _ => Or.inl ⟨rfl, ps⟩, fun _ => ⟨by omega, sr_k r.sr, mx_xKI2 (k_X12_isHalted_s (by omega) r hX) ⟨fun _ => Or.inl ⟨rfl, ps⟩, fun c => absurd c (by decide)⟩⟩⟩
theorem bx {c : spC} (hb : bEx T (k + 1) d g c x) : bStep T (gEx T k) (bEx T k) d g c x := hb
theorem ct_scr (ih : Ctr h0 T nn k) (wt : WT T nn) (hT : rtabs h0 = T) (v : Int32) : SMc h0 T nn (k + 1) 0 mY_X12_runsScript [.int v] (cScr v) := by
  intro d g h x x' s js G V P Z n0 m0 hx hb hz he p
  obtain ⟨hd, hb⟩ := bx hb
  have hx : gScr T (gEx T k) v x = some x' := hx
  have sr := p.sr
  have hs := p.sN
  have rt : rtabs h = T := p.rt.trans hT
  unfold gScr at hx
  have go0 : ∀ va : Int32, va = -1 → x' = zSt x 0 → ((v = -1) ∨ hpI h 324 v.toNatClampNeg = va ∧ ∃ i, v = nI i ∧ i < 3000) → mx_SX mY_X12_runsScript d 15 [(0, .ref 320), (1, .int (nI s)), (2, .int v)] [] h (mx_KV (Pst h0 x' s G V P Z n0 m0) fun _ _ => False) := by
    rintro va rfl rfl hv
    refine b_X12_runsScript_15 320 _ _ ⟨by omega, sr_k sr, mx_xKV (k_X12_sets (j := 33) sr (by omega)) ?_⟩
    have p1 := p.st (v := 0)
    have s1 := p1.sr
    refine b_X12_runsScript_23 320 _ _ ⟨fun c => ?_, fun c => ?_⟩
    · rcases hv with e | ⟨e, i, rfl, hi⟩
      · exact absurd e c
      refine ⟨sr_k s1, 324, sr_r34 s1, sr_k324 s1, by rw [sr_z324 s1]; exact vp_in_nI hi (by omega), ?_⟩
      rw [hpI_sIo (by decide), e]
      exact b_X12_runsScript_39 320 _ _ ⟨fun _ => Or.inl ⟨rfl, p1.pst⟩, fun c => absurd rfl c⟩
    · exact b_X12_runsScript_39 320 _ _ ⟨fun _ => Or.inl ⟨rfl, p1.pst⟩, fun c => absurd rfl c⟩
  refine b_X12_runsScript 320 _ _ ⟨fun c => ?_, fun c => ?_⟩
  · rw [if_pos c] at hx
    cases hx
    exact go0 (-1) rfl rfl (Or.inl c)
  · rw [if_neg c] at hx
    have hk : v = -1 ∨ isK T nn (· = 1) v := hz.1
    rcases hk with e | ⟨i, e1, e2, e3⟩
    · exact absurd e c
    have i3 : i < 3000 := Nat.lt_of_lt_of_le e2 wt.1
    have vin : vp_in v 3000 := by rw [e1]; exact vp_in_nI i3 (by omega)
    have eA : hpI h 324 v.toNatClampNeg = tA T v := by rw [← rt]; rfl
    refine ⟨sr_k sr, 324, sr_r34 sr, sr_k324 sr, by rw [sr_z324 sr]; exact vin, ?_⟩
    rw [eA]
    refine ⟨fun c2 => ?_, fun c2 => ?_⟩
    · rw [if_neg c2] at hx
      refine b_X12_runsScript_23 320 _ _ ⟨fun _ => ⟨sr_k sr, 324, sr_r34 sr, sr_k324 sr, by rw [sr_z324 sr]; exact vin, ?_⟩, fun c3 => absurd c3 c⟩
      rw [eA]
      rcases hb with e | e | hb
      · exact absurd e c
      · exact absurd e c2
      exact ih.chs _ d g h x x' s js G V P Z n0 m0 hx hb (hz.to (c2 := cChs (tA T v)) (show (0 : Nat) ≠ 6 by decide) ((wt.2 i v e1 e2).1 e3).is (show (1 : Nat) ≠ 7 by decide)) p
    · rw [if_pos c2] at hx
      cases hx
      exact go0 (tA T v) c2 rfl (Or.inr ⟨eA, i, e1, i3⟩)
theorem ct_chs (ih : Ctr h0 T nn k) (wt : WT T nn) (hT : rtabs h0 = T) (v : Int32) : SXc h0 T nn (k + 1) mY_X12_runsScript 39 [(3, .int v)] (cChs v) := by
  intro d g h x x' s js G V P Z n0 m0 hx hb hz p
  obtain ⟨hd, hb⟩ := bx hb
  have hx : gChs T (gEx T k) v x = some x' := hx
  have sr := p.sr
  have hs := p.sN
  have rt : rtabs h = T := p.rt.trans hT
  obtain ⟨r, nX, pV, pG, pn, pm⟩ := id p
  unfold gChs at hx
  by_cases c : v = -1
  · rw [if_pos (Or.inl c)] at hx
    cases hx
    exact b_X12_runsScript_39 320 _ _ ⟨fun _ => Or.inl ⟨rfl, p.pst⟩, fun c2 => absurd c c2⟩
  refine b_X12_runsScript_39 320 _ _ ⟨fun c2 => absurd c2 c, fun _ => ⟨by omega, sr_k sr, mx_xKI2 (k_X12_isHalted (by omega) r) ?_⟩⟩
  by_cases ch : hlt x = true
  · rw [if_pos (Or.inr ch)] at hx
    cases hx
    have ch' : (wX (xw x) || x.2.2.1) = true := ch
    rw [if_pos ch']
    exact ⟨fun _ => Or.inl ⟨rfl, p.pst⟩, fun c => absurd c (by decide)⟩
  · have nh : ¬ (v = -1 ∨ hlt x = true) := fun q => q.elim c ch
    rw [if_neg nh] at hx
    have ch' : ¬ (wX (xw x) || x.2.2.1) = true := ch
    rw [if_neg ch']
    have hk : v = -1 ∨ isK T nn (· = 2) v := hz.1
    rcases hk with e | ⟨i, e1, e2, e3⟩
    · exact absurd e c
    have i3 : i < 3000 := Nat.lt_of_lt_of_le e2 wt.1
    have vin : vp_in v 3000 := by rw [e1]; exact vp_in_nI i3 (by omega)
    have nx := ((wt.2 i v e1 e2).2.1 e3).2.is
    rcases hb with e | e | ⟨hb1, hb2⟩
    · exact absurd e c
    · exact absurd e ch
    obtain ⟨x1, hx1, h2⟩ := Option.bind_eq_some_iff.mp hx
    have hb3 := hb2 x1 hx1
    -- what follows
    have next : ∀ h1, Pz T nn (cChs v) x x1 → Pst h0 x1 s G V P Z n0 m0 h1 → mx_SX mY_X12_runsScript d 77 [(0, .ref 320), (1, .int (nI s)), (3, .int v)] [] h1 (mx_KV (Pst h0 x' s G V P Z n0 m0) fun _ _ => False) := by
      intro h1 pz ps
      rcases ps.go (V' := V) (x := x) (g := g) pz.2.1.2.2.1 pV pG pn pm with ⟨sX, js1, r1⟩ | ⟨js1, p1⟩
      · refine b_X12_runsScript_77 320 _ _ ⟨sr_k r1.sr, 328, sr_r38 r1.sr, sr_k328 r1.sr, by rw [sr_z328 r1.sr]; exact vin, ?_⟩
        rw [show hpI h1 328 v.toNatClampNeg = tN T v by rw [← hT, ← r1.rt]; rfl]
        exact chs_s (by omega) sX r1 h2
      · refine b_X12_runsScript_77 320 _ _ ⟨sr_k p1.sr, 328, sr_r38 p1.sr, sr_k328 p1.sr, by rw [sr_z328 p1.sr]; exact vin, ?_⟩
        rw [show hpI h1 328 v.toNatClampNeg = tN T v by rw [← hT, ← p1.rt]; rfl]
        exact ih.chs _ d g h1 x1 x' s js1 G V P Z n0 m0 h2 hb3 (pz.hz (c2 := cChs (tN T v)) nx (show (1 : Nat) ≠ 7 by decide) (show (1 : Nat) ≠ 6 by decide)) p1
    refine ⟨fun c => absurd rfl c, fun _ => ⟨sr_k sr, 325, sr_r35 sr, sr_k325 sr, by rw [sr_z325 sr]; exact vin, ?_⟩⟩
    rw [show hpI h 325 v.toNatClampNeg = tB T v by rw [← rt]; rfl]
    refine ⟨fun cb => ?_, fun cb => ?_⟩
    · rw [if_neg cb] at hx1
      have hz1 := hz.to (c2 := cCh v) (show (1 : Nat) ≠ 6 by decide) ⟨i, e1, e2, e3⟩ (show (2 : Nat) ≠ 7 by decide)
      have pz : Pz T nn (cChs v) x x1 := (mi_all wt k _ _ _ hx1 hz1).cc (show (2 : Nat) ≠ 10 by decide)
      have ne : xe x = false := by
        cases e : xe x with
        | false => rfl
        | true => exact absurd (by rw [hlt_eq]; show (wX (xw x) || xe x) = true; rw [e, Bool.or_true]) ch
      exact mx_uV (ih.ch v (d - 1) g h x x1 s js G V P Z n0 m0 hx1 (hb1 cb) hz1 (Or.inl ne) p) fun h1 ps => next h1 pz ps
    · rw [if_pos cb] at hx1
      cases hx1
      have l8 : x.2.2.2.length ≤ 8 := r.own.2.2.2.2.1
      have lj : js.length = x.2.2.2.length := r.own.2.2.2.2.2.1
      have lG : (jG x.2 js ++ G).length < 998 := by
        rw [List.length_append]
        have := jG_len (S := x.2) (js := js)
        omega
      have pz : Pz T nn (cChs v) x (mkJob v x) := by
        have hs : gEx T (k + 1) (cChs v) x = some x' := by
          show gChs T (gEx T k) v x = some x'
          unfold gChs
          rw [if_neg nh, if_pos cb]; exact h2
        unfold mkJob
        split
        · exact pz_st hz (show (1 : Nat) ≠ 6 by decide) st1
        · refine ⟨⟨⟨st0, hz.2.1.1.2⟩, fun q hq => ?_⟩, Le.rf, fun _ => rfl, hz.w0 (show (1 : Nat) ≠ 6 by decide)⟩
          rcases List.mem_append.mp hq with g | g
          · exact hz.2.1.2 q g
          · rw [List.mem_singleton.mp g]
            exact ⟨Nat.zero_le _, st0, ⟨i, e1, e2, e3⟩, hz.2.1.1⟩
      refine mx_uV (k_X12_makesJob (by omega) r (by omega) lG) fun h1 q => next h1 pz ?_
      unfold mkJob
      rcases q with ⟨q1, q2⟩ | ⟨q1, q, -, -, q2⟩
      · rw [if_pos q1]
        exact Or.inl ⟨nX, js, q2⟩
      · rw [if_neg (fun e => absurd q1 (Nat.not_lt.mpr e))]
        refine Or.inl ⟨nX, js ++ [q], ?_⟩
        have ej : jG (vS x.2.1 0, x.2.2.1, x.2.2.2 ++ [(0, 0, v, subF x.2.1)]) (js ++ [q]) = jG x.2 js ++ [(q, (subF x.2.1, false, []), [])] := jG_snoc (S := x.2) rfl lj
        show RG h0 h1 (frk (xw x)) ((s, (vS x.2.1 0, x.2.2.1, x.2.2.2 ++ [(0, 0, v, subF x.2.1)]), js ++ [q]) :: (jG (vS x.2.1 0, x.2.2.1, x.2.2.2 ++ [(0, 0, v, subF x.2.1)]) (js ++ [q]) ++ G)) V P ([], [], Z) (n0 + wM (xw x)) (m0 + 12 * wB (xw x)) 1000
        rw [ej]
        refine q2.perm (List.Perm.cons _ ?_)
        rw [List.append_assoc]
        exact List.perm_middle.symm
theorem ct_ch (ih : Ctr h0 T nn k) (wt : WT T nn) (hT : rtabs h0 = T) (v : Int32) : SMc h0 T nn (k + 1) 0 mY_X12_runsChain [.int v] (cCh v) := by
  intro d g h x x' s js G V P Z n0 m0 hx hb hz he p
  obtain ⟨hd, hb⟩ := bx hb
  have hx : gEx T k (cPps (tA T v)) x = some x' := hx
  have sr := p.sr
  have rt : rtabs h = T := p.rt.trans hT
  obtain ⟨i, e1, e2, e3⟩ : isK T nn (· = 2) v := hz.1
  have i3 : i < 3000 := Nat.lt_of_lt_of_le e2 wt.1
  refine b_X12_runsChain 320 _ _ ⟨sr_k sr, 324, sr_r34 sr, sr_k324 sr, by rw [sr_z324 sr, e1]; exact vp_in_nI i3 (by omega), ?_⟩
  rw [show hpI h 324 v.toNatClampNeg = tA T v by rw [← rt]; rfl]
  exact ih.pps _ d g h x x' s js G V P Z n0 m0 hx hb (hz.to (c2 := cPps (tA T v)) (show (2 : Nat) ≠ 6 by decide) (Or.inr ((wt.2 i v e1 e2).2.1 e3).1.is) (show (3 : Nat) ≠ 7 by decide)) p
theorem ct_pps (ih : Ctr h0 T nn k) (wt : WT T nn) (hT : rtabs h0 = T) (v : Int32) : SXc h0 T nn (k + 1) mY_X12_runsChain 7 [(3, .int v)] (cPps v) := by
  intro d g h x x' s js G V P Z n0 m0 hx hb hz p
  obtain ⟨hd, hb⟩ := bx hb
  have hx : gPps T (gEx T k) v x = some x' := hx
  have sr := p.sr
  have hs := p.sN
  have rt : rtabs h = T := p.rt.trans hT
  obtain ⟨r, nX, pV, pG, pn, pm⟩ := id p
  unfold gPps at hx
  by_cases c : v = -1
  · rw [if_pos (Or.inl c)] at hx
    cases hx
    exact b_X12_runsChain_7 320 _ _ ⟨fun _ => Or.inl ⟨rfl, p.pst⟩, fun c2 => absurd c c2⟩
  refine b_X12_runsChain_7 320 _ _ ⟨fun c2 => absurd c2 c, fun _ => ⟨by omega, sr_k sr, mx_xKI2 (k_X12_isHalted (by omega) r) ?_⟩⟩
  by_cases ch : hlt x = true
  · rw [if_pos (Or.inr ch)] at hx
    cases hx
    have ch' : (wX (xw x) || x.2.2.1) = true := ch
    rw [if_pos ch']
    exact ⟨fun _ => Or.inl ⟨rfl, p.pst⟩, fun c => absurd c (by decide)⟩
  · have nh : ¬ (v = -1 ∨ hlt x = true) := fun q => q.elim c ch
    rw [if_neg nh] at hx
    have ch' : ¬ (wX (xw x) || x.2.2.1) = true := ch
    rw [if_neg ch']
    have hk : v = -1 ∨ isK T nn (· = 3) v := hz.1
    rcases hk with e | ⟨i, e1, e2, e3⟩
    · exact absurd e c
    have i3 : i < 3000 := Nat.lt_of_lt_of_le e2 wt.1
    have vin : vp_in v 3000 := by rw [e1]; exact vp_in_nI i3 (by omega)
    have nx := ((wt.2 i v e1 e2).2.2.1 e3).2.is
    rcases hb with e | e | ⟨hb1, hb2⟩
    · exact absurd e c
    · exact absurd e ch
    have eC : ∀ h1, rtabs h1 = rtabs h0 → hpI h1 326 v.toNatClampNeg = tC T v := fun h1 e => by rw [← hT, ← e]; rfl
    have eN : ∀ h1, rtabs h1 = rtabs h0 → hpI h1 328 v.toNatClampNeg = tN T v := fun h1 e => by rw [← hT, ← e]; rfl
    -- the next one, when this one is left out
    have skip : ((tC T v = 1 ∧ fS (xf x) ≠ 0) ∨ (tC T v = 2 ∧ fS (xf x) = 0)) → mx_SX mY_X12_runsChain d 65 [(0, .ref 320), (1, .int (nI s)), (3, .int v)] [] h (mx_KV (Pst h0 x' s G V P Z n0 m0) fun _ _ => False) := by
      intro sk
      rw [if_pos sk] at hx
      refine b_X12_runsChain_65 320 _ _ ⟨sr_k sr, 328, sr_r38 sr, sr_k328 sr, by rw [sr_z328 sr]; exact vin, ?_⟩
      rw [eN h p.rt]
      exact ih.pps _ d g h x x' s js G V P Z n0 m0 hx (hb1 sk) (hz.to (c2 := cPps (tN T v)) (show (3 : Nat) ≠ 6 by decide) nx (show (3 : Nat) ≠ 7 by decide)) p
    have run : ¬ ((tC T v = 1 ∧ fS (xf x) ≠ 0) ∨ (tC T v = 2 ∧ fS (xf x) = 0)) → mx_SX mY_X12_runsChain d 59 [(0, .ref 320), (1, .int (nI s)), (3, .int v)] [] h (mx_KV (Pst h0 x' s G V P Z n0 m0) fun _ _ => False) := by
      intro sk
      rw [if_neg sk] at hx
      obtain ⟨x1, hx1, h2⟩ := Option.bind_eq_some_iff.mp hx
      obtain ⟨hb3, hb4⟩ := hb2 sk
      have hz1 := hz.to (c2 := cPp v) (show (3 : Nat) ≠ 6 by decide) ⟨i, e1, e2, e3⟩ (show (4 : Nat) ≠ 7 by decide)
      have pz : Pz T nn (cPps v) x x1 := (mi_all wt k _ _ _ hx1 hz1).cc (show (4 : Nat) ≠ 10 by decide)
      have ne : xe x = false := by
        cases e : xe x with
        | false => rfl
        | true => exact absurd (by rw [hlt_eq]; show (wX (xw x) || xe x) = true; rw [e, Bool.or_true]) ch
      refine b_X12_runsChain_59 320 _ _ ⟨by omega, sr_k sr, mx_uV (ih.pp v (d - 1) g h x x1 s js G V P Z n0 m0 hx1 hb3 hz1 (Or.inl ne) p) fun h1 ps => ?_⟩
      rcases ps.go (V' := V) (x := x) (g := g) pz.2.1.2.2.1 pV pG pn pm with ⟨sX, js1, r1⟩ | ⟨js1, p1⟩
      · refine b_X12_runsChain_65 320 _ _ ⟨sr_k r1.sr, 328, sr_r38 r1.sr, sr_k328 r1.sr, by rw [sr_z328 r1.sr]; exact vin, ?_⟩
        rw [eN h1 r1.rt]
        exact pps_s (by omega) sX r1 h2
      · refine b_X12_runsChain_65 320 _ _ ⟨sr_k p1.sr, 328, sr_r38 p1.sr, sr_k328 p1.sr, by rw [sr_z328 p1.sr]; exact vin, ?_⟩
        rw [eN h1 p1.rt]
        exact ih.pps _ d g h1 x1 x' s js1 G V P Z n0 m0 h2 (hb4 x1 hx1) (pz.hz (c2 := cPps (tN T v)) nx (show (3 : Nat) ≠ 7 by decide) (show (3 : Nat) ≠ 6 by decide)) p1
    refine ⟨fun c => absurd rfl c, fun _ => ⟨sr_k sr, 326, sr_r36 sr, sr_k326 sr, by rw [sr_z326 sr]; exact vin, ?_⟩⟩
    rw [eC h p.rt]
    have at38 : (tC T v = 1 → fS (xf x) = 0) → mx_SX mY_X12_runsChain d 38 [(0, .ref 320), (1, .int (nI s)), (3, .int v)] [] h (mx_KV (Pst h0 x' s G V P Z n0 m0) fun _ _ => False) := by
      intro c1
      refine b_X12_runsChain_38 320 _ _ ⟨sr_k sr, 326, sr_r36 sr, sr_k326 sr, by rw [sr_z326 sr]; exact vin, ?_⟩
      rw [eC h p.rt]
      refine ⟨fun c2 => run fun q => ?_, fun c2 => ⟨by omega, mx_xKI2 (k_X12_statusOf (by omega) r) ⟨fun c3 => run fun q => ?_, fun c3 => skip (Or.inr ⟨c2, c3⟩)⟩⟩⟩
      · rcases q with ⟨q1, q2⟩ | ⟨q1, q2⟩
        · exact q2 (c1 q1)
        · exact c2 q1
      · rcases q with ⟨q1, q2⟩ | ⟨q1, q2⟩
        · exact q2 (c1 q1)
        · exact c3 q2
    exact ⟨fun c1 => at38 fun q => absurd q c1, fun c1 => mx_xKI2 (k_X12_statusOf (by omega) r) ⟨fun c2 => skip (Or.inl ⟨c1, c2⟩), fun c2 => at38 fun _ => c2⟩⟩
theorem ct_pp (ih : Ctr h0 T nn k) (wt : WT T nn) (hT : rtabs h0 = T) (v : Int32) : SMc h0 T nn (k + 1) 0 mY_X12_runsPipes [.int v] (cPp v) := by
  intro d g h x x' s js G V P Z n0 m0 hx hb hz he p
  obtain ⟨hd, hb1, hb2⟩ := bx hb
  have hx : gPp T (gEx T k) v x = some x' := hx
  have sr := p.sr
  have rt : rtabs h = T := p.rt.trans hT
  have ne : xe x = false := he.elim id fun q => absurd q (show ¬ 10 ≤ (4 : Nat) by decide)
  obtain ⟨r, nX, pV, pG, pn, pm⟩ := id p
  obtain ⟨i, e1, e2, e3⟩ : isK T nn (· = 3) v := hz.1
  have i3 : i < 3000 := Nat.lt_of_lt_of_le e2 wt.1
  have vin : vp_in v 3000 := by rw [e1]; exact vp_in_nI i3 (by omega)
  have ha := ((wt.2 i v e1 e2).2.2.1 e3).1.is
  obtain ⟨ia, ea, ia2, -⟩ := id ha
  unfold gPp at hx
  obtain ⟨x1, hx1, h2⟩ := Option.bind_eq_some_iff.mp hx
  cases h2
  have eA : hpI h 324 v.toNatClampNeg = tA T v := by rw [← rt]; rfl
  -- the end: not, perhaps
  have fin : ∀ h1, Pst h0 x1 s G V P Z n0 m0 h1 → mx_SX mY_X12_runsPipes d 40 [(0, .ref 320), (1, .int (nI s)), (2, .int v)] [] h1 (mx_KV (Pst h0 (neg1 x1 (decide (tB T v = 1))) s G V P Z n0 m0) fun _ _ => False) := by
    intro h1 ps
    rcases ps with ⟨a, js1, r1⟩ | ⟨a, js1, r1⟩
    · have s1 := r1.sr
      have hs := r1.own.1
      refine b_X12_runsPipes_40 320 _ _ ⟨by omega, sr_k s1, mx_xKI2 (k_X12_isHalted (by omega) r1) ?_⟩
      by_cases ch : hlt x1 = true
      · have ch' : (wX (xw x1) || x1.2.2.1) = true := ch
        rw [if_pos ch']
        refine ⟨fun _ => Or.inl ⟨rfl, ?_⟩, fun c => absurd c (by decide)⟩
        unfold neg1
        rw [if_neg (fun q => by rw [q.1] at ch; cases ch)]
        exact Or.inl ⟨a, js1, r1⟩
      · have ch' : ¬ (wX (xw x1) || x1.2.2.1) = true := ch
        have chf : hlt x1 = false := by cases e : hlt x1 with
          | false => rfl
          | true => exact absurd e ch
        rw [if_neg ch']
        refine ⟨fun c => absurd rfl c, fun _ => ⟨sr_k s1, 325, sr_r35 s1, sr_k325 s1, by rw [sr_z325 s1]; exact vin, ?_⟩⟩
        rw [show hpI h1 325 v.toNatClampNeg = tB T v by rw [← hT, ← r1.rt]; rfl]
        unfold neg1
        refine ⟨fun cb => Or.inl ⟨rfl, ?_⟩, fun cb => mx_xKI2 (k_X12_statusOf (by omega) r1) ⟨fun c0 => ⟨sr_k s1, mx_xKV (k_X12_sets (j := 33) s1 (by omega)) (Or.inl ⟨rfl, ?_⟩)⟩, fun c0 => ⟨sr_k s1, mx_xKV (k_X12_sets (j := 33) s1 (by omega)) (Or.inl ⟨rfl, ?_⟩)⟩⟩⟩
        · rw [if_neg (fun q => cb (of_decide_eq_true q.2))]
          exact Or.inl ⟨a, js1, r1⟩
        · rw [if_pos ⟨chf, decide_eq_true cb⟩, if_neg c0]
          exact Or.inl ⟨a, js1, r1.st⟩
        · rw [if_pos ⟨chf, decide_eq_true cb⟩, if_pos c0]
          exact Or.inl ⟨a, js1, r1.st⟩
    · refine b_X12_runsPipes_40 320 _ _ ⟨by omega, sr_k r1.sr, mx_xKI2 (k_X12_isHalted_s (by omega) r1 a) ⟨fun _ => Or.inl ⟨rfl, ?_⟩, fun c => absurd c (by decide)⟩⟩
      unfold neg1
      rw [if_neg (fun q => by rw [hlt_eq, a] at q; cases q.1)]
      exact Or.inr ⟨a, js1, r1⟩
  refine b_X12_runsPipes 320 _ _ ⟨sr_k sr, 328, sr_r38 sr, 324, sr_r34 sr, sr_k324 sr, by rw [sr_z324 sr]; exact vin, sr_k328 sr, ?_⟩
  rw [eA]
  refine ⟨by rw [sr_z328 sr, ea]; exact vp_in_nI (Nat.lt_of_lt_of_le ia2 wt.1) (by omega), ?_⟩
  rw [show hpI h 328 (tA T v).toNatClampNeg = tN T (tA T v) by rw [← rt]; rfl]
  refine ⟨fun c => ⟨by omega, ?_⟩, fun c => ⟨by omega, ?_⟩⟩
  · rw [if_neg c] at hx1
    exact mx_uV (ih.sev _ (d - 1) g h x x1 s js G V P Z n0 m0 hx1 (hb2 c) (hz.to (c2 := cSev (tA T v) 0 0 none) (show (4 : Nat) ≠ 6 by decide) ⟨Or.inr ha, st0, st0⟩ (show (5 : Nat) ≠ 7 by decide)) (Or.inl ne) p) fin
  · rw [if_pos c] at hx1
    have p1 : Pre 1 h0 h x s js G V P Z n0 m0 g := ⟨r.up (Nat.le_refl _) (by omega), nX, by omega, pG, pn, pm⟩
    exact mx_uV (ih.cmd _ (d - 1) g h x x1 s js G V P Z n0 m0 hx1 (hb1 c) (hz.to (c2 := cCmd (tA T v)) (show (4 : Nat) ≠ 6 by decide) ha (show (6 : Nat) ≠ 7 by decide)) (Or.inl ne) p1) fin
end MXR1
