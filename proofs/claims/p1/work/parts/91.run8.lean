/-! THE REFERENCE'S RUN: plain commands: raise, wait, fg -/
section MXR8
variable {d g : Nat} {h0 h h1 : mxH} {T : spT} {nn k s : Nat} {x x1 x' y : spX} {w w1 : spW} {S : spS} {js : List Nat} {G L : List spE} {V W : List (Option (Option Nat))} {P : List spX} {N : spN} {Z : List (Int32 × Nat)} {n m xs n0 m0 u : Nat} {Q : mxRes → mxH → Prop} {v : Int32}
theorem cmdK_eq (n : Int64) : cmdK n = if n = 1038484 then 1 else if n = 11312755 then 2 else if n = 257683 then 3 else if n = 918640 then 4 else if n = 4164 then 5 else if n = 286309 then 6 else if n = 1037755 then 7 else if n = 26216 then 8 else if n = 286474 then 9 else if n = 33798580 then 10 else if n = 1166741 then 11 else if n = 229 then 12 else 0 := by
  by_cases c1 : n = 1038484
  · subst c1; rfl
  by_cases c2 : n = 11312755
  · subst c2; rfl
  by_cases c3 : n = 257683
  · subst c3; rfl
  by_cases c4 : n = 918640
  · subst c4; rfl
  by_cases c5 : n = 4164
  · subst c5; rfl
  by_cases c6 : n = 286309
  · subst c6; rfl
  by_cases c7 : n = 1037755
  · subst c7; rfl
  by_cases c8 : n = 26216
  · subst c8; rfl
  by_cases c9 : n = 286474
  · subst c9; rfl
  by_cases c10 : n = 33798580
  · subst c10; rfl
  by_cases c11 : n = 1166741
  · subst c11; rfl
  by_cases c12 : n = 229
  · subst c12; rfl
  rw [if_neg c1, if_neg c2, if_neg c3, if_neg c4, if_neg c5, if_neg c6, if_neg c7, if_neg c8, if_neg c9, if_neg c10, if_neg c11, if_neg c12]
  have e : cmdNames.findIdx? (fun q => decide (q = n)) = none := by
    rw [List.findIdx?_eq_none_iff]
    intro q hq
    have hq : q ∈ ([1038484, 11312755, 257683, 918640, 4164, 286309, 1037755, 26216, 286474, 33798580, 1166741, 229] : List Int64) := hq
    simp only [List.mem_cons, List.not_mem_nil, or_false] at hq
    rw [decide_eq_false_iff_not]
    rintro rfl
    rcases hq with q | q | q | q | q | q | q | q | q | q | q | q
    · exact c1 q
    · exact c2 q
    · exact c3 q
    · exact c4 q
    · exact c5 q
    · exact c6 q
    · exact c7 q
    · exact c8 q
    · exact c9 q
    · exact c10 q
    · exact c11 q
    · exact c12 q
  unfold cmdK
  rw [e]
theorem k_X12_isCommand (sr : SR h) {n : Int64} : mx_SM mY_X12_isCommand d [.ref 320, .long n] h (mx_xct (.inl (some (.int (if cmdK n = 0 then 0 else 1)))) h) := by
  have y : cmdK n ≠ 0 → mx_SX mY_X12_isCommand d 108 [] [] h (mx_xct (.inl (some (.int (if cmdK n = 0 then 0 else 1)))) h) := fun c =>
    b_X12_isCommand_108 ⟨by rw [if_neg c], rfl⟩
  refine b_X12_isCommand 320 _ ⟨sr_k sr, ?_⟩
  rw [sr_l13 sr, sr_l14 sr, sr_l15 sr, sr_l16 sr, sr_l17 sr, sr_l18 sr, sr_l19 sr, sr_l20 sr, sr_l21 sr, sr_l22 sr, sr_l23 sr, sr_l24 sr]
  simp only [lg_cmp_eq]
  refine ⟨fun c => y (by rw [c]; decide), fun c1 => ⟨fun c => y (by rw [c]; decide), fun c2 => ⟨fun c => y (by rw [c]; decide), fun c3 => ⟨fun c => y (by rw [c]; decide), fun c4 => ⟨fun c => y (by rw [c]; decide), fun c5 => ⟨fun c => y (by rw [c]; decide), fun c6 => ⟨fun c => y (by rw [c]; decide), fun c7 => ⟨fun c => y (by rw [c]; decide), fun c8 => ⟨fun c => y (by rw [c]; decide), fun c9 => ⟨fun c => y (by rw [c]; decide), fun c10 => ⟨fun c => y (by rw [c]; decide), fun c11 => ⟨fun c12 => ⟨?_, rfl⟩, fun c => y (by rw [c]; decide)⟩⟩⟩⟩⟩⟩⟩⟩⟩⟩⟩⟩
  rw [cmdK_eq, if_neg c1, if_neg c2, if_neg c3, if_neg c4, if_neg c5, if_neg c6, if_neg c7, if_neg c8, if_neg c9, if_neg c10, if_neg c11, if_neg c12, if_pos rfl]
/-- behind a command's work, before its status -/
def Aft (h0 : mxH) (x' : spX) (s : Nat) (G : List spE) (V : List (Option (Option Nat))) (P : List spX) (Z : List (Int32 × Nat)) (n0 m0 : Nat) (v : Int32) (h1 : mxH) : Prop := ∃ x1, x' = zUn x1 v ∧ Pst h0 x1 s G V P Z n0 m0 h1
theorem pl_262 (hd : 4 ≤ d) (hs : s < 1000) (a : Aft h0 x' s G V P Z n0 m0 v h) : mx_SX mY_X12_runsPlain d 262 [(0, .ref 320), (1, .int (nI s)), (5, .int v)] [] h (mx_KV (Pst h0 x' s G V P Z n0 m0) fun _ _ => False) := by
  obtain ⟨x1, rfl, ps⟩ := a
  unfold zUn
  rcases ps with ⟨nX, js, r⟩ | ⟨hX, js, r⟩
  · have sr := r.sr
    refine b_X12_runsPlain_262 320 _ _ ⟨by omega, sr_k sr, mx_xKI2 (k_X12_isHalted (by omega) r) ?_⟩
    by_cases ch : hlt x1 = true
    · have ch' : (wX (xw x1) || x1.2.2.1) = true := ch
      rw [if_pos ch', if_pos ch]
      exact ⟨fun _ => Or.inl ⟨rfl, Or.inl ⟨nX, js, r⟩⟩, fun c => absurd c (by decide)⟩
    · have ch' : ¬ (wX (xw x1) || x1.2.2.1) = true := ch
      rw [if_neg ch', if_neg ch]
      exact ⟨fun c => absurd rfl c, fun _ => ⟨sr_k sr, mx_xKV (k_X12_sets (j := 33) sr (by omega)) (Or.inl ⟨rfl, Or.inl ⟨nX, js, r.st⟩⟩)⟩⟩
  · have sr := r.sr
    refine b_X12_runsPlain_262 320 _ _ ⟨by omega, sr_k sr, mx_xKI2 (k_X12_isHalted_s (by omega) r hX) ?_⟩
    rw [if_pos (by rw [hlt_eq, hX]; rfl)]
    exact ⟨fun _ => Or.inl ⟨rfl, Or.inr ⟨hX, js, r⟩⟩, fun c => absurd c (by decide)⟩
theorem Pst.aft (ps : Pst h0 x1 s G V P Z n0 m0 h1) : Aft h0 (zUn x1 v) s G V P Z n0 m0 v h1 := ⟨x1, rfl, ps⟩
theorem nh_of (nX : wX (xw x) = false) (ne : xe x = false) : hlt x = false := by
  show (wX (xw x) || xe x) = false
  rw [nX, ne]; rfl
theorem Pre.aft (p : Pre 0 h0 h x s js G V P Z n0 m0 g) (ne : xe x = false) : Aft h0 (zSt x v) s G V P Z n0 m0 v h := by
  have e : zUn x v = zSt x v := by unfold zUn; rw [if_neg (by rw [nh_of p.2.1 ne]; decide)]
  rw [← e]
  exact p.pst.aft
/-- out of a builtin's own answer -/
theorem RBr.aft {r : Int32 × spW × spF} {h' : mxH} (q : RBr h0 (jG x.2 js ++ G) V P Z n m 1000 s x.2 js r v h') (ne : xe x = false) (nX : wX r.2.1 = false) (hn : n ≤ n0 + wM r.2.1) (hm : m ≤ m0 + 12 * wB r.2.1) : Aft h0 (zRes x r) s G V P Z n0 m0 v h' := by
  rcases q with ⟨q1, rfl, q3⟩ | ⟨q1, rfl, q3⟩
  · refine ⟨zwf x r.2.1 r.2.2, ?_, Or.inl ⟨nX, js, q3.up hn hm⟩⟩
    unfold zRes zUn
    rw [if_neg q1, if_neg (by rw [nh_of (x := zwf x r.2.1 r.2.2) nX ne]; decide)]
  · refine ⟨zEnd (zwf x r.2.1 r.2.2) 149, ?_, Or.inl ⟨nX, js, q3.up hn hm⟩⟩
    unfold zRes zUn
    rw [if_pos q1, if_pos (by show (wX r.2.1 || true) = true; rw [Bool.or_true])]
theorem ct_rse (ih : Ctr h0 T nn k) (wt : WT T nn) (hd : 17 ≤ d) {as : List spL} (ra : RA h as) (h30 : as.flatten.length ≤ 30000) (hl : as.length ≤ 400) (hx : gRse (gEx T k) as x = some x') (hz : Hz T nn (cBdy v) x) (ne : xe x = false)
    (hb : ∀ s, sigK (nmL (as.getD 0 [])) = some s → s < 3 → 0 < fA (xf x) s → bFnc (bEx T k) g (d - 1) (fA (xf x) s) x) (p : Pre 0 h0 h x s js G V P Z n0 m0 g) :
    mx_SM mY_X12_raises d [.ref 320, .int (nI s)] h (mx_KI (Aft h0 x' s G V P Z n0 m0) fun _ _ => False) := by
  obtain ⟨r, nX, pV, pG, pn, pm⟩ := id p
  have sr := p.sr
  have hs := p.sN
  unfold gRse at hx
  have two : x' = zSt x 2 → Aft h0 x' s G V P Z n0 m0 2 h := fun e => by rw [e]; exact p.aft ne
  refine b_X12_raises 320 _ ⟨sr_k sr, ?_⟩
  rw [ra.1]
  by_cases c1 : as.length = 1
  · rw [if_neg (fun q => q c1)] at hx
    refine ⟨fun c => absurd (by rw [c1]; rfl) c, fun _ => ⟨by omega, ?_⟩⟩
    obtain ⟨b0, rb0⟩ := ra.at h30 hl (k := 0) (by omega)
    have e0 : as.getD 0 [] = as[0]'(by omega) := gd_at (by omega)
    rw [e0] at hx hb
    refine mx_xKI2 (k_X12_signalAt (by omega) sr rb0) (mx_xKI2 k_X12_in ?_)
    cases eg : sigK (nmL (as[0]'(by omega))) with
    | none =>
      rw [eg] at hx
      cases hx
      rw [if_neg (show ¬ ((0 : Int32) ≤ ixI none ∧ ixI none ≤ 2) from fun q => absurd q.1 (by decide))]
      exact ⟨fun c => absurd rfl c, fun _ => Or.inl ⟨_, rfl, two rfl⟩⟩
    | some gg =>
      rw [eg] at hx
      have g4 : gg < 4 := (List.findIdx?_eq_some_iff_getElem.mp eg).1
      have hx : (if 3 ≤ gg then some (zSt x 2) else
        if fA (xf x) gg = 0 then some (zEnd x (128 + (if gg = 2 then 15 else nI (gg + 1)))) else
        (if 0 < fA (xf x) gg then match tbF (fU (xf x)) (fA (xf x) gg) with
          | none => some x
          | some i => gEx T k (cCal ((fU (xf x)).getD i (0, 0)).2) x
        else some x).bind fun x1 => some (zUn x1 0)) = some x' := hx
      by_cases c3 : 3 ≤ gg
      · rw [if_pos c3] at hx
        cases hx
        have e3 : gg = 3 := by omega
        subst e3
        rw [if_neg (show ¬ ((0 : Int32) ≤ ixI (some 3) ∧ ixI (some 3) ≤ 2) from fun q => absurd q.2 (by decide))]
        exact ⟨fun c => absurd rfl c, fun _ => Or.inl ⟨_, rfl, two rfl⟩⟩
      · rw [if_neg c3] at hx
        have in2 : (0 : Int32) ≤ ixI (some gg) ∧ ixI (some gg) ≤ 2 := by
          have : gg = 0 ∨ gg = 1 ∨ gg = 2 := by omega
          rcases this with e | e | e <;> subst e <;> decide
        rw [if_pos in2]
        refine ⟨fun _ => ⟨sr_k sr, ?_⟩, fun c => absurd c (by decide)⟩
        rw [show (30 : Int32) + ixI (some gg) = nI (30 + gg) from nI_add 30 gg]
        refine mx_xKL2 (k_X12_nameOf sr (by omega)) ?_
        have eA : hpL h 355 (34 * s + (30 + gg)) = fA x.2.1 gg := r.own.2.1.2.2.1 gg (by omega)
        rw [eA]
        by_cases cz : fA x.2.1 gg = 0
        · rw [if_pos (show fA (xf x) gg = 0 from cz)] at hx
          cases hx
          refine ⟨fun c => absurd ((lg_cmp_eq _ _).mpr cz) c, fun _ => ?_⟩
          have fin : ∀ h1 vv, RG h0 h1 (xw x) ((s, (vS x.2.1 vv, true, x.2.2.2), js) :: (jG x.2 js ++ G)) V P ([], [], Z) (n0 + wM (xw x)) (m0 + 12 * wB (xw x) + 2 * 0) 1000 → mx_SX mY_X12_raises d 67 [(0, .ref 320), (1, .int (nI s)), (3, .long (fA x.2.1 gg))] [] h1 (mx_KI (Aft h0 (zEnd x vv) s G V P Z n0 m0) fun _ _ => False) := by
            intro h1 vv r1
            refine b_X12_raises_67 320 _ _ ⟨fun _ => ⟨fun _ => Or.inl ⟨_, rfl, zEnd x vv, ?_, Or.inl ⟨nX, js, r1⟩⟩, fun c => absurd rfl c⟩, fun c => absurd ((lg_cmp_le _ _).mpr (by rw [cz]; exact Int64.le_refl _)) c⟩
            unfold zUn
            rw [if_pos (by show (wX (xw x) || true) = true; rw [Bool.or_true])]
          by_cases c2 : gg = 2
          · subst c2
            exact ⟨fun c => absurd rfl c, fun _ => ⟨sr_k sr, mx_uV (k_X12_ends (by omega) r) fun h1 r1 => fin h1 _ r1⟩⟩
          · refine ⟨fun _ => ⟨sr_k sr, ?_⟩, fun c => ?_⟩
            · rw [if_neg c2, show ixI (some gg) + 1 = nI (gg + 1) from nI_1 gg]
              exact mx_uV (k_X12_ends (by omega) r) fun h1 r1 => fin h1 _ r1
            · exact absurd ((nI_eq (a := gg) (b := 2) (by omega) (by omega)).mp c) c2
        · rw [if_neg (show ¬ fA (xf x) gg = 0 from cz)] at hx
          obtain ⟨x1, hx1, h2⟩ := Option.bind_eq_some_iff.mp hx
          cases h2
          refine ⟨fun _ => b_X12_raises_67 320 _ _ ⟨fun c => ⟨fun _ => Or.inl ⟨_, rfl, ?_⟩, fun c => absurd rfl c⟩, fun c => ⟨by omega, sr_k sr, mx_xKI2 (k_X12_functionOf (by omega) r) ?_⟩⟩, fun c => absurd ((lg_cmp_eq _ _).mp c) cz⟩
          · have np : ¬ (0 : Int64) < fA (xf x) gg := Int64.not_lt.mpr ((lg_cmp_le _ _).mp c)
            rw [if_neg np] at hx1
            cases hx1
            exact p.pst.aft
          · have pp : (0 : Int64) < fA (xf x) gg := Int64.not_le.mp fun q => c ((lg_cmp_le _ _).mpr q)
            rw [if_pos pp] at hx1
            have hx1' : (match tbF (fU x.2.1) (fA x.2.1 gg) with
              | none => some x
              | some i => gEx T k (cCal ((fU x.2.1).getD i (0, 0)).2) x) = some x1 := hx1
            have hb1 := hb gg eg (by omega) pp
            cases et : tbF (fU x.2.1) (fA x.2.1 gg) with
            | none =>
              rw [et] at hx1'
              cases hx1'
              exact ⟨fun _ => Or.inl ⟨_, rfl, p.pst.aft⟩, fun c => absurd rfl c⟩
            | some i =>
              rw [et] at hx1'
              obtain ⟨hi, -⟩ := tbF_at et
              have h10 : (fU x.2.1).length ≤ 10 := r.own.2.1.2.1.2.1
              have hf := (r.own.2.1.2.1.2.2 i hi).2
              refine ⟨fun c => absurd c (ixI_some (by omega)), fun _ => ⟨sr_k sr, ?_⟩⟩
              rw [show (22 : Int32) + ixI (some i) = nI (22 + i) from nI_add 22 i]
              refine mx_xKI2 (k_X12_of sr (by omega)) ⟨sr_k sr, ?_⟩
              have ef : hpI h 354 (83 * s + (22 + i)) = ((fU x.2.1).getD i (0, 0)).2 := by rw [gd_at hi]; exact hf
              rw [ef]
              exact mx_uV (ih.cal _ (d - 1) g h x x1 s js G V P Z n0 m0 hx1' (hb1 i et) (hz.to (c2 := cCal _) (show (7 : Nat) ≠ 6 by decide) (hz.2.1.1.2 _ (tb_mem et)) (show (9 : Nat) ≠ 7 by decide)) (Or.inl ne) p) fun h1 ps => Or.inl ⟨_, rfl, ps.aft⟩
  · rw [if_pos c1] at hx
    cases hx
    refine ⟨fun _ => ⟨by omega, mx_xKI2 k_X12_in ?_⟩, fun c => absurd ((nI_eq (b := 1) (by omega) (by omega)).mp c) c1⟩
    rw [if_neg (show ¬ ((0 : Int32) ≤ -1 ∧ (-1 : Int32) ≤ 2) from fun q => absurd q.1 (by decide))]
    exact ⟨fun c => absurd rfl c, fun _ => Or.inl ⟨_, rfl, two rfl⟩⟩
theorem ct_wt (ih : Ctr h0 T nn k) (wt : WT T nn) (hd : 17 ≤ d) {as : List spL} {fg : Bool} (ra : RA h as) (h30 : as.flatten.length ≤ 30000) (hl : as.length ≤ 400) (hx : gWt (gEx T k) fg as x = some x') (hz : Hz T nn (cBdy v) x) (ne : xe x = false)
    (hb : bWt (bEx T k) g d fg as x) (p : Pre 0 h0 h x s js G V P Z n0 m0 g) :
    mx_SM mY_X12_waits d [.ref 320, .int (nI s), .int (if fg = true then 1 else 0)] h (mx_KI (Aft h0 x' s G V P Z n0 m0) fun _ _ => False) := by
  obtain ⟨r, nX, pV, pG, pn, pm⟩ := id p
  have sr := p.sr
  have hs := p.sN
  unfold gWt at hx
  have two : x' = zSt x 2 → Aft h0 x' s G V P Z n0 m0 2 h := fun e => by rw [e]; exact p.aft ne
  have n127 : x' = zSt x 127 → Aft h0 x' s G V P Z n0 m0 127 h := fun e => by rw [e]; exact p.aft ne
  refine b_X12_waits 320 _ _ ⟨sr_k sr, ?_⟩
  rw [ra.1]
  by_cases c0 : as.length = 0
  · refine ⟨fun c => absurd c (by rw [c0]; decide), fun _ => ⟨fun c => absurd (by rw [c0]; rfl) c, fun _ => ?_⟩⟩
    cases fg with
    | true =>
      rw [if_neg (fun q => by cases q.2), if_pos (by omega)] at hx
      cases hx
      exact ⟨fun c => absurd c (by decide), fun _ => Or.inl ⟨_, rfl, two rfl⟩⟩
    | false =>
      rw [if_pos ⟨c0, rfl⟩] at hx
      obtain ⟨x1, hx1, h2⟩ := Option.bind_eq_some_iff.mp hx
      cases h2
      refine ⟨fun _ => b_X12_waits_21 320 _ _ ⟨sr_k sr, ?_⟩, fun c => absurd rfl c⟩
      rw [ra.1]
      refine ⟨fun c => absurd (by rw [c0]; rfl) c, fun _ => ⟨by omega, mx_uV (b_X12_runsJobs 320 _ (ih.jbs 0 (by omega) (d - 1) g h x x1 s js G V P Z n0 m0 hx1 (hb.1 ⟨c0, rfl⟩) (hz.to (c2 := cJbs 0) (show (7 : Nat) ≠ 6 by decide) trivial (show (11 : Nat) ≠ 7 by decide)) p)) fun h1 ps => Or.inl ⟨_, rfl, ps.aft⟩⟩⟩
  · rw [if_neg (fun q => c0 q.1)] at hx
    by_cases c1 : as.length = 1
    · rw [if_neg (fun q => q c1)] at hx
      simp only [] at hx
      refine ⟨fun c => absurd c (by rw [c1]; decide), fun _ => ⟨fun _ => b_X12_waits_21 320 _ _ ⟨sr_k sr, ?_⟩, fun c => absurd c (by rw [c1]; decide)⟩⟩
      rw [ra.1]
      refine ⟨fun _ => ⟨by omega, ?_⟩, fun c => absurd c (by rw [c1]; decide)⟩
      obtain ⟨b0, rb0⟩ := ra.at h30 hl (k := 0) (by omega)
      have e0 : as.getD 0 [] = as[0]'(by omega) := gd_at (by omega)
      have hb2 := hb.2 (fun q => c0 q.1) c1
      rw [e0] at hx hb2
      have l8 : x.2.2.2.length ≤ 8 := r.own.2.2.2.2.1
      have ljs : js.length = x.2.2.2.length := r.own.2.2.2.2.2.1
      have e49 : hpI h 354 (83 * s + 49) = nI x.2.2.2.length := r.own.2.2.2.1
      refine mx_xKI2 (k_X12_numberAt (by omega) sr rb0) ?_
      by_cases cn : nuL (as[0]'(by omega)) = -1
      · rw [if_pos cn] at hx
        cases hx
        exact ⟨fun c => absurd cn c, fun _ => Or.inl ⟨_, rfl, two rfl⟩⟩
      · rw [if_neg cn] at hx
        refine ⟨fun _ => ⟨sr_k sr, mx_xKI2 (k_X12_of (j := 49) sr (by omega)) ?_⟩, fun c => absurd c cn⟩
        rw [e49]
        refine mx_xKI2 k_X12_in ?_
        by_cases cr : nuL (as[0]'(by omega)) < 1 ∨ nI (xj x).length < nuL (as[0]'(by omega))
        · rw [if_pos cr] at hx
          cases hx
          have : ¬ ((1 : Int32) ≤ nuL (as[0]'(by omega)) ∧ nuL (as[0]'(by omega)) ≤ nI x.2.2.2.length) := fun q => cr.elim (fun e => absurd e (Int32.not_lt.mpr q.1)) fun e => absurd e (Int32.not_lt.mpr q.2)
          rw [if_neg this]
          exact ⟨fun _ => Or.inl ⟨_, rfl, n127 rfl⟩, fun c => absurd rfl c⟩
        · rw [if_neg cr] at hx
          have inn : (1 : Int32) ≤ nuL (as[0]'(by omega)) ∧ nuL (as[0]'(by omega)) ≤ nI x.2.2.2.length := ⟨Int32.not_lt.mp fun q => cr (Or.inl q), Int32.not_lt.mp fun q => cr (Or.inr q)⟩
          rw [if_pos inn]
          have hb3 := hb2 cn cr
          obtain ⟨j1, hj1, ej⟩ : ∃ j1, j1 < 100000 ∧ nuL (as[0]'(by omega)) = nI j1 := (nuL_nI _).resolve_left cn
          rw [ej] at hx inn hb3 ⊢
          rw [nI_clamp (by omega)] at hx hb3
          have b1 : 1 ≤ j1 := (nI_leI (a := 1) (b := j1) (by omega) (by omega)).mp inn.1
          have b2 : j1 ≤ x.2.2.2.length := (nI_leI (a := j1) (by omega) (by omega)).mp inn.2
          obtain ⟨j, rfl⟩ : ∃ j, j1 = j + 1 := ⟨j1 - 1, by omega⟩
          rw [Nat.add_sub_cancel] at hx hb3
          have lt : j < x.2.2.2.length := by omega
          have ejb : jbAt x j = x.2.2.2[j] := by unfold jbAt; exact gd_at lt
          obtain ⟨y1', y2', y3', y4', y5'⟩ := r.own.2.2.2.2.2.2 j lt (by omega)
          have e4 : (4 : Int32) * nI (j + 1) = nI (4 * (j + 1)) := pk_mul 4 (j + 1)
          have e50 : ((50 : Int32) + 4 * nI (j + 1)) - 4 = nI (50 + 4 * j) := by
            rw [e4, show (50 : Int32) + nI (4 * (j + 1)) = nI (50 + 4 * (j + 1)) from nI_add 50 _, show nI (50 + 4 * (j + 1)) - 4 = nI (50 + 4 * (j + 1) - 4) from pk_sub (b := 4) (by omega)]
            exact congrArg nI (by omega)
          have e51 : ((50 : Int32) + 4 * nI (j + 1)) - 3 = nI (51 + 4 * j) := by
            rw [e4, show (50 : Int32) + nI (4 * (j + 1)) = nI (50 + 4 * (j + 1)) from nI_add 50 _, show nI (50 + 4 * (j + 1)) - 3 = nI (50 + 4 * (j + 1) - 3) from pk_sub (b := 3) (by omega)]
            exact congrArg nI (by omega)
          have ej1 : nI (j + 1) - 1 = nI j := by
            rw [show nI (j + 1) - 1 = nI (j + 1 - 1) from pk_sub (b := 1) (by omega)]; rfl
          have f50 : hpI h 354 (83 * s + (50 + 4 * j)) = nI x.2.2.2[j].1 := y1'
          refine ⟨fun c => absurd c (by decide), fun _ => ⟨sr_k sr, ?_⟩⟩
          rw [e50]
          refine mx_xKI2 (k_X12_of sr (by omega)) ?_
          rw [f50]
          rw [ejb] at hx hb3
          by_cases cz : x.2.2.2[j].1 = 0
          · rw [if_neg (fun q => q cz)] at hx
            obtain ⟨x1, hx1, h2⟩ := Option.bind_eq_some_iff.mp hx
            cases h2
            have hz1 : Hz T nn (cJob j (if fg = true then (if fG (xf x) = true then 1 else 0) else 1)) x := hz.to (c2 := cJob _ _) (show (7 : Nat) ≠ 6 by decide) ⟨lt, by rw [ejb]; exact cz⟩ (show (12 : Nat) ≠ 7 by decide)
            obtain ⟨qj, qj1, -⟩ := job_sh hx1
            have lj1 : j < x1.2.2.2.length := by
              have : x1.2.2.2 = x.2.2.2.set j qj := qj1
              rw [this, List.length_set]; exact lt
            have ej2 : jbAt x1 j = x1.2.2.2[j] := by unfold jbAt; exact gd_at lj1
            have fin : ∀ h2, Pst h0 x1 s G V P Z n0 m0 h2 → SR h2 ∧ hpI h2 354 (83 * s + (51 + 4 * j)) = (jbAt x1 j).2.1 := by
              intro h2 ps
              rw [ej2]
              rcases ps with ⟨-, js1, r1⟩ | ⟨-, js1, r1⟩
              · exact ⟨r1.sr, (r1.own.2.2.2.2.2.2 j lj1 (by have := r1.own.2.2.2.2.2.1; omega)).2.2.1⟩
              · exact ⟨r1.sr, (r1.own.2.2.2.2.2.2 j lj1 (by have := r1.own.2.2.2.2.2.1; omega)).2.2.1⟩
            have e35 : hpI h 354 (83 * s + 35) = if fG x.2.1 = true then 1 else 0 := r.own.2.1.2.2.2.2.2.2.1
            refine ⟨fun _ => ?_, fun c => absurd (by rw [cz]; rfl) c⟩
            rw [ej1]
            cases fg with
            | false =>
              refine ⟨fun _ => ⟨sr_k sr, mx_uV (ih.job j 1 (Or.inr rfl) (d - 1) g h x x1 s js G V P Z n0 m0 hx1 (hb3 cz) hz1 (Or.inr (show 10 ≤ 12 by decide)) p) fun h2 ps => ?_⟩, fun c => absurd rfl c⟩
              obtain ⟨s2, f2⟩ := fin h2 ps
              refine ⟨sr_k s2, ?_⟩
              rw [e51]
              refine mx_xKI2 (k_X12_of s2 (by omega)) (Or.inl ⟨_, rfl, ?_⟩)
              rw [f2]
              exact ps.aft
            | true =>
              refine ⟨fun c => absurd c (by decide), fun _ => ⟨sr_k sr, mx_xKI2 (k_X12_of (j := 35) sr (by omega)) ⟨sr_k sr, ?_⟩⟩⟩
              rw [e35]
              refine mx_uV (ih.job j (if fG x.2.1 = true then 1 else 0) (by split; exact Or.inr rfl; exact Or.inl rfl) (d - 1) g h x x1 s js G V P Z n0 m0 hx1 (hb3 cz) hz1 (Or.inr (show 10 ≤ 12 by decide)) p) fun h2 ps => ?_
              obtain ⟨s2, f2⟩ := fin h2 ps
              refine ⟨sr_k s2, ?_⟩
              rw [e51]
              refine mx_xKI2 (k_X12_of s2 (by omega)) (Or.inl ⟨_, rfl, ?_⟩)
              rw [f2]
              exact ps.aft
          · rw [if_pos cz] at hx
            cases hx
            have h2' : x.2.2.2[j].1 ≤ 2 := y2'
            exact ⟨fun c => absurd ((nI_eq (b := 0) (by omega) (by omega)).mp c) cz, fun _ => Or.inl ⟨_, rfl, n127 rfl⟩⟩
    · rw [if_pos c1] at hx
      cases hx
      exact ⟨fun _ => Or.inl ⟨_, rfl, two rfl⟩, fun c => absurd (nI_lt (a := 1) (b := as.length) (by omega) (by omega)) c⟩
end MXR8
