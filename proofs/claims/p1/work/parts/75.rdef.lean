/-! THE REFERENCE: an assignment, a definition, a record -/
section MXDF
variable {d : Nat} {h0 h : mxH} {w : spW} {G : List spE} {V : List (Option (Option Nat))} {P : List spX} {N : spN} {n m xs : Nat} {Q : mxRes → mxH → Prop} {Z : List (Int32 × Nat)} {s : Nat} {S : spS} {js : List Nat}
theorem hpI_sLx {a k : Nat} {v : Int64} : hpI (hsL h a k v) = hpI h := rfl
theorem k_X12_assignsArgument (hd : 16 ≤ d) (r : RG h0 h w ((s, S, js) :: G) V P ([], [], Z) n m xs) (hn : n < 4399) (hst : ∃ k, k < 1000 ∧ fS S.1 = nI k) {cm : Int32} (hcm : ∃ i, cm = nI i ∧ i < 3000)
    (hc : chE (rtabs h) 3000 (tA (rtabs h) cm)) (hf : ∀ a ∈ chn (rtabs h) 3000 (tA (rtabs h) cm), tK (rtabs h) a = 11 → fitW 13 (tM (rtabs h) a)) (hl : (chn (rtabs h) 3000 (tA (rtabs h) cm)).length = 1) :
    mx_SM mY_X12_assignsArgument d [.ref 320, .int (nI s), .int cm] h (mx_KV (fun h1 => RG h0 h1 (opAsgn (tM (rtabs h) cm) (((argsOf (rtabs h) cm).map (evA S.1)).getD 0 []) w S.1).2.1
      ((s, (vS (opAsgn (tM (rtabs h) cm) (((argsOf (rtabs h) cm).map (evA S.1)).getD 0 []) w S.1).2.2 (opAsgn (tM (rtabs h) cm) (((argsOf (rtabs h) cm).map (evA S.1)).getD 0 []) w S.1).1, S.2), js) :: G) V P ([], [], Z) (n + 1) m xs) fun _ _ => False) := by
  have sr := r.sr
  have hs := r.own.1
  refine b_X12_assignsArgument 320 _ _ ⟨by omega, sr_k sr, mx_uV (k_X12_evaluatesAll (by omega) r hst hcm hc hf (by omega)) fun h1 q => ?_⟩
  obtain ⟨q1, ra, q3, q4⟩ := q
  have la : ((argsOf (rtabs h) cm).map (evA S.1)).length = 1 := by rw [argsOf, List.length_map, List.length_map]; exact hl
  obtain ⟨a1, ea⟩ : ∃ a1, (argsOf (rtabs h) cm).map (evA S.1) = [a1] := List.length_eq_one_iff.mp la
  rw [ea] at ra q3 ⊢
  have fl : [a1].flatten = a1 := by simp
  have tx : ∀ i (hi : i < a1.length), hpI h1 357 i = a1[i] ∧ isB a1[i] := by
    have g : ∀ L : spL, [a1].flatten = L → ∀ i (hi : i < L.length), hpI h1 357 i = L[i] ∧ isB L[i] := by
      rintro _ rfl i hi; exact ra.2.2.1 i hi
    exact g a1 fl
  rw [fl] at q3
  have l80 : a1.length ≤ 80 := by simpa using q3
  have h9 : hpI h1 359 0 = nI a1.length := (ra.2.2.2 0 (by simp)).2
  have r1 := r.sa q1
  have s1 := r1.sr
  obtain ⟨i, rfl, hi⟩ := hcm
  have vin : vp_in (nI i) 3000 := vp_in_nI hi (by omega)
  have eM : ∀ h2, rtabs h2 = rtabs h → hpL h2 330 (nI i).toNatClampNeg = tM (rtabs h) (nI i) := fun h2 e => by rw [← e]; rfl
  refine ⟨sr_k s1, 330, sr_r40 s1, sr_k330 s1, by rw [sr_z330 s1]; exact vin, mx_xKI2 (k_X12_variableOf (by omega) r1) ?_⟩
  rw [eM h1 q1.rt]
  show (¬ ixI (tbF (fV S.1) (tM (rtabs h) (nI i))) = -1 → _) ∧ _
  have e1 : ([a1] : List spL).getD 0 [] = a1 := rfl
  rw [e1]
  generalize tM (rtabs h) (nI i) = nm at eM ⊢
  have k69 : ∀ h2 f1 (b : Bool), RG h0 h2 w ((s, (f1, S.2), js) :: G) V P ([], [], Z) (n + 1) m xs → opAsgn nm a1 w S.1 = (if b = true then 0 else 1, uM w (wM w + 1), f1) →
      mx_SX mY_X12_assignsArgument d 69 [(0, .ref 320), (1, .int (nI s)), (3, .int (if b = true then 1 else 0))] [] h2 (mx_KV (fun h1 => RG h0 h1 (opAsgn nm a1 w S.1).2.1 ((s, (vS (opAsgn nm a1 w S.1).2.2 (opAsgn nm a1 w S.1).1, S.2), js) :: G) V P ([], [], Z) (n + 1) m xs) fun _ _ => False) := fun h2 f1 b r2 e => by
    rw [e]
    cases b with
    | true => exact b_X12_assignsArgument_69 320 _ _ ⟨fun c => absurd c (by decide), fun _ => ⟨by omega, sr_k r2.sr, mx_xKV (k_X12_sets (j := 33) r2.sr (by omega)) (Or.inl ⟨rfl, (r2.st (v := 0)).uM⟩)⟩⟩
    | false => exact b_X12_assignsArgument_69 320 _ _ ⟨fun _ => ⟨by omega, sr_k r2.sr, mx_xKV (k_X12_sets (j := 33) r2.sr (by omega)) (Or.inl ⟨rfl, (r2.st (v := 1)).uM⟩)⟩, fun c => absurd rfl c⟩
  have k32 : mx_SX mY_X12_assignsArgument d 32 [(0, .ref 320), (1, .int (nI s)), (2, .int (nI i))] [] h1 (mx_KV (fun h1 => RG h0 h1 (opAsgn nm a1 w S.1).2.1 ((s, (vS (opAsgn nm a1 w S.1).2.2 (opAsgn nm a1 w S.1).1, S.2), js) :: G) V P ([], [], Z) (n + 1) m xs) fun _ _ => False) := by
    refine b_X12_assignsArgument_32 320 _ _ ⟨fun c => absurd c (by decide), fun _ => ⟨sr_k s1, 330, sr_r40 s1, sr_k330 s1, by rw [sr_z330 s1]; exact vin, 357, sr_r74 s1, 359, sr_r76 s1, sr_k359 s1, by rw [sr_z359 s1]; exact vp_in_nI (n := 0) (by omega) (by omega), by omega, ?_⟩⟩
    rw [eM h1 q1.rt, cl0, h9]
    refine mx_uI (k_X12_lineOf (p := 0) (c := a1.length) (by omega) r1 hn (Or.inr (Or.inl rfl)) (by omega) (by show 0 + _ ≤ 30000; omega) (fun j hj => by rw [Nat.zero_add]; rw [(tx j (by omega)).1]; exact (tx j (by omega)).2)) fun v h2 r2 => ?_
    have el : srcL h1 357 0 (min 80 a1.length) = a1.take 80 := by
      apply List.ext_getElem
      · simp
      · intro j g1 g2
        rw [srcL_at]
        rw [List.length_take] at g2
        rw [Nat.zero_add, List.getElem_take]
        exact (tx j (by omega)).1
    rw [el] at r2
    refine ⟨sr_k r2.sr, mx_uI (k_X12_assigns (by omega) r2 List.mem_cons_self) fun b h3 g => ?_⟩
    have eo : opAsgn nm a1 w S.1 = match asgn S.1 nm (a1.take 80) with
      | none => (1, uM w (wM w + 1), S.1)
      | some f1 => (0, uM w (wM w + 1), f1) := rfl
    revert g eo
    cases asgn S.1 nm (a1.take 80) with
    | none => rintro ⟨rfl, g⟩ eo; exact k69 h3 S.1 false (g.drop (fun _ h => absurd h List.not_mem_nil) (fun _ h => h) (fun _ h => h)) eo
    | some f1 => rintro ⟨rfl, g⟩ eo; exact k69 h3 f1 true (g.drop (fun _ h => absurd h List.not_mem_nil) (fun _ h => h) (fun _ h => h)) eo
  have h20 : (fV S.1).length ≤ 20 := r1.own.2.1.1.2.1
  have h0' : hpI h1 354 (83 * s + 0) = nI (fV S.1).length := r1.own.2.1.1.1
  refine ⟨fun _ => k32, fun c => ⟨sr_k s1, mx_xKI2 (k_X12_of (j := 0) s1 (by omega)) ?_⟩⟩
  rw [h0']
  refine ⟨fun c2 => ⟨fun _ => ?_, fun c3 => absurd rfl c3⟩, fun _ => k32⟩
  have c2' : 20 ≤ (fV S.1).length := (nI_leI (a := 20) (by omega) (by omega)).mp c2
  refine k69 h1 S.1 false (r1.up (by omega) (Nat.le_refl _)) ?_
  have tn : tbF (fV S.1) nm = none := by
    cases e : tbF (fV S.1) nm with
    | none => rfl
    | some j =>
      rw [e] at c
      obtain ⟨hj, -⟩ := tbF_at e
      exact absurd c (ixI_some (by omega))
  show (match asgn S.1 nm (a1.take 80) with
      | none => ((1 : Int32), uM w (wM w + 1), S.1)
      | some f1 => (0, uM w (wM w + 1), f1)) = _
  unfold asgn
  rw [tn, if_pos c2']
  rfl
theorem k_X12_defines (hd : 2 ≤ d) (r : RG h0 h w ((s, S, js) :: G) V P N n m xs) {cm : Int32} (hcm : ∃ i, cm = nI i ∧ i < 3000) :
    mx_SM mY_X12_defines d [.ref 320, .int (nI s), .int cm] h (mx_KI (fun b h1 => (b = 0 ∧ tbF (fU S.1) (tM (rtabs h) cm) = none ∧ 10 ≤ (fU S.1).length ∧ RG h0 h1 w ((s, S, js) :: G) V P N n m xs) ∨
      (b = 1 ∧ (tbF (fU S.1) (tM (rtabs h) cm) = none → (fU S.1).length < 10) ∧ RG h0 h1 w ((s, (vU S.1 (tbP (fU S.1) (tM (rtabs h) cm) (tA (rtabs h) cm)), S.2), js) :: G) V P N n m xs)) fun _ _ => False) := by
  obtain ⟨hs, rf, rj⟩ := r.own
  have sr := r.sr
  have h10 : (fU S.1).length ≤ 10 := rf.2.1.2.1
  have h0' : hpI h 354 (83 * s + 21) = nI (fU S.1).length := rf.2.1.1
  obtain ⟨i, rfl, hi⟩ := hcm
  have vin : vp_in (nI i) 3000 := vp_in_nI hi (by omega)
  have eM : hpL h 330 (nI i).toNatClampNeg = tM (rtabs h) (nI i) := rfl
  have eA : hpI h 324 (nI i).toNatClampNeg = tA (rtabs h) (nI i) := rfl
  refine b_X12_defines 320 _ _ ⟨sr_k sr, 330, sr_r40 sr, sr_k330 sr, by rw [sr_z330 sr]; exact vin, by omega, mx_xKI2 (k_X12_functionOf (by omega) r) ?_⟩
  rw [eM]
  generalize tM (rtabs h) (nI i) = nm at eM ⊢
  generalize tA (rtabs h) (nI i) = va at eA ⊢
  unfold tbP
  cases e : tbF (fU S.1) nm with
  | some j =>
    obtain ⟨hj, hk⟩ := tbF_at e
    refine ⟨fun _ => b_X12_defines_31 320 _ _ _ ⟨fun _ => b_X12_defines_69 320 _ _ _ ⟨sr_k sr, 324, sr_r34 sr, sr_k324 sr, by rw [sr_z324 sr]; exact vin, by omega, ?_⟩, fun c => absurd c (ixI_some (by omega))⟩, fun c => absurd c (ixI_some (by omega))⟩
    rw [show (22 : Int32) + ixI (some j) = nI (22 + j) from nI_add 22 j, eA]
    exact mx_xKV (k_X12_sets sr (by omega)) (Or.inl ⟨_, rfl, Or.inr ⟨rfl, (fun q => by cases q), r.uset hj hk⟩⟩)
  | none =>
    refine ⟨fun c => absurd rfl c, fun _ => ⟨sr_k sr, mx_xKI2 (k_X12_of (j := 21) sr (by omega)) ?_⟩⟩
    rw [h0']
    refine ⟨fun c => ?_, fun c => ?_⟩
    · have lt : (fU S.1).length < 10 := by
        rcases Nat.lt_or_ge (fU S.1).length 10 with g | g
        · exact g
        · have : (fU S.1).length = 10 := by omega
          rw [this] at c; exact absurd rfl c
      refine b_X12_defines_31 320 _ _ _ ⟨fun c => absurd rfl c, fun _ => ⟨by omega, sr_k sr, mx_xKI2 (k_X12_of (j := 21) sr (by omega)) ⟨sr_k sr, ?_⟩⟩⟩
      rw [h0', nI_1]
      have s2 : SR (hsI h 354 (83 * s + 21) (nI ((fU S.1).length + 1))) := sr
      refine mx_xKV (k_X12_sets (j := 21) sr (by omega)) ⟨sr_k sr, 330, sr_r40 s2, sr_k330 s2, by rw [sr_z330 s2]; exact vin, ?_⟩
      rw [show hpL (hsI h 354 (83 * s + 21) (nI ((fU S.1).length + 1))) 330 (nI i).toNatClampNeg = nm from eM, show (20 : Int32) + nI (fU S.1).length = nI (20 + (fU S.1).length) from nI_add 20 _]
      refine mx_xKV (k_X12_setsName s2 (by omega)) ?_
      have s3 : SR (hsL (hsI h 354 (83 * s + 21) (nI ((fU S.1).length + 1))) 355 (34 * s + (20 + (fU S.1).length)) nm) := SR.sL sr (by decide)
      refine b_X12_defines_69 320 _ _ _ ⟨sr_k s3, 324, sr_r34 s3, sr_k324 s3, by rw [sr_z324 s3]; exact vin, by omega, ?_⟩
      rw [show (22 : Int32) + nI (fU S.1).length = nI (22 + (fU S.1).length) from nI_add 22 _, show hpI (hsL (hsI h 354 (83 * s + 21) (nI ((fU S.1).length + 1))) 355 (34 * s + (20 + (fU S.1).length)) nm) 324 (nI i).toNatClampNeg = va by rw [← eA, hpI_sLx, hpI_sIo (by decide)]]
      exact mx_xKV (k_X12_sets s3 (by omega)) (Or.inl ⟨_, rfl, Or.inr ⟨rfl, fun _ => lt, r.unew lt⟩⟩)
    · have : (fU S.1).length = 10 := (nI_eq (b := 10) (by omega) (by omega)).mp c
      exact Or.inl ⟨_, rfl, Or.inl ⟨rfl, rfl, by omega, r⟩⟩
/-- the row told -/
theorem RG.tell (r : RG h0 h w G V P N n m xs) {t : List (Int32 × Int32 × Int32)} {b k mm : Nat} {x : Bool} {f : Nat → Int32} (ht : RT f (wO w, wU w, wF w, wI w, wP w, t, b, k, mm, x)) :
    RG h0 (hrI h 356 f) (wO w, wU w, wF w, wI w, wP w, t, b, k, mm, x) G V P N n m xs := by
  obtain ⟨A, B, Qs, fr, sr, hw, -, ho, hp, he, hv, hk, hc, hd, hz, hN⟩ := r
  refine ⟨A, B, Qs, fr.rI rfl, sr, ?_⟩
  have I : ∀ a, a ≠ 356 → hpI (hrI h 356 f) a = hpI h a := fun a ha => by rw [hpI_rI, if_neg ha]
  rw [show RLn (hrI h 356 f) = RLn h by show RLr _ _ _ = _; rw [I 339 (by decide), I 340 (by decide), I 341 (by decide)], I 342 (by decide), I 344 (by decide), I 345 (by decide), I 346 (by decide), I 347 (by decide), I 348 (by decide), I 349 (by decide), I 350 (by decide), I 351 (by decide), I 354 (by decide), I 352 (by decide), I 361 (by decide), I 320 (by decide), hpI_rIs]
  exact ⟨hw, ht, ho, hp, he, hv, hk, hc, hd, hz, hN⟩
theorem rc_13 (sr : SR h) {x1 x2 : Int32} : ∀ q k t, k + q = 181 → 4 ≤ k → (∀ j, j < 4 → t j = hpI h 356 j) → (∀ j, 4 ≤ j → j < k → t j = hpI h 356 (j + 3)) → (∀ j, k ≤ j → t j = hpI h 356 j) →
    (∀ t, (∀ j, j < 3 → t j = hpI h 356 j) → t 3 = hpI h 356 3 - 1 → (∀ j, 4 ≤ j → j < 181 → t j = hpI h 356 (j + 3)) → mx_SX mY_X12_records d 50 [(0, .ref 320), (1, .int x1), (2, .int x2)] [] (hrI h 356 t) Q) →
    mx_SX mY_X12_records d 13 [(0, .ref 320), (1, .int x1), (2, .int x2), (3, .int (nI k))] [] (hrI h 356 t) Q := by
  intro q
  induction q with
  | zero =>
    intro k t hk k4 h1 h2 h3 K
    have e : k = 181 := by omega
    subst e
    refine b_X12_records_13 320 _ _ _ ⟨fun _ => ⟨sr_k sr, 356, sr_r73 sr, sr_k356 sr, by rw [hpZ_rI, sr_z356 sr]; exact vp_in_nI (n := 3) (by omega) (by omega), ?_⟩, fun c => absurd (nI_le (a := 181) (b := 181) (by omega) (by omega)) c⟩
    rw [hpI_rIs, hsI_hrI]
    rintro _ rfl
    have e3 : (3 : Int32).toNatClampNeg = 3 := by decide
    rw [e3]
    refine K _ (fun j hj => by rw [fup_n (by omega)]; exact h1 j (by omega)) (by rw [fup_e, h1 3 (by omega)]) fun j j1 j2 => by rw [fup_n (by omega)]; exact h2 j j1 j2
  | succ q ih =>
    intro k t hk k4 h1 h2 h3 K
    refine b_X12_records_13 320 _ _ _ ⟨fun c => absurd c (nI_ge (b := 181) (by omega) (by omega)), fun _ => ⟨sr_k sr, 356, sr_r73 sr, sr_k356 sr, by rw [hpZ_rI, sr_z356 sr, show nI k + 3 = nI (k + 3) from nI_add k 3]; exact vp_in_nI (by omega) (by omega), by rw [hpZ_rI, sr_z356 sr]; exact vp_in_nI (by omega) (by omega), ?_⟩⟩
    rw [hpI_rIs, hsI_hrI, show nI k + 3 = nI (k + 3) from nI_add k 3, nI_clamp (by omega), nI_clamp (by omega)]
    rintro _ rfl
    rw [nI_1]
    refine ih (k + 1) _ (by omega) (by omega) (fun j hj => by rw [fup_n (by omega)]; exact h1 j hj) (fun j j1 j2 => ?_) (fun j hj => by rw [fup_n (by omega)]; exact h3 j (by omega)) K
    by_cases e : j = k
    · subst e; rw [fup_e]; exact h3 (j + 3) (by omega)
    · rw [fup_n e]; exact h2 j j1 (by omega)
theorem k_X12_statusOf_raw (hd : 1 ≤ d) (sr : SR h) {s : Nat} (hs : s < 1000) : mx_SM mY_X12_statusOf d [.ref 320, .int (nI s)] h (mx_xct (.inl (some (.int (hpI h 354 (83 * s + 33))))) h) :=
  b_X12_statusOf 320 _ ⟨hd, sr_k sr, mx_xKI2 (k_X12_of (j := 33) sr (by omega)) ⟨rfl, rfl⟩⟩
theorem rc_50 (hd : 2 ≤ d) (sr : SR h) {s c i : Nat} (hs : s < 1000) (hi : i < 3000) (hc : c < 60) {t : Nat → Int32} (ht : t 3 = nI c) (K : Q (.inl none) (hrI h 356 (fup (fup (fup (fup t (4 + 3 * c) (hpI h 329 i)) (5 + 3 * c) (hpI h 354 (83 * s + 33))) (6 + 3 * c) (hpI h 354 (83 * s + 34))) 3 (nI (c + 1))))) :
    mx_SX mY_X12_records d 50 [(0, .ref 320), (1, .int (nI s)), (2, .int (nI i))] [] (hrI h 356 t) Q := by
  have e3 : (3 : Int32).toNatClampNeg = 3 := by decide
  have z3 : vp_in (3 : Int32) 184 := vp_in_nI (n := 3) (by omega) (by omega)
  refine b_X12_records_50 320 _ _ ⟨sr_k sr, 356, sr_r73 sr, sr_k356 sr, by rw [hpZ_rI, sr_z356 sr]; exact z3, 329, sr_r39 sr, sr_k329 sr, by rw [hpZ_rI, sr_z329 sr]; exact vp_in_nI hi (by omega), ?_⟩
  rw [hpI_rIs, e3, ht, show (4 : Int32) + 3 * nI c = nI (4 + 3 * c) by rw [show (3 : Int32) * nI c = nI (3 * c) from pk_mul 3 c]; exact nI_add 4 _, hpI_rI, if_neg (by decide), nI_clamp (n := i) (by omega)]
  refine ⟨by rw [hpZ_rI, sr_z356 sr]; exact vp_in_nI (by omega) (by omega), ?_⟩
  rw [hsI_hrI, nI_clamp (n := 4 + 3 * c) (by omega)]
  rintro _ rfl
  have sg : ∀ t, SR (hrI h 356 t) := fun t => sr
  refine ⟨356, sr_r73 (sg _), by omega, mx_xKI2 (k_X12_statusOf_raw (by omega) (sg _) hs) ⟨sr_k356 (sg _), ?_⟩⟩
  rw [hpI_rI, if_neg (by decide), show nI (4 + 3 * c) + 1 = nI (5 + 3 * c) from (nI_1 _).trans (congrArg nI (by omega)), nI_clamp (n := 5 + 3 * c) (by omega), hsI_hrI]
  refine ⟨by rw [hpZ_rI, sr_z356 sr]; exact vp_in_nI (by omega) (by omega), ?_⟩
  rintro _ rfl
  refine ⟨sr_k (sg _), 356, sr_r73 (sg _), mx_xKI2 (k_X12_of (j := 34) (sg _) (by omega)) ⟨sr_k356 (sg _), ?_⟩⟩
  rw [hpI_rI, if_neg (by decide), show nI (4 + 3 * c) + 2 = nI (6 + 3 * c) from (nI_add _ 2).trans (congrArg nI (by omega)), nI_clamp (n := 6 + 3 * c) (by omega), hsI_hrI]
  refine ⟨by rw [hpZ_rI, sr_z356 sr]; exact vp_in_nI (by omega) (by omega), ?_⟩
  rintro _ rfl
  refine ⟨sr_k (sg _), 356, sr_r73 (sg _), sr_k356 (sg _), by rw [hpZ_rI, sr_z356 sr]; exact z3, ?_⟩
  rw [hpI_rIs, fup_n (by omega), fup_n (by omega), fup_n (by omega), ht, nI_1, hsI_hrI]
  rintro _ rfl
  exact K
theorem RT.rc {f : Nat → Int32} (r : RT f w) {t : Nat → Int32} {L : List (Int32 × Int32 × Int32)} {q : Int32 × Int32 × Int32} (h0 : ∀ j, j < 3 → t j = f j) (hc : L.length < 60) (hL : rec60 (wT w) q = L ++ [q]) (old : ∀ k (hk : k < L.length), t (4 + 3 * k) = L[k].1 ∧ t (5 + 3 * k) = L[k].2.1 ∧ t (6 + 3 * k) = L[k].2.2) :
    RT (fup (fup (fup (fup t (4 + 3 * L.length) q.1) (5 + 3 * L.length) q.2.1) (6 + 3 * L.length) q.2.2) 3 (nI (L.length + 1))) (uT w (rec60 (wT w) q)) := by
  obtain ⟨a1, a2, a3, a4, a5, a6, a7⟩ := r
  have e : rec60 (wT w) q = L ++ [q] := hL
  refine ⟨?_, a2, ?_, ?_, ?_, ?_, ?_⟩
  · rw [fup_n (by omega), fup_n (by omega), fup_n (by omega), fup_n (by omega), h0 0 (by omega)]; exact a1
  · rw [fup_n (by omega), fup_n (by omega), fup_n (by omega), fup_n (by omega), h0 1 (by omega)]; exact a3
  · rw [fup_n (by omega), fup_n (by omega), fup_n (by omega), fup_n (by omega), h0 2 (by omega)]; exact a4
  · rw [fup_e]; show _ = nI (rec60 (wT w) q).length; rw [e, List.length_append]; rfl
  · show (rec60 (wT w) q).length ≤ 60; rw [e, List.length_append]; simp; omega
  · show ∀ k (hk : k < (rec60 (wT w) q).length), _ = (rec60 (wT w) q)[k].1 ∧ _ = (rec60 (wT w) q)[k].2.1 ∧ _ = (rec60 (wT w) q)[k].2.2
    rw [e]
    intro k hk
    rw [List.length_append] at hk
    by_cases c : k < L.length
    · rw [List.getElem_append_left c]
      rw [fup_n (by omega), fup_n (by omega), fup_n (by omega), fup_n (by omega), fup_n (by omega), fup_n (by omega), fup_n (by omega), fup_n (by omega), fup_n (by omega), fup_n (by omega), fup_n (by omega), fup_n (by omega)]
      exact old k c
    · have ek : k = L.length := by simp at hk; omega
      subst ek
      rw [List.getElem_append_right (Nat.le_refl _)]
      refine ⟨?_, ?_, ?_⟩
      · rw [fup_n (by omega), fup_n (by omega), fup_n (by omega), fup_e]; simp
      · rw [fup_n (by omega), fup_n (by omega), fup_e]; simp
      · rw [fup_n (by omega), fup_e]; simp
theorem k_X12_records (hd : 2 ≤ d) (r : RG h0 h w ((s, S, js) :: G) V P N n m xs) {cm : Int32} (hcm : ∃ i, cm = nI i ∧ i < 3000) :
    mx_SM mY_X12_records d [.ref 320, .int (nI s), .int cm] h (mx_KV (fun h1 => RG h0 h1 (uT w (rec60 (wT w) (tO (rtabs h) cm, fS S.1, fD S.1))) ((s, S, js) :: G) V P N n m xs) fun _ _ => False) := by
  have sr := r.sr
  obtain ⟨hs, rf, rj⟩ := r.own
  obtain ⟨i, rfl, hi⟩ := hcm
  have ht := r.told
  obtain ⟨a1, a2, a3, a4, a5, a6, a7⟩ := id ht
  have e3 : (3 : Int32).toNatClampNeg = 3 := by decide
  have z3 : vp_in (3 : Int32) 184 := vp_in_nI (n := 3) (by omega) (by omega)
  have eO : hpI h 329 i = tO (rtabs h) (nI i) := by show _ = hpI h 329 (nI i).toNatClampNeg; rw [nI_clamp (by omega)]
  have eS : hpI h 354 (83 * s + 33) = fS S.1 := rf.2.2.2.2.1
  have eD : hpI h 354 (83 * s + 34) = fD S.1 := rf.2.2.2.2.2.1
  refine b_X12_records 320 _ _ ⟨sr_k sr, 356, sr_r73 sr, sr_k356 sr, by rw [sr_z356 sr]; exact z3, ?_⟩
  rw [e3, a5]
  refine ⟨fun c => ?_, fun c => ?_⟩
  · have c60 : (wT w).length ≠ 60 := fun e => c (by rw [e]; rfl)
    have lt : (wT w).length < 60 := by omega
    have := rc_50 (Q := mx_KV (fun h1 => RG h0 h1 (uT w (rec60 (wT w) (tO (rtabs h) (nI i), fS S.1, fD S.1))) ((s, S, js) :: G) V P N n m xs) fun _ _ => False) hd sr hs hi lt (t := hpI h 356) a5 (Or.inl ⟨rfl, r.tell ?_⟩)
    · rw [hrI_self] at this; exact this
    · rw [eO, eS, eD]
      exact ht.rc (L := wT w) (q := (tO (rtabs h) (nI i), fS S.1, fD S.1)) (fun _ _ => rfl) lt (if_neg c60) a7
  · have c60 : (wT w).length = 60 := (nI_eq (b := 60) (by omega) (by omega)).mp c
    have lt : (wT w).tail.length = 59 := by rw [List.length_tail, c60]
    have := rc_13 (d := d) (Q := mx_KV (fun h1 => RG h0 h1 (uT w (rec60 (wT w) (tO (rtabs h) (nI i), fS S.1, fD S.1))) ((s, S, js) :: G) V P N n m xs) fun _ _ => False) sr (x1 := nI s) (x2 := nI i) 177 4 (hpI h 356) (by omega) (by omega) (fun _ _ => rfl) (fun j j1 j2 => absurd j2 (by omega)) (fun _ _ => rfl) fun t t1 t2 t3 => ?_
    · rw [hrI_self] at this; exact this
    · have t2' : t 3 = nI (wT w).tail.length := by rw [t2, a5, c60, lt]; rfl
      refine rc_50 hd sr hs hi (by omega) t2' (Or.inl ⟨rfl, r.tell ?_⟩)
      rw [eO, eS, eD]
      refine ht.rc (L := (wT w).tail) (q := (tO (rtabs h) (nI i), fS S.1, fD S.1)) t1 (by omega) (if_pos c60) fun k hk => ?_
      have hk2 : k + 1 < (wT w).length := by omega
      have g : (wT w).tail[k] = (wT w)[k + 1] := List.getElem_tail ..
      obtain ⟨y1, y2, y3⟩ := a7 (k + 1) hk2
      rw [g, t3 _ (by omega) (by omega), t3 _ (by omega) (by omega), t3 _ (by omega) (by omega), show 4 + 3 * k + 3 = 4 + 3 * (k + 1) by omega, show 5 + 3 * k + 3 = 5 + 3 * (k + 1) by omega, show 6 + 3 * k + 3 = 6 + 3 * (k + 1) by omega]
      exact ⟨y1, y2, y3⟩
end MXDF
