/-! THE REFERENCE: the arguments of a command -/
section MXEV
variable {d : Nat} {h0 h : mxH} {w : spW} {G : List spE} {V : List (Option (Option Nat))} {P : List spX} {N : spN} {n m xs : Nat} {Q : mxRes → mxH → Prop}
/-- the rows of the arguments -/
def RA (h : mxH) (as : List spL) : Prop := hpI h 320 77 = nI as.length ∧ hpI h 320 78 = nI as.flatten.length ∧ (∀ i (hi : i < as.flatten.length), hpI h 357 i = as.flatten[i] ∧ isB as.flatten[i]) ∧ ∀ k (hk : k < as.length), hpI h 358 k = nI (as.take k).flatten.length ∧ hpI h 359 k = nI as[k].length
theorem Sa.rI {a : Nat} {t : Nat → Int32} (ha : a = 357 ∨ a = 358 ∨ a = 359 ∨ a = 360) : Sa h (hrI h a t) := ⟨⟨rfl, rfl, rfl, rfl, rfl, rfl, rfl⟩, fun b h1 h2 h3 h4 h5 => by rw [hpI_rI, if_neg (by omega)], fun j _ _ => by rw [hpI_rI, if_neg (by omega)]⟩
theorem Sa.rt {h' : mxH} (q : Sa h h') : rtabs h' = rtabs h := by
  obtain ⟨⟨a1, a2, a3, a4, a5, a6, a7⟩, a8, a9⟩ := q
  unfold rtabs
  rw [a7, a8 323 (by decide) (by decide) (by decide) (by decide) (by decide), a8 324 (by decide) (by decide) (by decide) (by decide) (by decide), a8 325 (by decide) (by decide) (by decide) (by decide) (by decide), a8 326 (by decide) (by decide) (by decide) (by decide) (by decide), a8 327 (by decide) (by decide) (by decide) (by decide) (by decide), a8 328 (by decide) (by decide) (by decide) (by decide) (by decide), a8 329 (by decide) (by decide) (by decide) (by decide) (by decide)]
theorem RA.snoc {as : List spL} (ra : RA h as) {l : spL} {h2 : mxH} (q : Say (hsI h 358 as.length (nI as.flatten.length)) as.flatten.length l h2) : RA (hsI (hsI h2 359 as.length (nI l.length)) 320 77 (nI (as.length + 1))) (as ++ [l]) := by
  obtain ⟨a1, a2, a3, a4⟩ := ra
  obtain ⟨q1, q2, q3, q4, q5, q6, q7⟩ := q
  have fl : (as ++ [l]).flatten = as.flatten ++ l := by simp
  refine ⟨?_, ?_, ?_, fun k hk => ?_⟩
  · rw [hpI_sIs, fup_e, List.length_append]; rfl
  · rw [hpI_sIs, fup_n (by decide), hpI_sIo (by decide), q4, fl, List.length_append]
  · have : ∀ L : spL, L = as.flatten ++ l → ∀ i (hi : i < L.length), hpI h2 357 i = L[i] ∧ isB L[i] := by
      rintro _ rfl i hi
      by_cases c : i < as.flatten.length
      · rw [List.getElem_append_left c, q2 i c, hpI_sIo (by decide)]; exact a3 i c
      · rw [List.length_append] at hi
        rw [List.getElem_append_right (by omega)]
        have := q3 (i - as.flatten.length) (by omega)
        rw [show as.flatten.length + (i - as.flatten.length) = i by omega] at this
        exact this
    rw [hpI_sIo (by decide), hpI_sIo (by decide)]
    exact this _ fl
  · by_cases c : k < as.length
    · rw [hpI_sIo (by decide), hpI_sIo (by decide), q5, hpI_sIs, fup_n (by omega), hpI_sIo (by decide), hpI_sIs, fup_n (by omega), q6, hpI_sIo (by decide), List.take_append_of_le_length (by omega), List.getElem_append_left c]
      exact a4 k c
    · have e : k = as.length := by rw [List.length_append] at hk; simp at hk; omega
      subst e
      rw [hpI_sIo (by decide), hpI_sIo (by decide), q5, hpI_sIs, fup_e, hpI_sIo (by decide), hpI_sIs, fup_e, List.take_append_of_le_length (Nat.le_refl _), List.take_length, List.getElem_append_right (Nat.le_refl _)]
      simp
theorem gd_at {α : Type} {l : List α} {i : Nat} {d : α} (h : i < l.length) : l.getD i d = l[i] := by rw [List.getD_eq_getElem?_getD, List.getElem?_eq_getElem h]; rfl
theorem RG.l0 (r : RG h0 h w G V P N n m xs) : RLn h 0 [] := by
  obtain ⟨A, B, Qs, -, -, -, -, -, -, -, -, -, -, -, hz, -⟩ := r
  exact hz.1
theorem ev_153 {as : List spL} {l : spL} {h2 : mxH} (s : SR h) (ra : RA h as) (hlen : as.length < 400) (q : Say (hsI h 358 as.length (nI as.flatten.length)) as.flatten.length l h2) (K : ∀ h', Sa h h' → RA h' (as ++ [l]) → Q (.inl none) h') : mx_SX mY_X12_evaluates d 153 [(0, .ref 320)] [] h2 Q := by
  have s2 : SR h2 := q.1.sr s
  have e1 : hpI h2 320 77 = nI as.length := by rw [q.2.2.2.2.2.2, hpI_sIo (by decide)]; exact ra.1
  have e2 : hpI h2 358 as.length = nI as.flatten.length := by rw [q.2.2.2.2.1, hpI_sIs, fup_e]
  refine b_X12_evaluates_153 320 ⟨sr_k s2, 359, sr_r76 s2, 358, sr_r75 s2, sr_k358 s2, ?_⟩
  rw [e1, nI_clamp (by omega), e2, q.2.2.2.1, pk_sub (by omega), show as.flatten.length + l.length - as.flatten.length = l.length by omega]
  refine ⟨by rw [sr_z358 s2]; exact vp_in_nI hlen (by omega), sr_k359 s2, by rw [sr_z359 s2]; exact vp_in_nI hlen (by omega), ?_⟩
  rintro _ rfl
  rw [hpI_sIo (by decide), e1, nI_1]
  rintro _ rfl
  exact K _ ((((Sa.sI (Or.inr (Or.inl rfl))).tr q.1).tr (Sa.sI (Or.inr (Or.inr (Or.inl rfl))))).tr (Sa.sF (Or.inl rfl))) (ra.snoc q)
theorem ev_94 (s : SR h) {e i0 : Nat} {l : spL} (hi : i0 < 4400) (hl : l.length ≤ 80) (h1 : hpI h 340 i0 = nI l.length) (h2 : ∀ k (hk : k < l.length), hpI h 339 (80 * i0 + k) = l[k] ∧ isB l[k]) (he : hpI h 320 78 = nI e) (he2 : e + 80 ≤ 30000)
    (K : ∀ h1, Say h e l h1 → mx_SX mY_X12_evaluates d 153 [(0, .ref 320)] [] h1 Q) : ∀ m i t, i + m = l.length → (∀ j, j < e → t j = hpI h 357 j) → (∀ j (hj : j < l.length), j < i → t (e + j) = l[j]) →
    mx_SX mY_X12_evaluates d 94 [(0, .ref 320), (4, .int (nI i0)), (5, .int (nI i))] [] (hrI h 357 t) Q := by
  intro m
  induction m with
  | zero =>
    intro i t hm t1 t2
    refine b_X12_evaluates_94 320 _ _ ⟨sr_k s, 340, sr_r53 s, sr_k340 s, ?_⟩
    rw [hpI_rI, if_neg (by decide), nI_clamp (by omega), h1]
    refine ⟨by rw [hpZ_rI, sr_z340 s]; exact vp_in_nI hi (by omega), fun _ => ?_, fun c => absurd (nI_le (by omega) (by omega)) c⟩
    rintro _ rfl
    rw [hpI_rI, if_neg (by decide), he, nI_add]
    refine K _ ⟨(Sa.rI (Or.inl rfl)).tr (Sa.sF (Or.inr rfl)), fun j hj => ?_, fun j hj => ?_, ?_, ?_, ?_, ?_⟩
    · rw [hpI_sIo (by decide), hpI_rIs]; exact t1 j hj
    · rw [hpI_sIo (by decide), hpI_rIs]; exact ⟨t2 j hj (by omega), (h2 j hj).2⟩
    · rw [hpI_sIs, fup_e]
    · rw [hpI_sIo (by decide), hpI_rI, if_neg (by decide)]
    · rw [hpI_sIo (by decide), hpI_rI, if_neg (by decide)]
    · rw [hpI_sIs, fup_n (by decide), hpI_rI, if_neg (by decide)]
  | succ m ih =>
    intro i t hm t1 t2
    refine b_X12_evaluates_94 320 _ _ ⟨sr_k s, 340, sr_r53 s, sr_k340 s, ?_⟩
    rw [hpI_rI, if_neg (by decide), nI_clamp (by omega), h1]
    refine ⟨by rw [hpZ_rI, sr_z340 s]; exact vp_in_nI hi (by omega), fun c => absurd c (nI_ge (by omega) (by omega)), fun _ => ⟨357, sr_r74 s, 339, sr_r52 s, sr_k339 s, ?_⟩⟩
    obtain ⟨g1, g2⟩ := h2 i (by omega)
    rw [hpI_rI, if_neg (by decide), hpI_rI, if_neg (by decide), he, show (80 : Int32) * nI i0 + nI i = nI (80 * i0 + i) by rw [nI_lit, pk_mul, nI_add], nI_add, nI_clamp (by omega), nI_clamp (by omega), g1, g2, hsI_hrI]
    refine ⟨by rw [hpZ_rI, sr_z339 s]; exact vp_in_nI (by omega) (by omega), sr_k357 s, by rw [hpZ_rI, sr_z357 s]; exact vp_in_nI (by omega) (by omega), ?_⟩
    rintro _ rfl
    rw [nI_1]
    refine ih (i + 1) _ (by omega) (fun j hj => by rw [fup_n (by omega)]; exact t1 j hj) fun j hj hj2 => ?_
    by_cases c : j = i
    · subst c; rw [fup_e]
    · rw [fup_n (by omega)]; exact t2 j hj (by omega)
theorem k_X12_evaluates (hd : 14 ≤ d) {s : Nat} {S : spS} {js : List Nat} (r : RG h0 h w ((s, S, js) :: G) V P N n m xs) {as : List spL} (ra : RA h as) {v : Int32} (hv : ∃ i, v = nI i ∧ i < 3000) (hfit : tK (rtabs h) v = 11 → fitW 13 (tM (rtabs h) v))
    (hst : ∃ k, k < 1000 ∧ fS S.1 = nI k) (htot : as.flatten.length + 80 ≤ 30000) (hlen : as.length < 400) :
    mx_SM mY_X12_evaluates d [.ref 320, .int (nI s), .int v] h (mx_KV (fun h1 => Sa h h1 ∧ RA h1 (as ++ [evA S.1 (dArg (rtabs h) v)]) ∧ (evA S.1 (dArg (rtabs h) v)).length ≤ 80) fun _ _ => False) := by
  have sr := r.sr
  have hs := r.own.1
  obtain ⟨i, rfl, hi⟩ := hv
  obtain ⟨k, hk, hk2⟩ := hst
  refine b_X12_evaluates 320 _ _ ⟨sr_k sr, 358, sr_r75 sr, sr_k358 sr, ?_⟩
  rw [ra.1, ra.2.1, sr_z358 sr, nI_clamp (n := as.length) (by omega)]
  refine ⟨vp_in_nI hlen (by omega), ?_⟩
  rintro _ rfl
  have sH : SR (hsI h 358 as.length (nI as.flatten.length)) := sr
  have rH := r.sa (Sa.sI (h := h) (a := 358) (k := as.length) (v := nI as.flatten.length) (Or.inr (Or.inl rfl)))
  have h78 : hpI (hsI h 358 as.length (nI as.flatten.length)) 320 78 = nI as.flatten.length := by rw [hpI_sIo (by decide)]; exact ra.2.1
  have vin : vp_in (nI i) 3000 := vp_in_nI hi (by omega)
  have eK : hpI (hsI h 358 as.length (nI as.flatten.length)) 323 (nI i).toNatClampNeg = tK (rtabs h) (nI i) := by rw [hpI_sIo (by decide)]; rfl
  have eM : hpL (hsI h 358 as.length (nI as.flatten.length)) 330 (nI i).toNatClampNeg = tM (rtabs h) (nI i) := rfl
  refine ⟨323, sr_r33 sH, sr_k323 sH, by rw [sr_z323 sH]; exact vin, ?_⟩
  rw [eK]
  unfold dArg
  refine ⟨fun c => ⟨fun c2 => ?_, fun c2 => ?_⟩, fun c => ?_⟩
  · rw [if_neg c, if_neg c2]
    have ee : evA S.1 (1, tM (rtabs h) (nI i)) = match tbF (fV S.1) (tM (rtabs h) (nI i)) with
      | none => []
      | some i => ((fV S.1).getD i (0, [])).2 := rfl
    refine ⟨330, sr_r40 sH, sr_k330 sH, by rw [sr_z330 sH]; exact vin, by omega, mx_xKI2 (k_X12_variableOf (by omega) rH) ?_⟩
    rw [eM]
    cases e : tbF (fV S.1) (tM (rtabs h) (nI i)) with
    | none =>
      rw [e] at ee
      refine ⟨fun c => absurd rfl c, fun _ => ?_⟩
      obtain ⟨i0, g1, g2, g3, g4, g5, g6⟩ := rH.l0
      have := ev_94 (d := d) (Q := mx_KV (fun h1 => Sa h h1 ∧ RA h1 (as ++ [evA S.1 (1, tM (rtabs h) (nI i))]) ∧ (evA S.1 (1, tM (rtabs h) (nI i))).length ≤ 80) fun _ _ => False) sH g2 g4 g5 g6 h78 htot (fun h2 q => ev_153 sr ra hlen q fun h' q1 q2 => Or.inl ⟨rfl, q1, by rw [ee]; exact q2, by rw [ee]; exact g4⟩) _ 0 (hpI (hsI h 358 as.length (nI as.flatten.length)) 357) (Nat.zero_add _) (fun _ _ => rfl) (fun _ _ q => absurd q (Nat.not_lt_zero _))
      rw [hrI_self, ← g1] at this
      exact this
    | some j =>
      rw [e] at ee
      obtain ⟨hj, -⟩ := tbF_at e
      have h20 : (fV S.1).length ≤ 20 := rH.own.2.1.1.2.1
      have ln := (rH.own.2.1.1.2.2 j hj).2
      refine ⟨fun _ => ⟨sr_k sH, ?_⟩, fun c => absurd c (ixI_some (by omega))⟩
      rw [show (1 : Int32) + ixI (some j) = nI (1 + j) from nI_add 1 j]
      refine mx_xKI2 (k_X12_of sH (by omega)) ?_
      obtain ⟨i0, g1, g2, g3, g4, g5, g6⟩ := ln
      have e2 : evA S.1 (1, tM (rtabs h) (nI i)) = (fV S.1)[j].2 := by rw [ee]; show ((fV S.1).getD j (0, [])).2 = _; rw [gd_at hj]
      have := ev_94 (d := d) (Q := mx_KV (fun h1 => Sa h h1 ∧ RA h1 (as ++ [evA S.1 (1, tM (rtabs h) (nI i))]) ∧ (evA S.1 (1, tM (rtabs h) (nI i))).length ≤ 80) fun _ _ => False) sH g2 g4 g5 g6 h78 htot (fun h2 q => ev_153 sr ra hlen q fun h' q1 q2 => Or.inl ⟨rfl, q1, by rw [e2]; exact q2, by rw [e2]; exact g4⟩) _ 0 (hpI (hsI h 358 as.length (nI as.flatten.length)) 357) (Nat.zero_add _) (fun _ _ => rfl) (fun _ _ q => absurd q (Nat.not_lt_zero _))
      rw [hrI_self, ← g1] at this
      exact this
  · rw [if_neg c, if_pos c2]
    refine ⟨by omega, mx_xKI2 (k_X12_statusOf (by omega) rH) ⟨sr_k sH, ?_⟩⟩
    rw [hk2]
    have ee : evA S.1 (2, 0) = digits 10 k := by
      show digits 10 (fS S.1).toNatClampNeg = _
      rw [hk2, nI_clamp (by omega)]
    rw [ee]
    have len := digits_len 10 k
    exact mx_uV (k_X12_saysNumber 10 _ (d - 1) as.flatten.length k sH (by omega) (by omega) (by omega) (by omega) h78 (by omega)) fun h2 q => ev_153 sr ra hlen q fun h' q1 q2 => Or.inl ⟨rfl, q1, q2, by omega⟩
  · rw [if_pos c]
    refine ⟨330, sr_r40 sH, sr_k330 sH, by rw [sr_z330 sH]; exact vin, by omega, ?_⟩
    rw [eM]
    have ee : evA S.1 (0, tM (rtabs h) (nI i)) = spell 13 (tM (rtabs h) (nI i)) := rfl
    rw [ee]
    have len := spell_len 13 (tM (rtabs h) (nI i))
    exact mx_uV (k_X12_saysWord 13 _ (d - 1) as.flatten.length _ sH (by omega) (hfit c) h78 (by omega)) fun h2 q => ev_153 sr ra hlen q fun h' q1 q2 => Or.inl ⟨rfl, q1, q2, by omega⟩
/-- a chain of nodes that ends -/
def chE (T : spT) : Nat → Int32 → Prop
  | 0, _ => False
  | k + 1, v => v = -1 ∨ ((∃ i, v = nI i ∧ i < 3000) ∧ chE T k (tN T v))
theorem ea_17 (hd : 15 ≤ d) {s : Nat} {S : spS} {js : List Nat} (hst : ∃ k, k < 1000 ∧ fS S.1 = nI k) {T : spT} : ∀ k (v : Int32) (h : mxH) (as : List spL), RG h0 h w ((s, S, js) :: G) V P N n m xs → RA h as → rtabs h = T → chE T k v → (∀ a ∈ chn T k v, tK T a = 11 → fitW 13 (tM T a)) → as.length + (chn T k v).length ≤ 350 → as.flatten.length ≤ 80 * as.length →
    (∀ h1, Sa h h1 → RA h1 (as ++ ((chn T k v).map (dArg T)).map (evA S.1)) → (as ++ ((chn T k v).map (dArg T)).map (evA S.1)).flatten.length ≤ 80 * (as ++ ((chn T k v).map (dArg T)).map (evA S.1)).length → Q (.inl none) h1) → mx_SX mY_X12_evaluatesAll d 17 [(0, .ref 320), (1, .int (nI s)), (3, .int v)] [] h Q := by
  intro k
  induction k with
  | zero => intro v h as _ _ _ hc; exact hc.elim
  | succ k ih =>
    intro v h as r ra hT hc hf hl ht K
    have sr := r.sr
    refine b_X12_evaluatesAll_17 320 _ _ ⟨fun c => ?_, fun c => ⟨by omega, sr_k sr, ?_⟩⟩
    · have e : chn T (k + 1) v = [] := by unfold chn; rw [if_pos c]
      rw [e] at K
      exact K h Sa.rf (by simpa using ra) (by simpa using ht)
    · have e : chn T (k + 1) v = v :: chn T k (tN T v) := by rw [chn, if_neg c]
      rw [e] at hf hl K
      rcases hc with hc | ⟨hv, hc⟩
      · exact absurd hc c
      · rw [List.length_cons] at hl
        refine mx_uV (k_X12_evaluates (by omega) r ra hv (by rw [hT]; exact hf v List.mem_cons_self) hst (by omega) (by omega)) fun h1 q => ?_
        obtain ⟨q1, q2, q3⟩ := q
        rw [hT] at q2 q3
        have s1 := q1.sr sr
        have t1 : rtabs h1 = T := q1.rt.trans hT
        obtain ⟨i, rfl, hi⟩ := hv
        refine ⟨sr_k s1, 328, sr_r38 s1, sr_k328 s1, by rw [sr_z328 s1]; exact vp_in_nI hi (by omega), ?_⟩
        rw [show hpI h1 328 (nI i).toNatClampNeg = tN T (nI i) by rw [← t1]; rfl]
        refine ih _ h1 _ (r.sa q1) q2 t1 hc (fun a ha => hf a (List.mem_cons_of_mem _ ha)) (by rw [List.length_append]; simp; omega) ?_ fun h2 p1 p2 p3 => K h2 (q1.tr p1) ?_ ?_
        · have fl : (as ++ [evA S.1 (dArg T (nI i))]).flatten = as.flatten ++ evA S.1 (dArg T (nI i)) := by simp
          rw [fl, List.length_append, List.length_append, List.length_singleton]; omega
        · simpa using p2
        · simpa using p3
theorem k_X12_evaluatesAll (hd : 15 ≤ d) {s : Nat} {S : spS} {js : List Nat} (r : RG h0 h w ((s, S, js) :: G) V P N n m xs) (hst : ∃ k, k < 1000 ∧ fS S.1 = nI k) {cm : Int32} (hcm : ∃ i, cm = nI i ∧ i < 3000)
    (hc : chE (rtabs h) 3000 (tA (rtabs h) cm)) (hf : ∀ a ∈ chn (rtabs h) 3000 (tA (rtabs h) cm), tK (rtabs h) a = 11 → fitW 13 (tM (rtabs h) a)) (hl : (chn (rtabs h) 3000 (tA (rtabs h) cm)).length ≤ 350) :
    mx_SM mY_X12_evaluatesAll d [.ref 320, .int (nI s), .int cm] h (mx_KV (fun h1 => Sa h h1 ∧ RA h1 ((argsOf (rtabs h) cm).map (evA S.1)) ∧ ((argsOf (rtabs h) cm).map (evA S.1)).flatten.length ≤ 80 * ((argsOf (rtabs h) cm).map (evA S.1)).length ∧ ((argsOf (rtabs h) cm).map (evA S.1)).length ≤ 350) fun _ _ => False) := by
  have sr := r.sr
  refine b_X12_evaluatesAll 320 _ _ ⟨sr_k sr, ?_⟩
  rintro _ rfl _ rfl
  have q : Sa h (hsI (hsI h 320 77 0) 320 78 0) := (Sa.sF (Or.inl rfl)).tr (Sa.sF (Or.inr rfl))
  have s1 := q.sr sr
  obtain ⟨i, rfl, hi⟩ := hcm
  refine ⟨324, sr_r34 s1, sr_k324 s1, by rw [sr_z324 s1]; exact vp_in_nI hi (by omega), ?_⟩
  rw [show hpI (hsI (hsI h 320 77 0) 320 78 0) 324 (nI i).toNatClampNeg = tA (rtabs h) (nI i) by rw [hpI_sIo (by decide), hpI_sIo (by decide)]; rfl]
  refine ea_17 hd hst 3000 _ _ [] (r.sa q) ⟨by rw [hpI_sIs, fup_n (by decide), hpI_sIs, fup_e]; rfl, by rw [hpI_sIs, fup_e]; rfl, fun i hi => absurd hi (Nat.not_lt_zero _), fun k hk => absurd hk (Nat.not_lt_zero _)⟩ q.rt hc hf (by simpa using hl) (Nat.le_refl _) fun h1 q1 q2 q3 => Or.inl ⟨rfl, q.tr q1, q2, q3, by rw [argsOf, List.length_map, List.length_map]; exact hl⟩
end MXEV
