/-! THE REFERENCE'S RUN: the end of a shell, its jobs -/
section MXR6
variable {d g : Nat} {h0 h h1 : mxH} {T : spT} {nn k s : Nat} {x x1 x' y : spX} {w w1 : spW} {S : spS} {js : List Nat} {G L : List spE} {V W : List (Option (Option Nat))} {P : List spX} {N : spN} {Z : List (Int32 × Nat)} {n m xs n0 m0 u : Nat} {Q : mxRes → mxH → Prop} {v : Int32} {f : Nat → Int32}
theorem jG_set : ∀ (jb : List spJ) (js : List Nat) (j : Nat) (hj : j < jb.length) (hs : j < js.length) (q : spJ), jb[j].1 = 0 → q.1 ≠ 0 → (jG (((0 : Int32), fun _ => none, 0, [], [], fun _ => 0, false, 0, false, 0), false, jb) js).Perm ((js[j], (jb[j].2.2.2, false, []), []) :: jG (((0 : Int32), fun _ => none, 0, [], [], fun _ => 0, false, 0, false, 0), false, jb.set j q) js)
  | [], js, j, hj, hs, q, _, _ => absurd hj (Nat.not_lt_zero _)
  | a :: jb, [], j, hj, hs, q, _, _ => absurd hs (Nat.not_lt_zero _)
  | a :: jb, b :: js, 0, hj, hs, q, h0, h1 => by
    have h0 : a.1 = 0 := h0
    unfold jG
    simp [h0, h1]
  | a :: jb, b :: js, j + 1, hj, hs, q, h0, h1 => by
    have ih := jG_set jb js j (Nat.lt_of_succ_lt_succ hj) (Nat.lt_of_succ_lt_succ hs) q h0 h1
    unfold jG at ih ⊢
    simp only [List.zip_cons_cons, List.filterMap_cons, List.set_cons_succ, List.getElem_cons_succ] at ih ⊢
    split
    · exact ih
    · refine (List.Perm.cons _ ih).trans (List.Perm.swap ..)
theorem jG_same : ∀ (jb : List spJ) (js : List Nat) (j : Nat) (hj : j < jb.length) (q : spJ), jb[j].1 ≠ 0 → q.1 ≠ 0 → ∀ (F : spF) (e : Bool), jG (F, e, jb.set j q) js = jG (F, e, jb) js
  | [], js, j, hj, q, _, _, F, e => absurd hj (Nat.not_lt_zero _)
  | a :: jb, [], j, hj, q, _, _, F, e => by cases j <;> rfl
  | a :: jb, b :: js, 0, hj, q, h0, h1, F, e => by
    have h0 : a.1 ≠ 0 := h0
    unfold jG
    simp [h0, h1]
  | a :: jb, b :: js, j + 1, hj, q, h0, h1, F, e => by
    have ih := jG_same jb js j (Nat.lt_of_succ_lt_succ hj) q h0 h1 F e
    unfold jG at ih ⊢
    simp only [List.zip_cons_cons, List.filterMap_cons, List.set_cons_succ] at ih ⊢
    rw [ih]
theorem RJ.jst {e : Bool} {jb : List spJ} {js : List Nat} (r : RJ f e jb js) {j q : Nat} (hj : j < jb.length) (hq : q ≤ 2) : RJ (fup f (50 + 4 * j) (nI q)) e (jb.set j (q, jb[j].2)) js := by
  obtain ⟨a, b, c, d, r5⟩ := r
  refine ⟨by rw [fup_n (by omega)]; exact a, by rw [fup_n (by omega), List.length_set]; exact b, by rw [List.length_set]; exact c, by rw [List.length_set]; exact d, fun k hk hjs => ?_⟩
  rw [List.length_set] at hk
  obtain ⟨q1, q2, q3, q4, q5⟩ := r5 k hk hjs
  by_cases ck : k = j
  · subst ck
    rw [List.getElem_set_self]
    exact ⟨fup_e, hq, by rw [fup_n (by omega)]; exact q3, by rw [fup_n (by omega)]; exact q4, by rw [fup_n (by omega)]; exact q5⟩
  · rw [List.getElem_set_ne (fun e => ck e.symm)]
    exact ⟨by rw [fup_n (by omega)]; exact q1, q2, by rw [fup_n (by omega)]; exact q3, by rw [fup_n (by omega)]; exact q4, by rw [fup_n (by omega)]; exact q5⟩
theorem RJ.jsv {e : Bool} {jb : List spJ} {js : List Nat} (r : RJ f e jb js) {j : Nat} {v : Int32} (hj : j < jb.length) : RJ (fup f (51 + 4 * j) v) e (jb.set j (jb[j].1, v, jb[j].2.2)) js := by
  obtain ⟨a, b, c, d, r5⟩ := r
  refine ⟨by rw [fup_n (by omega)]; exact a, by rw [fup_n (by omega), List.length_set]; exact b, by rw [List.length_set]; exact c, by rw [List.length_set]; exact d, fun k hk hjs => ?_⟩
  rw [List.length_set] at hk
  obtain ⟨q1, q2, q3, q4, q5⟩ := r5 k hk hjs
  by_cases ck : k = j
  · subst ck
    rw [List.getElem_set_self]
    exact ⟨by rw [fup_n (by omega)]; exact q1, q2, fup_e, by rw [fup_n (by omega)]; exact q4, by rw [fup_n (by omega)]; exact q5⟩
  · rw [List.getElem_set_ne (fun e => ck e.symm)]
    exact ⟨by rw [fup_n (by omega)]; exact q1, q2, by rw [fup_n (by omega)]; exact q3, by rw [fup_n (by omega)]; exact q4, by rw [fup_n (by omega)]; exact q5⟩
theorem RG.jst (r : RG h0 h w ((s, S, js) :: G) V P N n m xs) {j q : Nat} (hj : j < S.2.2.length) (hq : q ≤ 2) : RG h0 (hsI h 354 (83 * s + (50 + 4 * j)) (nI q)) w ((s, (S.1, S.2.1, S.2.2.set j (q, S.2.2[j].2)), js) :: G) V P N n m xs := by
  have l8 : S.2.2.length ≤ 8 := r.own.2.2.2.2.1
  exact r.place (S' := (S.1, S.2.1, S.2.2.set j (q, S.2.2[j].2))) (by omega) (by omega) (by omega) rfl (fun _ _ _ a => a.other (by omega) (by omega) (by omega)) (fun _ a => a.jst hj hq)
theorem RG.jsv (r : RG h0 h w ((s, S, js) :: G) V P N n m xs) {j : Nat} {v : Int32} (hj : j < S.2.2.length) : RG h0 (hsI h 354 (83 * s + (51 + 4 * j)) v) w ((s, (S.1, S.2.1, S.2.2.set j (S.2.2[j].1, v, S.2.2[j].2.2)), js) :: G) V P N n m xs := by
  have l8 : S.2.2.length ≤ 8 := r.own.2.2.2.2.1
  exact r.place (S' := (S.1, S.2.1, S.2.2.set j (S.2.2[j].1, v, S.2.2[j].2.2))) (by omega) (by omega) (by omega) rfl (fun _ _ _ a => a.other (by omega) (by omega) (by omega)) (fun _ a => a.jsv hj)
theorem RG.bgs (r : RG h0 h w ((s, S, js) :: G) V P N n m xs) {b : Bool} : RG h0 (hsI h 354 (83 * s + 35) (if b = true then 1 else 0)) w ((s, (vG S.1 b, S.2), js) :: G) V P N n m xs :=
  r.place (S' := (vG S.1 b, S.2)) (by omega) (by omega) (by omega) rfl (fun _ _ _ a => a.bg) (fun _ a => a.other (by omega))
theorem ct_job (ih : Ctr h0 T nn k) (wt : WT T nn) (hT : rtabs h0 = T) (j : Nat) (b : Int32) (hbb : b = 0 ∨ b = 1) : SMc h0 T nn (k + 1) 0 mY_X12_runsJob [.int (nI j), .int b] (cJob j b) := by
  intro d g h x x' s js G V P Z n0 m0 hx hb hz he p
  obtain ⟨hd, hb⟩ := bx hb
  have hb : bJob (gEx T k) (bEx T k) d g j b x := hb
  obtain ⟨g1, hb1, hb2⟩ := hb
  have hx : gJob (gEx T k) j b x = some x' := hx
  obtain ⟨r, nX, pV, pG, pn, pm⟩ := id p
  have sr := p.sr
  have hs := p.sN
  obtain ⟨hj, hj0⟩ : j < (xj x).length ∧ (jbAt x j).1 = 0 := hz.1
  have hj : j < x.2.2.2.length := hj
  have ejb : jbAt x j = x.2.2.2[j] := by unfold jbAt; exact gd_at hj
  rw [ejb] at hj0
  have l8 : x.2.2.2.length ≤ 8 := r.own.2.2.2.2.1
  have ljs : js.length = x.2.2.2.length := r.own.2.2.2.2.2.1
  have lj := jG_len (S := x.2) (js := js)
  obtain ⟨y1', y2', y3', y4', y5'⟩ := r.own.2.2.2.2.2.2 j hj (by omega)
  obtain ⟨k1, k2, k3, k4⟩ := jb_ok hz.2.1 hj
  unfold gJob at hx
  simp only [] at hx
  rw [ejb] at hx hb1 hb2 k2 k3 k4
  obtain ⟨z1, hy1, h2⟩ := Option.bind_eq_some_iff.mp hx
  obtain ⟨z2, hy2, h3⟩ := Option.bind_eq_some_iff.mp h2
  have hz1 : Hz T nn (cCh x.2.2.2[j].2.2.1) (xw x, vG x.2.2.2[j].2.2.2 (decide (b = 1)), false, []) := ⟨k3, ⟨k4, fun q hq => absurd hq List.not_mem_nil⟩, fun e => hz.w0 (show (12 : Nat) ≠ 6 by decide) e⟩
  have p1 := mi_all wt k _ _ _ hy1 hz1
  -- the job runs: its shell comes to the front
  have r1 := r.jst (q := 2) hj (by omega)
  have e50 : (50 : Int32) + 4 * nI j = nI (50 + 4 * j) := by rw [show (4 : Int32) * nI j = nI (4 * j) from pk_mul 4 j]; exact nI_add 50 _
  have e53 : nI (50 + 4 * j) + 3 = nI (53 + 4 * j) := (nI_add _ 3).trans (congrArg nI (by omega))
  have e52 : nI (50 + 4 * j) + 2 = nI (52 + 4 * j) := (nI_add _ 2).trans (congrArg nI (by omega))
  have e51 : nI (50 + 4 * j) + 1 = nI (51 + 4 * j) := (nI_1 _).trans (congrArg nI (by omega))
  have pj : (jG x.2 js).Perm ((js[j]'(by omega), (x.2.2.2[j].2.2.2, false, []), []) :: jG (x.2.1, x.2.2.1, x.2.2.2.set j (2, x.2.2.2[j].2)) js) := jG_set x.2.2.2 js j hj (by omega) (2, x.2.2.2[j].2) hj0 (by show (2 : Nat) ≠ 0; decide)
  have r2 := r1.perm (G' := ((js[j]'(by omega), (x.2.2.2[j].2.2.2, false, []), []) :: (s, (x.2.1, x.2.2.1, x.2.2.2.set j (2, x.2.2.2[j].2)), js) :: (jG (x.2.1, x.2.2.1, x.2.2.2.set j (2, x.2.2.2[j].2)) js ++ G))) (((pj.append_right G).cons _).trans (List.Perm.swap ..))
  have hq : js[j]'(by omega) < 1000 := r2.own.1
  have r3 := r2.bgs (b := decide (b = 1))
  have eb : (if decide (b = 1) = true then (1 : Int32) else 0) = b := by
    rcases hbb with e | e
    · rw [e]; rfl
    · rw [e]; rfl
  rw [eb] at r3
  have s1 := r1.sr
  have s3 := r3.sr
  have f53 : hpI (hsI h 354 (83 * s + (50 + 4 * j)) (nI 2)) 354 (83 * s + (53 + 4 * j)) = nI (js[j]'(by omega)) := by
    rw [hpI_sIs, fup_n (by omega)]; exact y5'
  have sne : s ≠ js[j]'(by omega) := fun e => by
    obtain ⟨A, B, Qs, -, -, -, -, -, -, he, -⟩ := r2
    have := (List.nodup_cons.mp he.2.1).1
    exact this (by rw [← e]; exact List.mem_cons_self)
  have f52 : hpI (hsI (hsI h 354 (83 * s + (50 + 4 * j)) (nI 2)) 354 (83 * (js[j]'(by omega)) + 35) b) 354 (83 * s + (52 + 4 * j)) = x.2.2.2[j].2.2.1 := by
    rw [hpI_sIs, fup_n (by omega), hpI_sIs, fup_n (by omega)]; exact y4'
  refine b_X12_runsJob 320 _ _ _ ⟨by omega, sr_k sr, ?_⟩
  rw [e50, e53, e52]
  refine mx_xKV (k_X12_sets sr (by omega)) ⟨sr_k s1, mx_xKI2 (k_X12_of s1 (by omega)) ⟨sr_k s1, ?_⟩⟩
  rw [f53]
  refine mx_xKV (k_X12_sets (j := 35) s1 (by omega)) ⟨sr_k s3, mx_xKI2 (k_X12_of s3 (by omega)) ⟨sr_k s3, ?_⟩⟩
  rw [f52]
  have lL : ((s, (x.2.1, x.2.2.1, x.2.2.2.set j (2, x.2.2.2[j].2)), js) :: (jG (x.2.1, x.2.2.1, x.2.2.2.set j (2, x.2.2.2[j].2)) js ++ G)).length ≤ 9 + G.length := by
    have := jG_len (S := (x.2.1, x.2.2.1, x.2.2.2.set j (2, x.2.2.2[j].2))) (js := js)
    have e : (x.2.2.2.set j (2, x.2.2.2[j].2)).length = x.2.2.2.length := List.length_set
    rw [List.length_cons, List.length_append]
    have t2 : (jG (x.2.1, x.2.2.1, x.2.2.2.set j (2, x.2.2.2[j].2)) js).length ≤ x.2.2.2.length := by rw [← e]; exact this
    omega
  have pre : Pre 0 h0 (hsI (hsI h 354 (83 * s + (50 + 4 * j)) (nI 2)) 354 (83 * (js[j]'(by omega)) + 35) b) (xw x, vG x.2.2.2[j].2.2.2 (decide (b = 1)), false, []) (js[j]'(by omega)) [] ((s, (x.2.1, x.2.2.1, x.2.2.2.set j (2, x.2.2.2[j].2)), js) :: (jG (x.2.1, x.2.2.1, x.2.2.2.set j (2, x.2.2.2[j].2)) js ++ G)) V P Z n0 m0 (g - 1) := ⟨r3, nX, pV, by omega, pn, pm⟩
  have x1e : (zJob x j x.2.2.2[j].2.2.1 x.2.2.2[j].2.1 2).2 = (x.2.1, x.2.2.1, x.2.2.2.set j (2, x.2.2.2[j].2)) := by
    show (x.2.1, x.2.2.1, (xj x).set j (2, x.2.2.2[j].2.1, x.2.2.2[j].2.2.1, (jbAt x j).2.2.2)) = _
    rw [ejb]
  -- the end, when the run has stopped
  have stop : ∀ h4 (w : spW) (E : spS) jq, wX w = true → RGs h0 h4 w ((js[j]'(by omega), E, jq) :: ((s, (x.2.1, x.2.2.1, x.2.2.2.set j (2, x.2.2.2[j].2)), js) :: (jG (x.2.1, x.2.2.1, x.2.2.2.set j (2, x.2.2.2[j].2)) js ++ G))) V P →
      mx_SX mY_X12_runsJob d 64 [(0, .ref 320), (1, .int (nI s)), (4, .int (nI (50 + 4 * j))), (5, .int (nI (js[j]'(by omega))))] [] h4 (mx_KV (Pst h0 (w, (zJob x j x.2.2.2[j].2.2.1 x.2.2.2[j].2.1 2).2) s G V P Z n0 m0) fun _ _ => False) := by
    intro h4 w E jq hX rs
    have k4 := k_X12_isStoppedNow_s (d := d - 1) rs
    rw [hX, if_pos rfl] at k4
    refine b_X12_runsJob_64 320 _ _ _ ⟨by omega, sr_k rs.sr, mx_xKI2 k4 ⟨fun _ => b_X12_runsJob_94 320 _ ⟨by omega, sr_k rs.sr, mx_xKV (k_X12_sets (j := 82) rs.sr (by omega)) (Or.inl ⟨rfl, Or.inr ⟨hX, js, ?_⟩⟩)⟩, fun c => absurd c (by decide)⟩⟩
    rw [x1e]
    exact (rs.set0 (j := 82) (v := 0) (by omega) (by omega)).sub (List.Sublist.trans (List.Sublist.cons_cons _ (List.sublist_append_right _ _)) (List.sublist_cons_self _ _))
  refine mx_uV (ih.ch _ (d - 1) (g - 1) _ _ z1 (js[j]'(by omega)) [] _ V P Z n0 m0 hy1 hb1 hz1 (Or.inl rfl) pre) fun h4 ps => ?_
  rcases ps with ⟨aX, jq, r4⟩ | ⟨aX, jq, r4⟩
  · have s4 := r4.sr
    have kk4 := k_X12_isStoppedNow (d := d - 1) r4
    rw [aX] at kk4
    rw [if_neg (by rw [aX]; decide)] at hy2
    have hz2 := p1.hz (c2 := cFin) trivial (show (10 : Nat) ≠ 7 by decide) (show (10 : Nat) ≠ 6 by decide)
    have up : wB (xw x) ≤ wB (xw z1) := p1.2.1.2.2.1
    have pre2 : Pre 0 h0 h4 z1 (js[j]'(by omega)) jq ((s, (x.2.1, x.2.2.1, x.2.2.2.set j (2, x.2.2.2[j].2)), js) :: (jG (x.2.1, x.2.2.1, x.2.2.2.set j (2, x.2.2.2[j].2)) js ++ G)) V P Z n0 m0 (g - 1) := ⟨r4, aX, by omega, by omega, pn, pm⟩
    refine ⟨sr_k s4, mx_xKI2 kk4 ⟨fun c => absurd rfl c, fun _ => ⟨sr_k s4, mx_uV (ih.fin (d - 1) (g - 1) h4 z1 z2 (js[j]'(by omega)) jq _ V P Z n0 m0 hy2 (hb2 z1 hy1 aX) hz2 (Or.inr (Nat.le_refl 10)) pre2) fun h5 ps => ?_⟩⟩⟩
    rcases ps with ⟨bX, jq2, r5⟩ | ⟨bX, jq2, r5⟩
    · rw [jG_nil (nz_fin hy2 bX)] at r5
      rw [if_neg (by rw [bX]; decide)] at h3
      cases h3
      have s5 := r5.sr
      have kk5 := k_X12_isStoppedNow (d := d - 1) r5
      rw [bX] at kk5
      have lset : j < (x.2.2.2.set j (2, x.2.2.2[j].2)).length := by rw [List.length_set]; exact hj
      have r6 := (RG.swap r5).jst (q := 1) lset (by omega)
      have s6 := r6.sr
      have r7 := r6.swap
      have r8 := RG.jsv (v := fS z2.2.1) r6 (j := j) (by rw [List.length_set]; exact lset)
      have r9 := r8.swap.dead
      refine b_X12_runsJob_64 320 _ _ _ ⟨by omega, sr_k s5, mx_xKI2 kk5 ⟨fun c => absurd rfl c, fun _ => ⟨sr_k s5, mx_xKV (k_X12_sets s5 (by omega)) ⟨sr_k s6, mx_xKI2 (k_X12_statusOf (by omega) r7) ⟨sr_k s6, ?_⟩⟩⟩⟩⟩
      rw [e51]
      refine mx_xKV (k_X12_sets s6 (by omega)) (b_X12_runsJob_94 320 _ ⟨by omega, sr_k r8.sr, mx_xKV (k_X12_sets (j := 82) r8.sr (by omega)) (Or.inl ⟨rfl, Or.inl ⟨bX, js, ?_⟩⟩)⟩)
      have ex : (zJob (xw z2, (zJob x j x.2.2.2[j].2.2.1 x.2.2.2[j].2.1 2).2) j x.2.2.2[j].2.2.1 (fS (xf z2)) 1).2 = (x.2.1, x.2.2.1, x.2.2.2.set j (1, fS z2.2.1, x.2.2.2[j].2.2)) := by
        rw [x1e]
        show (x.2.1, x.2.2.1, (x.2.2.2.set j (2, x.2.2.2[j].2)).set j (1, fS (xf z2), x.2.2.2[j].2.2.1, ((x.2.2.2.set j (2, x.2.2.2[j].2)).getD j (0, 0, 0, x.2.1)).2.2.2)) = _
        rw [getD_set_self hj, List.set_set]
      have ej : jG (x.2.1, x.2.2.1, x.2.2.2.set j (1, fS z2.2.1, x.2.2.2[j].2.2)) js = jG (x.2.1, x.2.2.1, x.2.2.2.set j (2, x.2.2.2[j].2)) js := by
        have := jG_same (x.2.2.2.set j (2, x.2.2.2[j].2)) js j lset (1, fS z2.2.1, x.2.2.2[j].2.2) (by rw [List.getElem_set_self]; show (2 : Nat) ≠ 0; decide) (by show (1 : Nat) ≠ 0; decide) x.2.1 x.2.2.1
        rw [List.set_set] at this
        exact this
      have el : ((x.2.2.2.set j (2, x.2.2.2[j].2)).set j (1, (x.2.2.2.set j (2, x.2.2.2[j].2))[j].2)).set j ((((x.2.2.2.set j (2, x.2.2.2[j].2)).set j (1, (x.2.2.2.set j (2, x.2.2.2[j].2))[j].2)))[j]'(by rw [List.length_set]; exact lset) |>.1, fS z2.2.1, (((x.2.2.2.set j (2, x.2.2.2[j].2)).set j (1, (x.2.2.2.set j (2, x.2.2.2[j].2))[j].2)))[j]'(by rw [List.length_set]; exact lset) |>.2.2) = x.2.2.2.set j (1, fS z2.2.1, x.2.2.2[j].2.2) := by
        simp only [List.getElem_set_self, List.set_set]
      show RG h0 _ (xw z2) ((s, (zJob (xw z2, (zJob x j x.2.2.2[j].2.2.1 x.2.2.2[j].2.1 2).2) j x.2.2.2[j].2.2.1 (fS (xf z2)) 1).2, js) :: (jG (zJob (xw z2, (zJob x j x.2.2.2[j].2.2.1 x.2.2.2[j].2.1 2).2) j x.2.2.2[j].2.2.1 (fS (xf z2)) 1).2 js ++ G)) V P ([], [], Z) (n0 + wM (xw z2)) (m0 + 12 * wB (xw z2)) 1000
      rw [ex, ej, ← el]
      exact r9
    · rw [if_pos bX] at h3
      cases h3
      exact stop h5 _ _ _ bX r5
  · rw [if_pos aX] at hy2
    cases hy2
    rw [if_pos aX] at h3
    cases h3
    have kk4 := k_X12_isStoppedNow_s (d := d - 1) r4
    rw [aX, if_pos rfl] at kk4
    exact ⟨sr_k r4.sr, mx_xKI2 kk4 ⟨fun _ => stop h4 _ _ _ aX r4, fun c => absurd c (by decide)⟩⟩
end MXR6
