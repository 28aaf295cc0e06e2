/-! THE REFERENCE'S RUN: all jobs, finishes -/
section MXR7
variable {d g : Nat} {h0 h h1 : mxH} {T : spT} {nn k s : Nat} {x x1 x' y : spX} {w w1 : spW} {S : spS} {js : List Nat} {G L : List spE} {V W : List (Option (Option Nat))} {P : List spX} {N : spN} {Z : List (Int32 × Nat)} {n m xs n0 m0 u : Nat} {Q : mxRes → mxH → Prop} {v : Int32} {f : Nat → Int32}
theorem jbs_s {j : Nat} (hj : j ≤ 8) (hd : 2 ≤ d) (hX : wX (xw x) = true) (r : RGs h0 h (xw x) ((s, x.2, js) :: G) V P) (hx : gEx T k (cJbs j) x = some x') :
    mx_SX mY_X12_runsJobs d 2 [(0, .ref 320), (1, .int (nI s)), (2, .int (nI j))] [] h (mx_KV (Pst h0 x' s G V P Z n0 m0) fun _ _ => False) := by
  have e : x' = x := by
    cases k with
    | zero => cases hx
    | succ k =>
      have hx : gJbs (gEx T k) j x = some x' := hx
      unfold gJbs at hx
      rw [if_pos (Or.inr hX)] at hx
      cases hx; rfl
  subst e
  have sr := r.sr
  have hs := r.own.1
  have ps : Pst h0 x' s G V P Z n0 m0 h := Or.inr ⟨hX, js, r⟩
  have k1 := k_X12_isStoppedNow_s (d := d - 1) r
  rw [hX, if_pos rfl] at k1
  exact b_X12_runsJobs_2 320 _ _ ⟨by omega, sr_k sr, mx_xKI2 (k_X12_of (j := 49) sr (by omega)) ⟨fun _ => Or.inl ⟨rfl, ps⟩, fun _ => ⟨sr_k sr, mx_xKI2 k1 ⟨fun _ => Or.inl ⟨rfl, ps⟩, fun c => absurd c (by decide)⟩⟩⟩⟩
theorem ct_jbs (ih : Ctr h0 T nn k) (wt : WT T nn) (hT : rtabs h0 = T) (j : Nat) (hj8 : j ≤ 8) : SXc h0 T nn (k + 1) mY_X12_runsJobs 2 [(2, .int (nI j))] (cJbs j) := by
  intro d g h x x' s js G V P Z n0 m0 hx hb hz p
  obtain ⟨hd, hb⟩ := bx hb
  have hx : gJbs (gEx T k) j x = some x' := hx
  obtain ⟨r, nX, pV, pG, pn, pm⟩ := id p
  have sr := p.sr
  have hs := p.sN
  have l8 : x.2.2.2.length ≤ 8 := r.own.2.2.2.2.1
  have ljs : js.length = x.2.2.2.length := r.own.2.2.2.2.2.1
  have e49 : hpI h 354 (83 * s + 49) = nI x.2.2.2.length := r.own.2.2.2.1
  unfold gJbs at hx
  refine b_X12_runsJobs_2 320 _ _ ⟨by omega, sr_k sr, mx_xKI2 (k_X12_of (j := 49) sr (by omega)) ?_⟩
  rw [e49]
  refine ⟨fun c => ?_, fun c => ?_⟩
  · have c' : (xj x).length ≤ j := (nI_leI (a := x.2.2.2.length) (by omega) (by omega)).mp c
    rw [if_pos (Or.inl c')] at hx
    cases hx
    exact Or.inl ⟨rfl, p.pst⟩
  · have c' : ¬ (xj x).length ≤ j := fun q => c (nI_le (a := x.2.2.2.length) q (by omega))
    have lt : j < x.2.2.2.length := Nat.lt_of_not_le c'
    rw [if_neg (fun q => q.elim c' (by rw [nX]; decide))] at hx
    rcases hb with e | e | ⟨hb1, hb2⟩
    · exact absurd e c'
    · rw [nX] at e; cases e
    obtain ⟨x1, hx1, h2⟩ := Option.bind_eq_some_iff.mp hx
    have k1 := k_X12_isStoppedNow (d := d - 1) r
    rw [nX] at k1
    obtain ⟨y1', y2', y3', y4', y5'⟩ := r.own.2.2.2.2.2.2 j lt (by omega)
    have e50 : (50 : Int32) + 4 * nI j = nI (50 + 4 * j) := by rw [show (4 : Int32) * nI j = nI (4 * j) from pk_mul 4 j]; exact nI_add 50 _
    have f50 : hpI h 354 (83 * s + (50 + 4 * j)) = nI x.2.2.2[j].1 := y1'
    have ejb : jbAt x j = x.2.2.2[j] := by unfold jbAt; exact gd_at lt
    rw [ejb] at hx1 hb1 hb2
    refine ⟨sr_k sr, mx_xKI2 k1 ⟨fun c => absurd rfl c, fun _ => ⟨sr_k sr, ?_⟩⟩⟩
    rw [e50]
    refine mx_xKI2 (k_X12_of sr (by omega)) ?_
    rw [f50]
    refine ⟨fun c0 => ?_, fun c0 => ⟨sr_k sr, ?_⟩⟩
    · have c0' : ¬ x.2.2.2[j].1 = 0 := fun e => c0 (by rw [e]; rfl)
      rw [if_neg c0'] at hx1
      cases hx1
      refine b_X12_runsJobs_41 320 _ _ ?_
      rw [nI_1]
      exact ih.jbs (j + 1) (by omega) d g h x x' s js G V P Z n0 m0 h2 (hb2 x (by rw [if_neg c0'])) (hz.to (c2 := cJbs (j + 1)) (show (11 : Nat) ≠ 6 by decide) trivial (show (11 : Nat) ≠ 7 by decide)) p
    · have c0' : x.2.2.2[j].1 = 0 := (nI_eq (b := 0) (by omega) (by omega)).mp c0
      rw [if_pos c0'] at hx1
      have hz1 := hz.to (c2 := cJob j 1) (show (11 : Nat) ≠ 6 by decide) ⟨lt, by rw [ejb]; exact c0'⟩ (show (12 : Nat) ≠ 7 by decide)
      have pz : Pz T nn (cJbs j) x x1 := (mi_all wt k _ _ _ hx1 hz1).cc (show (12 : Nat) ≠ 10 by decide)
      refine mx_uV (ih.job j 1 (Or.inr rfl) (d - 1) g h x x1 s js G V P Z n0 m0 hx1 (hb1 c0') hz1 (Or.inr (show 10 ≤ 12 by decide)) p) fun h1 ps => b_X12_runsJobs_41 320 _ _ ?_
      rw [nI_1]
      rcases ps.go (V' := V) (x := x) (g := g) pz.2.1.2.2.1 pV pG pn pm with ⟨sX, js1, r1⟩ | ⟨js1, q1⟩
      · exact jbs_s (by omega) (by omega) sX r1 h2
      · exact ih.jbs (j + 1) (by omega) d g h1 x1 x' s js1 G V P Z n0 m0 h2 (hb2 x1 (by rw [if_pos c0']; exact hx1)) (pz.hz (c2 := cJbs (j + 1)) trivial (show (11 : Nat) ≠ 7 by decide) (show (11 : Nat) ≠ 6 by decide)) q1
/-- a shell's beginning again: its nesting, its end -/
theorem RG.base (r : RG h0 h w ((s, S, js) :: G) V P N n m xs) : ∃ f1, hpI h 354 (83 * s + 47) = nI f1 ∧ f1 = fB S.1 ∧ f1 ≤ 4 := ⟨_, r.own.2.1.2.2.2.2.2.2.2.2.2.1, rfl, r.own.2.1.2.2.2.2.2.2.2.2.2.2⟩
theorem ct_fin (ih : Ctr h0 T nn k) (wt : WT T nn) (hT : rtabs h0 = T) : SMc h0 T nn (k + 1) 0 mY_X12_finishes [] cFin := by
  intro d g h x x' s js G V P Z n0 m0 hx hb hz he p
  obtain ⟨hd, hb⟩ := bx hb
  have hb : bFin (gEx T k) (bEx T k) d g x := hb
  have hx : gFin (gEx T k) x = some x' := hx
  obtain ⟨r, nX, pV, pG, pn, pm⟩ := id p
  have sr := p.sr
  have hs := p.sN
  have w0 := hz.w0 (show (10 : Nat) ≠ 6 by decide)
  obtain ⟨fb, e47, efb, l47⟩ := r.base
  have r2 := (r.ne (q := fb) l47).en (e := false)
  have s2 : SR (hsI (hsI h 354 (83 * s + 46) (nI fb)) 354 (83 * s + 48) 0) := sr
  have e33 : hpL h 355 (34 * s + 33) = fA x.2.1 3 := r.own.2.1.2.2.1 3 (by omega)
  -- the jobs
  have at129 : ∀ h1 (y : spX) js1, gEx T k (cJbs 0) y = some x' → bEx T k (d - 1) g (cJbs 0) y → Hz T nn (cJbs 0) y → Pre 0 h0 h1 y s js1 G V P Z n0 m0 g →
      mx_SX mY_X12_finishes d 129 [(0, .ref 320), (1, .int (nI s))] [] h1 (mx_KV (Pst h0 x' s G V P Z n0 m0) fun _ _ => False) := by
    intro h1 y js1 hy hby hzy py
    refine b_X12_finishes_129 320 _ ⟨by omega, sr_k py.sr, mx_uV (b_X12_runsJobs 320 _ (ih.jbs 0 (by omega) (d - 1) g h1 y x' s js1 G V P Z n0 m0 hy hby hzy py)) fun h2 ps => Or.inl ⟨rfl, ps⟩⟩
  have p2 : Pre 0 h0 (hsI (hsI h 354 (83 * s + 46) (nI fb)) 354 (83 * s + 48) 0) (zBase x) s js G V P Z n0 m0 g := by
    refine ⟨?_, nX, pV, pG, pn, pm⟩
    rw [efb] at r2
    rw [efb]
    exact r2
  unfold gFin at hx
  simp only [] at hx
  refine b_X12_finishes 320 _ ⟨by omega, sr_k sr, mx_xKI2 (k_X12_of (j := 47) sr (by omega)) ⟨sr_k sr, ?_⟩⟩
  rw [e47]
  refine mx_xKV (k_X12_sets (j := 46) sr (by omega)) ⟨sr_k sr, mx_xKV (k_X12_sets (j := 48) sr.sI (by omega)) ⟨sr_k s2, mx_xKL2 (k_X12_nameOf (j := 33) s2 (by omega)) ?_⟩⟩
  rw [show hpL (hsI (hsI h 354 (83 * s + 46) (nI fb)) 354 (83 * s + 48) 0) 355 (34 * s + 33) = fA x.2.1 3 from e33, lg_cmp_le]
  refine ⟨fun c => ?_, fun c => ?_⟩
  · have c' : ¬ (0 : Int64) < fA x.2.1 3 := Int64.not_lt.mpr c
    have c2 : ¬ (0 : Int64) < fA (xf (zBase x)) 3 := c'
    rw [if_neg c2] at hx
    exact at129 _ (zBase x) js hx (hb.2 c') ⟨trivial, hz.2.1, fun e => w0 e⟩ p2
  · have c' : (0 : Int64) < fA x.2.1 3 := Int64.not_le.mp c
    have c2 : (0 : Int64) < fA (xf (zBase x)) 3 := c'
    rw [if_pos c2] at hx
    obtain ⟨x2, hx2, h2⟩ := Option.bind_eq_some_iff.mp hx
    obtain ⟨hb1, hb2⟩ := hb.1 c'
    have p3r := p2.1.act (g := 3) (by omega) (v := 0)
    have p3 : Pre 0 h0 (hsL (hsI (hsI h 354 (83 * s + 46) (nI fb)) 354 (83 * s + 48) 0) 355 (34 * s + (30 + 3)) 0) (zf (zBase x) (vA (xf (zBase x)) (fup (fA (xf (zBase x))) 3 0))) s js G V P Z n0 m0 g := ⟨p3r, nX, pV, pG, pn, pm⟩
    have s3 := p3.sr
    have hz3 : ∀ c2 : spC, okT T nn c2 (zf (zBase x) (vA (xf (zBase x)) (fup (fA (xf (zBase x))) 3 0))) → c2.1 ≠ 7 → c2.1 ≠ 6 → Hz T nn c2 (zf (zBase x) (vA (xf (zBase x)) (fup (fA (xf (zBase x))) 3 0))) := fun c2 ht h7 h6 => ⟨ht, hz.2.1, fun e => by rw [if_neg h7, if_neg h6]; exact w0 e⟩
    -- behind the call
    have at80 : ∀ h1, Pst h0 x2 s G V P Z n0 m0 h1 → wB (xw x) ≤ wB (xw x2) → okS T nn x2.2 → (wX (xw x2) = false → okW (xw x2) 0 0) →
        mx_SX mY_X12_finishes d 80 [(0, .ref 320), (1, .int (nI s)), (4, .int (fS x.2.1))] [] h1 (mx_KV (Pst h0 x' s G V P Z n0 m0) fun _ _ => False) := by
      intro h1 ps hB ho hw
      rcases ps.go (V' := V) (x := x) (g := g) hB pV pG pn pm with ⟨sX, js1, r1⟩ | ⟨js1, q1⟩
      · rw [if_pos sX] at h2
        cases h2
        have k1 := k_X12_isStoppedNow_s (d := d - 1) r1
        rw [sX, if_pos rfl] at k1
        exact b_X12_finishes_80 320 _ _ ⟨by omega, sr_k r1.sr, mx_xKI2 k1 ⟨fun c => absurd c (by decide), fun _ => Or.inl ⟨rfl, Or.inr ⟨sX, js1, r1⟩⟩⟩⟩
      · obtain ⟨r1, nX1, pV1, -⟩ := id q1
        have s1 := q1.sr
        rw [if_neg (by rw [nX1]; decide)] at h2
        have k1 := k_X12_isStoppedNow (d := d - 1) r1
        rw [nX1] at k1
        have e48 : hpI h1 354 (83 * s + 48) = if x2.2.2.1 = true then 1 else 0 := r1.own.2.2.1
        have hb3 := hb2 x2 (by
          have e : (match tbF (fU (xf x)) (fA (xf x) 3) with
            | none => some (zf (zBase x) (vA (xf (zBase x)) (fup (fA (xf (zBase x))) 3 0)))
            | some i => gEx T k (cCal ((fU (xf x)).getD i (0, 0)).2) (zf (zBase x) (vA (xf (zBase x)) (fup (fA (xf (zBase x))) 3 0)))) = some x2 := hx2
          exact e) nX1
        -- the shell's beginning once more
        have at107 : ∀ h2' (y : spX), y = (if xe x2 = true then x2 else zSt x2 (fS (xf x))) → Pre 0 h0 h2' y s js1 G V P Z n0 m0 g → mx_SX mY_X12_finishes d 107 [(0, .ref 320), (1, .int (nI s))] [] h2' (mx_KV (Pst h0 x' s G V P Z n0 m0) fun _ _ => False) := by
          intro h2' y ey py
          obtain ⟨ry, nXy, pVy, -⟩ := id py
          have sy := py.sr
          obtain ⟨fb2, f47, efb2, l472⟩ := ry.base
          have r4 := (ry.ne (q := fb2) l472).en (e := false)
          refine b_X12_finishes_107 320 _ ⟨by omega, sr_k sy, mx_xKI2 (k_X12_of (j := 47) sy (by omega)) ⟨sr_k sy, ?_⟩⟩
          rw [f47]
          refine mx_xKV (k_X12_sets (j := 46) sy (by omega)) ⟨sr_k sy, mx_xKV (k_X12_sets (j := 48) sy.sI (by omega)) ?_⟩
          have p4 : Pre 0 h0 (hsI (hsI h2' 354 (83 * s + 46) (nI fb2)) 354 (83 * s + 48) 0) (zBase y) s js1 G V P Z n0 m0 g := by
            refine ⟨?_, nXy, pVy, pG, pn, pm⟩
            rw [efb2] at r4
            rw [efb2]
            exact r4
          have h2 : gEx T k (cJbs 0) (zBase (if xe x2 = true then x2 else zSt x2 (fS (xf x)))) = some x' := h2
          rw [← ey] at h2 hb3
          refine at129 _ (zBase y) js1 h2 hb3 ⟨trivial, ?_, ?_⟩ p4
          · rw [ey]
            split
            · exact ho
            · exact ⟨⟨hz.2.1.1.1, ho.1.2⟩, ho.2⟩
          · rw [ey]
            split
            · exact fun e => hw e
            · exact fun e => hw e
        refine b_X12_finishes_80 320 _ _ ⟨by omega, sr_k s1, mx_xKI2 k1 ⟨fun _ => ⟨sr_k s1, mx_xKI2 (k_X12_of (j := 48) s1 (by omega)) ?_⟩, fun c => absurd rfl c⟩⟩
        rw [e48]
        cases ce : x2.2.2.1 with
        | true =>
          have ce' : xe x2 = true := ce
          exact ⟨fun _ => at107 h1 x2 (by rw [if_pos ce']) q1, fun c => absurd c (by decide)⟩
        | false =>
          have ce' : ¬ xe x2 = true := fun q => by rw [show xe x2 = false from ce] at q; cases q
          exact ⟨fun c => absurd rfl c, fun _ => ⟨sr_k s1, mx_xKV (k_X12_sets (j := 33) s1 (by omega)) (at107 _ (zSt x2 (fS (xf x))) (by rw [if_neg ce']) q1.st)⟩⟩
    have kst : mx_SM mY_X12_statusOf (d - 1) [.ref 320, .int (nI s)] (hsL (hsI (hsI h 354 (83 * s + 46) (nI fb)) 354 (83 * s + 48) 0) 355 (34 * s + 33) 0) (mx_xct (.inl (some (.int (fS x.2.1)))) (hsL (hsI (hsI h 354 (83 * s + 46) (nI fb)) 354 (83 * s + 48) 0) 355 (34 * s + 33) 0)) := by
      have q := k_X12_statusOf (d := d - 1) (by omega) p3.1
      exact q
    have kfu : mx_SM mY_X12_functionOf (d - 1) [.ref 320, .int (nI s), .long (fA x.2.1 3)] (hsL (hsI (hsI h 354 (83 * s + 46) (nI fb)) 354 (83 * s + 48) 0) 355 (34 * s + 33) 0) (mx_xct (.inl (some (.int (ixI (tbF (fU x.2.1) (fA x.2.1 3)))))) (hsL (hsI (hsI h 354 (83 * s + 46) (nI fb)) 354 (83 * s + 48) 0) 355 (34 * s + 33) 0)) := by
      have q := k_X12_functionOf (d := d - 1) (k := fA x.2.1 3) (by omega) p3.1
      exact q
    refine ⟨sr_k s2, mx_xKV (k_X12_setsName (j := 33) s2 (by omega)) ⟨sr_k s3, mx_xKI2 kst ⟨sr_k s3, mx_xKI2 kfu ?_⟩⟩⟩
    have hx2' : (match tbF (fU x.2.1) (fA x.2.1 3) with
        | none => some (zf (zBase x) (vA (xf (zBase x)) (fup (fA (xf (zBase x))) 3 0)))
        | some i => gEx T k (cCal ((fU x.2.1).getD i (0, 0)).2) (zf (zBase x) (vA (xf (zBase x)) (fup (fA (xf (zBase x))) 3 0)))) = some x2 := hx2
    cases et : tbF (fU x.2.1) (fA x.2.1 3) with
    | none =>
      rw [et] at hx2'
      cases hx2'
      exact ⟨fun _ => at80 _ p3.pst (Nat.le_refl _) hz.2.1 w0, fun c => absurd rfl c⟩
    | some i =>
      rw [et] at hx2'
      obtain ⟨hi, -⟩ := tbF_at et
      have h10 : (fU x.2.1).length ≤ 10 := r.own.2.1.2.1.2.1
      have hf := (p3.1.own.2.1.2.1.2.2 i hi).2
      have hz4 := hz3 (cCal ((fU x.2.1).getD i (0, 0)).2) (hz.2.1.1.2 _ (tb_mem et)) (show (9 : Nat) ≠ 7 by decide) (show (9 : Nat) ≠ 6 by decide)
      have pz := mi_all wt k _ _ _ hx2' hz4
      refine ⟨fun c => absurd c (ixI_some (by omega)), fun _ => ⟨sr_k s3, ?_⟩⟩
      rw [show (22 : Int32) + ixI (some i) = nI (22 + i) from nI_add 22 i]
      refine mx_xKI2 (k_X12_of s3 (by omega)) ⟨sr_k s3, ?_⟩
      have ef : hpI (hsL (hsI (hsI h 354 (83 * s + 46) (nI fb)) 354 (83 * s + 48) 0) 355 (34 * s + (30 + 3)) 0) 354 (83 * s + (22 + i)) = ((fU x.2.1).getD i (0, 0)).2 := by rw [gd_at hi]; exact hf
      have ef2 : hpI (hsL (hsI (hsI h 354 (83 * s + 46) (nI fb)) 354 (83 * s + 48) 0) 355 (34 * s + 33) 0) 354 (83 * s + (22 + i)) = ((fU x.2.1).getD i (0, 0)).2 := ef
      rw [ef2]
      exact mx_uV (ih.cal _ (d - 1) g _ _ x2 s js G V P Z n0 m0 hx2' (hb1 i et) hz4 (Or.inl rfl) p3) fun h1 ps => at80 h1 ps pz.2.1.2.2.1 pz.1 pz.2.2.2
end MXR7
