/-! Machine.fork -/
section MXFK
variable {C : cC} {h h1 h2 h6 : mxH} {s s' d t k sl o v c i p : Nat} {w w' : spW} {A A' A2 : Nat → Option Nat} {G G' : List cE} {T : List cT} {Ks : List spH} {P : cP} {cur : Option Nat} {pl rn : Int32} {XL XL' FS FS' VS OS inh inh' RS RS' : List Nat} {D : pmC} {e : cE} {x y : Nat} {fh hs : spH} {F F1 : spF} {en en' : Bool} {jb : List spJ} {js jl : List Nat} {l : List spH}
theorem sbK_18 : ∀ i, i < 13 → i ≠ 9 → sbK i ≠ 18 := by decide
theorem CG.fk (g : CG C h s w A ((x, (F, en, jb), js) :: G) T Ks P cur pl rn XL FS VS OS []) (fp : FP h h6)
    (eI : ∀ a k, a < hpN h → ¬ blk y a → (hpK h a ≠ 5 ∨ k ≠ 4) → hpI h6 a k = hpI h a k) (eL : ∀ a, a < hpN h → ¬ blk y a → hpL h6 a = hpL h a)
    (eR : ∀ a k, a < hpN h → ¬ blk y a → hpK h a ≠ 18 → (hpK h a ≠ 5 ∨ k ≠ 5) → (a ≠ 135 ∨ k ≠ 0) → (a ≠ 282 ∨ k ≠ 8) → hpR h6 a k = hpR h a k)
    (oi6 : OI h6 (cRS XL' VS) []) (rows : ∀ a ∈ cRS XL VS, a ≠ y + 9 → ∀ k, k < 10 → hpR h6 a k = hpR h a k) (rowY : ∀ k, k < 10 → hpR h6 (y + 9) k = hpR h (x + 9) k)
    (sy : SB h6 y) (yx : 365 ≤ y) (cfy : CF (kcD C) (CLn h) h6 y (subF F)) (y10 : hpI h6 y 10 = 0) (y12 : hpI h6 y 12 = 0) (y13 : hpR h6 y 13 = none) (y14 : hpI h6 y 14 = 0)
    (nY : ((y :: x :: G.map (fun e => e.1)) ++ FS').Nodup) (iX : ∀ z, z ∈ XL' ↔ z ∈ (y :: x :: G.map (fun e => e.1)) ++ FS') (ap : aparT XL') (sbX : ∀ z ∈ XL', SB h6 z ∧ (z = 146 ∨ 365 ≤ z))
    (cfs : CFs (hpR h6) (hpR h6 282 8) FS') (cn6 : CN (kcH C) h6 XL' VS OS (cRS XL' VS) []) :
    CG C h6 s w A ((y, (subF F, false, []), []) :: (x, (F, en, jb), js) :: G) T Ks (fup P y (none, 0, hpI h6 y 11)) cur pl rn XL' FS' VS OS [] := by
  obtain ⟨k0, fc, ⟨w1, w2, w3, w4⟩, oi, cu0, cgs, cgp, ⟨g1, g2, g3, g4, g5, g6, g7, g8⟩, cgr, cgq, cn⟩ := g
  have so : ∀ e ∈ (x, (F, en, jb), js) :: G, SB h e.1 ∧ (e.1 = 146 ∨ 365 ≤ e.1) := fun e he => cgs.at he
  obtain ⟨s1, s2, s3, s4, s5, s6⟩ := cgs
  have N := w1.1
  have my : y ∈ XL' := (iX y).mpr (by simp)
  have rI : ∀ b, b < hpN h → ¬ blk y b → hpK h b ≠ 5 → hpI h6 b = hpI h b := fun b h1 h2 h3 => by funext k; exact eI b k h1 h2 (Or.inl h3)
  have rR : ∀ b, b < hpN h → ¬ blk y b → hpK h b ≠ 5 → hpK h b ≠ 18 → b ≠ 135 → b ≠ 282 → hpR h6 b = hpR h b := fun b h1 h2 h3 h4 h5 h6 => by funext k; exact eR b k h1 h2 h4 (Or.inl h3) (Or.inl h5) (Or.inl h6)
  have st : ∀ b, b < 365 → b < hpN h ∧ ¬ blk y b := fun b hb => ⟨by omega, fun c => by have := c.1; omega⟩
  have el : CLn h6 = CLn h := CLn_cg (fun b q1 q2 => rI b (st b (by omega)).1 (st b (by omega)).2 (sc_ne5 w1 (by omega)))
  have mV : ∀ z ∈ VS, z + 1 ∈ cRS XL VS := fun z hz => by unfold cRS; simp; exact Or.inr (Or.inr (Or.inr hz))
  have mV' : ∀ z ∈ VS, z + 1 ∈ cRS XL' VS := fun z hz => by unfold cRS; simp; exact Or.inr (Or.inr (Or.inr hz))
  have mP : ∀ z ∈ pastX, z + 9 ∈ cRS XL VS := fun z hz => by unfold cRS; simp; exact Or.inr (Or.inr (Or.inl hz))
  have nV : ∀ z ∈ VS, z + 1 ≠ y + 9 := by
    intro z hz c
    have nd := oi6.1
    unfold cRS at nd
    exact (List.nodup_append.mp nd).2.2 (y + 9) (List.mem_map.mpr ⟨y, my, rfl⟩) (z + 1) (by simp; exact Or.inr (Or.inr hz)) c.symm
  have ne : ∀ e ∈ (x, (F, en, jb), js) :: G, e.1 ≠ y ∧ e.1 ∈ XL' ∧ e.1 ∈ XL := by
    intro e he
    have m1 : e.1 ∈ (x :: G.map (fun e => e.1)) ++ FS' := List.mem_append_left _ (by
      rcases List.mem_cons.mp he with rfl | he
      · exact List.mem_cons_self
      · exact List.mem_cons_of_mem _ (List.mem_map.mpr ⟨e, he, rfl⟩))
    refine ⟨fun c => ?_, (iX e.1).mpr (by rw [List.cons_append]; exact List.mem_cons_of_mem _ m1), (s3 e.1).mpr (List.mem_append_left _ (List.mem_map.mpr ⟨e, he, rfl⟩))⟩
    rw [List.cons_append] at nY
    exact (List.nodup_cons.mp nY).1 (by rw [← c]; exact m1)
  have apa : ∀ e ∈ (x, (F, en, jb), js) :: G, ∀ i, i < 13 → e.1 + i < hpN h ∧ ¬ blk y (e.1 + i) := by
    intro e he i hi
    obtain ⟨n1, n2, n3⟩ := ne e he
    have a := ap.at my n2 (fun c => n1 c.symm)
    have z := (so e he).1.1
    exact ⟨by omega, fun c => by have := c.1; have := c.2; omega⟩
  have n282 := sc_ne5b w1 (b := 282) (by decide)
  refine ⟨k0, fc.tr k0.2.1 fp fun a ha => ?_, ⟨w1.fp fp, ?_, ?_, ?_⟩, oi6, CU_cg cu0 (fun b q1 q2 => rI b (st b (by omega)).1 (st b (by omega)).2 ?_), ⟨fun e he => ?_, nY, iX, ap, sbX, cfs⟩, fun e he => ?_, ⟨?_, ?_, g3, ?_, ?_, g6, g7, fun k hk => ?_⟩, ?_, ⟨fun z hz k hk => ?_, fun v l q => by rw [el]; exact cgq.2 v l q⟩, cn6⟩
  · have cin := cst_in ha
    have q := st a (by omega)
    exact ⟨rI a q.1 q.2 (k0.ne5 fc ha), eL a q.1 q.2, fun h18 => rR a q.1 q.2 (k0.ne5 fc ha) h18 (by omega) (by omega)⟩
  · show CW (CLn h6) (hpI h6 140) (hpI h6 (140 + 2)) (hpI h6 (140 + 3)) (hpI h6 (140 + 4)) (hpI h6 (140 + 5)) (hpI h6 (140 + 19)) (hpL h6 (140 + 1)) s w
    rw [el, eL (140 + 1) (st _ (by decide)).1 (st _ (by decide)).2, rI 140 (st _ (by decide)).1 (st _ (by decide)).2 (sc_ne5 w1 (by decide)), rI (140 + 2) (st _ (by decide)).1 (st _ (by decide)).2 (sc_ne5 w1 (by decide)), rI (140 + 3) (st _ (by decide)).1 (st _ (by decide)).2 (sc_ne5 w1 (by decide)), rI (140 + 4) (st _ (by decide)).1 (st _ (by decide)).2 (sc_ne5 w1 (by decide)), rI (140 + 5) (st _ (by decide)).1 (st _ (by decide)).2 (sc_ne5 w1 (by decide)), rI (140 + 19) (st _ (by decide)).1 (st _ (by decide)).2 (sc_ne5 w1 (by decide))]
    exact w2
  · exact CPh_cg w3 (fun b hb => rI b (st b (by omega)).1 (st b (by omega)).2 (sc_ne5 w1 (by omega)))
  · refine ⟨fun o a ho => ?_, w4.2⟩
    obtain ⟨q0, q, q1, q2, q3, q4, q5, q6, q7, q8⟩ := w4.1 o a ho
    have nb : ¬ blk y o := fun c => by
      have k5 := (fp.2 o q0.1).1
      have := (sy.2.1 (o - y) (by have := c.2; omega)).1
      rw [show y + (o - y) = o by have := c.1; omega, k5, q0.2] at this
      exact sbK_ne5 (o - y) (by have := c.2; have := c.1; omega) this.symm
    have f : ∀ k, k < 4 → hpI h6 o k = hpI h o k := fun k hk => eI o k q0.1 nb (Or.inr (by omega))
    exact ⟨fp.kd q0, q, q1, by rw [f 0 (by decide)]; exact q2, q3, q4, by rw [f 3 (by decide)]; exact q5, q6, fun r => by rw [f 1 (by decide)]; exact q7 r, fun r => by rw [f 2 (by decide)]; exact q8 r⟩
  · rcases Nat.eq_or_lt_of_le q1 with c | c
    · exact sc_ne5b w1 (by omega)
    · exact sc_ne5 w1 (by omega)
  · rcases List.mem_cons.mp he with rfl | he
    · obtain ⟨-, -, c3, -⟩ := s1 _ List.mem_cons_self
      refine ⟨sy, ?_, fun k hk => ?_, ?_⟩
      · show CF (kcD C) (CLn h6) h6 y (subF F)
        rw [el]; exact cfy
      · show RHc A (hpR h6 (y + 9) k) (fH F k)
        rw [rowY k hk]; exact c3 k hk
      · exact ⟨y10, y14, Nat.zero_le _, rfl, fun k hk => absurd hk (Nat.not_lt_zero _)⟩
    · have n := ne e he
      have sz := (so e he).1
      have ez := (so e he).2
      refine (s1 e he).cg fp (fun i hi => rI _ (apa e he i hi).1 (apa e he i hi).2 (sz.ne5 hi)) (fun i hi => eL _ (apa e he i hi).1 (apa e he i hi).2) (fun i hi i0 k hk => ?_) (fun _ _ c => c) (fun v l c => by rw [el]; exact c)
      by_cases c9 : i = 9
      · subst c9
        exact rows (e.1 + 9) (by unfold cRS; exact List.mem_append_left _ (List.mem_map.mpr ⟨e.1, n.2.2, rfl⟩)) (fun c => n.1 (by omega)) k hk
      · rw [rR _ (apa e he i hi).1 (apa e he i hi).2 (sz.ne5 hi) (by rw [(sz.2.1 i hi).1]; exact sbK_18 i hi c9) (by omega) (by omega)]
  · rcases List.mem_cons.mp he with rfl | he
    · show hpR h6 y 13 = (fup P y (none, 0, hpI h6 y 11) y).1 ∧ hpI h6 y 12 = (fup P y (none, 0, hpI h6 y 11) y).2.1 ∧ hpI h6 y 11 = (fup P y (none, 0, hpI h6 y 11) y).2.2
      rw [fup_e]; exact ⟨y13, y12, rfl⟩
    · have c := cgp e he
      have sz := (so e he).1
      have ez := (so e he).2
      have q := apa e he 0 (by decide)
      rw [fup_n (ne e he).1, rI e.1 q.1 q.2 (sz.ne5 (i := 0) (by decide)), rR e.1 q.1 q.2 (sz.ne5 (i := 0) (by decide)) (by rw [sz.k0]; decide) (by omega) (by omega)]
      exact c
  · rw [rI 285 (st _ (by decide)).1 (st _ (by decide)).2 (sc_ne5b w1 (by decide))]; exact g1
  · rw [rI 282 (st _ (by decide)).1 (st _ (by decide)).2 n282]; exact g2
  · exact g4.cg fp (fun v hv => ⟨(oi.2.2.1 (v + 1) (mV v hv)).1.1, by omega⟩) (fun k => by rw [rR 286 (st _ (by decide)).1 (st _ (by decide)).2 (by rw [sc_k286 w1]; decide) (by rw [sc_k286 w1]; decide) (by decide) (by decide)]) (fun v hv k hk => rows (v + 1) (mV v hv) (nV v hv) k hk) (fun _ _ c => c)
  · rw [rI 282 (st _ (by decide)).1 (st _ (by decide)).2 n282]; exact g5
  · rw [rows 288 (by unfold cRS; simp) (by omega) k hk]; exact g8 k hk
  · obtain ⟨r1, r2, r3, r4⟩ := cgr
    have f : ∀ k, k ≠ 8 → hpR h6 282 k = hpR h 282 k := fun k hk => eR 282 k (st _ (by decide)).1 (st _ (by decide)).2 (by rw [sc_k282 w1]; decide) (Or.inl n282) (Or.inl (by decide)) (Or.inr hk)
    unfold CGr
    rw [rI 282 (st _ (by decide)).1 (st _ (by decide)).2 n282, f 10 (by decide), f 9 (by decide)]
    exact ⟨r1, r2, r3, r4⟩
  · have pN : ∀ z ∈ pastX, z + 9 < 365 := by decide
    have z3 := pN z hz
    rw [rows (z + 9) (mP z hz) (by omega) k hk]
    refine ⟨(cgq.1 z hz k hk).1, fun o ho => ?_⟩
    have q := (cgq.1 z hz k hk).2 o ho
    have q0 := (oi.2.2.1 (z + 9) (mP z hz)).2.2 k hk o ho
    have nb : ¬ blk y o := fun c => by
      have k5 := (fp.2 o q0.1).1
      have := (sy.2.1 (o - y) (by have := c.2; omega)).1
      rw [show y + (o - y) = o by have := c.1; omega, k5, q0.2] at this
      exact sbK_ne5 (o - y) (by have := c.2; have := c.1; omega) this.symm
    exact ⟨q.1, fun c hc => by rw [eI o c q0.1 nb (Or.inr (by omega))]; exact q.2 c hc⟩
end MXFK
