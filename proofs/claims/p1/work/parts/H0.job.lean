/-! Jobs: Machine.makeJob, runJob -/
section MXJB
variable {C : cC} {h h1 h2 h6 : mxH} {s s' d t k sl o v c i p n : Nat} {w w' : spW} {A A' A2 : Nat → Option Nat} {G G' G2 : List cE} {T : List cT} {Ks : List spH} {P P' : cP} {cur cur' : Option Nat} {pl rn : Int32} {XL XL' FS FS' VS OS inh inh' RS RS' : List Nat} {D : pmC} {e : cE} {x y : Nat} {fh hs : spH} {F F1 Fy : spF} {en en' : Bool} {jb jb' : List spJ} {js js' jl : List Nat} {l : List spH} {bh pu j : Int32} {last bg : Bool} {ah : Option Nat} {q0 : cT}
theorem CG.setJ (g : CG C h s w A ((x, (F, en, jb), js) :: G) T Ks P cur pl rn XL FS VS OS inh) (e1 : hpN h1 = hpN h ∧ hpC h1 = hpC h ∧ hpS h1 = hpS h ∧ hpK h1 = hpK h ∧ hpZ h1 = hpZ h ∧ hpL h1 = hpL h) (eI : ∀ b, b ≠ x → b ≠ x + 11 → b ≠ x + 12 → hpI h1 b = hpI h b) (eX : ∀ k, k ≠ 14 → hpI h1 x k = hpI h x k) (eR : ∀ b, b ≠ x + 10 → hpR h1 b = hpR h b) (cj : CJ (kcD C) h1 x en jb' js') : CG C h1 s w A ((x, (F, en, jb'), js') :: G) T Ks P cur pl rn XL FS VS OS inh := by
  obtain ⟨k0, fc, wc0, oi, cu0, cgs, cgp, cgf, cgr, cgq, cn⟩ := g
  obtain ⟨sx, hx, so⟩ := cgs.sx
  obtain ⟨s1, s2, s3, s4, s5, s6⟩ := cgs
  obtain ⟨eN, eC, eS, eK, eZ, eL⟩ := e1
  have nx : ∀ i, i < 13 → hpK h (x + i) ≠ 5 := fun i hi => sx.ne5 hi
  have fp : FP h h1 := ⟨by omega, fun a _ => ⟨by rw [eK], by rw [eZ], fun k hk => by
    by_cases c : a = x + 10
    · subst c
      rw [sx.k10] at hk; exact absurd hk List.not_mem_nil
    · rw [eR a c]⟩⟩
  have el : CLn h1 = CLn h := CLn_cg (fun b g1 g2 => eI b (by omega) (by omega) (by omega))
  have o5 : ∀ o, hpK h o = 5 → o ≠ x ∧ o ≠ x + 11 ∧ o ≠ x + 12 ∧ o ≠ x + 10 := fun o k => ⟨fun c => nx 0 (by decide) (by rw [← c]; exact k), fun c => nx 11 (by decide) (by rw [← c]; exact k), fun c => nx 12 (by decide) (by rw [← c]; exact k), fun c => nx 10 (by decide) (by rw [← c]; exact k)⟩
  have r18 : ∀ sl ∈ cRS XL VS, hpR h1 sl = hpR h sl := fun sl hs => eR sl (fun c => by
    have := (oi.2.2.1 sl hs).1.2
    rw [c, sx.k10] at this
    exact absurd this (by decide))
  refine ⟨k0, fc.tr k0.2.1 fp fun a ha => ⟨eI a (by have := cst_in ha; omega) (by have := cst_in ha; omega) (by have := cst_in ha; omega), by rw [eL], fun _ => eR a (by have := cst_in ha; omega)⟩, ⟨wc0.1.fp fp, ?_, CPh_cg wc0.2.2.1 (fun b hb => eI b (by omega) (by omega) (by omega)), wc0.2.2.2.cg eN eK (fun o k ho => by
      rcases ea : A o with _ | a
      · exact absurd ea ho
      · have q := o5 o (wc0.2.2.2.1 o a ea).1.2
        rw [eI o q.1 q.2.1 q.2.2.1]) rfl (Nat.le_refl _) (Nat.le_refl _)⟩, oi.cg eN eK eZ (fun a ha k _ => by rw [r18 a ha]) (fun o ho => ?_) (by rw [eR 135 (by omega)]), CU_cg cu0 (fun b g1 g2 => eI b (by omega) (by omega) (by omega)), ⟨fun e he => ?_, s2, s3, s4, fun y hy => ⟨(s5 y hy).1.fp fp, (s5 y hy).2⟩, ?_⟩, fun e he => ?_, ?_, ?_, ⟨fun y hy k hk => ?_, fun v l q => by rw [el]; exact cgq.2 v l q⟩, ?_⟩
  · show CW (CLn h1) (hpI h1 140) (hpI h1 (140 + 2)) (hpI h1 (140 + 3)) (hpI h1 (140 + 4)) (hpI h1 (140 + 5)) (hpI h1 (140 + 19)) (hpL h1 (140 + 1)) s w
    rw [el, eL, eI 140 (by omega) (by omega) (by omega), eI (140 + 2) (by omega) (by omega) (by omega), eI (140 + 3) (by omega) (by omega) (by omega), eI (140 + 4) (by omega) (by omega) (by omega), eI (140 + 5) (by omega) (by omega) (by omega), eI (140 + 19) (by omega) (by omega) (by omega)]
    exact wc0.2.1
  · have q := o5 o ho.2
    exact ⟨by rw [eI o q.1 q.2.1 q.2.2.1], by rw [eR o q.2.2.2]⟩
  · rcases List.mem_cons.mp he with rfl | he
    · obtain ⟨-, c2, c3, c4⟩ := s1 _ List.mem_cons_self
      refine ⟨sx.fp fp, ?_, fun k hk => ?_, cj⟩
      · obtain ⟨v, u, ac, h4, h5, h6, h7, h8, h9, h10, h11⟩ := id c2
        show CF (kcD C) (CLn h1) h1 x F
        unfold CF
        rw [el, eI (x + 1) (by omega) (by omega) (by omega), eI (x + 3) (by omega) (by omega) (by omega), eI (x + 4) (by omega) (by omega) (by omega), eI (x + 6) (by omega) (by omega) (by omega), eL, eX 4 (by decide), eX 5 (by decide), eX 6 (by decide), eX 7 (by decide), eX 8 (by decide), eX 9 (by decide)]
        exact c2
      · show RHc A (hpR h1 (x + 9) k) (fH F k)
        rw [eR (x + 9) (by omega)]; exact c3 k hk
    · obtain ⟨⟨sy, hy⟩, ap⟩ := so e he
      exact (s1 e (List.mem_cons_of_mem _ he)).cg fp (fun i hi => eI (e.1 + i) (by omega) (by omega) (by omega)) (fun i hi => by rw [eL]) (fun i _ _ k _ => by rw [eR (e.1 + i) (by omega)]) (fun _ _ c => c) (fun v l c => by rw [el]; exact c)
  · rw [eR 282 (by omega)]
    refine s6.cg (fun y hy => ?_)
    have sz := (s5 y ((s3 y).mpr (List.mem_append_right _ hy))).1
    rw [eR y (fun c => by
      have := sz.k0
      rw [c, sx.k10] at this
      exact absurd this (by decide))]
  · rcases List.mem_cons.mp he with rfl | he
    · have c := cgp _ List.mem_cons_self
      exact ⟨by rw [eR x (by omega)]; exact c.1, by rw [eX 12 (by decide)]; exact c.2.1, by rw [eX 11 (by decide)]; exact c.2.2⟩
    · obtain ⟨⟨sy, hy⟩, ap⟩ := so e he
      have q := cgp e (List.mem_cons_of_mem _ he)
      rw [eI e.1 (by omega) (by omega) (by omega), eR e.1 (by omega)]
      exact q
  · obtain ⟨g1, g2, g3, g4, g5, g6, g7, g8⟩ := cgf
    unfold CGf
    rw [eI 285 (by omega) (by omega) (by omega), eI 282 (by omega) (by omega) (by omega), eR 288 (by omega)]
    exact ⟨g1, g2, g3, g4.cg fp (fun v hv => ⟨(oi.2.2.1 (v + 1) (by unfold cRS; simp; exact Or.inr (Or.inr (Or.inr hv)))).1.1, by have := wc0.1.1; omega⟩) (fun k => by rw [eR 286 (by omega)]) (fun v hv k _ => by rw [r18 (v + 1) (by unfold cRS; simp; exact Or.inr (Or.inr (Or.inr hv)))]) (fun _ _ c => c), g5, g6, g7, g8⟩
  · unfold CGr at cgr ⊢
    rw [eI 282 (by omega) (by omega) (by omega), eR 282 (by omega)]
    exact cgr
  · have my : y + 9 ∈ cRS XL VS := by unfold cRS; simp; exact Or.inr (Or.inr (Or.inl hy))
    rw [r18 _ my]
    refine ⟨(cgq.1 y hy k hk).1, fun o ho => ?_⟩
    have q := (cgq.1 y hy k hk).2 o ho
    have k5 := o5 o ((oi.2.2.1 (y + 9) my).2.2 k hk o ho).2
    exact ⟨q.1, fun c hc => by rw [eI o k5.1 k5.2.1 k5.2.2.1]; exact q.2 c hc⟩
  · unfold CN mx_kd at cn ⊢
    rw [eN, eC, eS, eK]
    exact cn
theorem CG.cj (g : CG C h s w A ((x, (F, en, jb), js) :: G) T Ks P cur pl rn XL FS VS OS inh) : CJ (kcD C) h x en jb js := (g.2.2.2.2.2.1.1 _ List.mem_cons_self).2.2.2
/-- one more job -/
theorem g_addJob {v : Int32} (hj : jb.length < 8) (g : CG C h s w A ((x, (F, en, jb), js) :: (y, (Fy, false, []), []) :: G) T Ks P cur (nI (kPl (kcD C) v)) rn XL FS VS OS inh) : mx_SM mY_X8_addJob d [.ref x, .ref y, .int (nI (kPl (kcD C) v))] h (fun r h1 => r = .inl (some (.int 1)) ∧ CG C h1 s w A ((x, (F, en, jb ++ [(0, 0, v, Fy)]), js ++ [y]) :: (y, (Fy, false, []), []) :: G) T Ks P cur (nI (kPl (kcD C) v)) rn XL FS VS OS inh) := by
  obtain ⟨sx, hx⟩ := g.sb
  obtain ⟨c1, c2, c3, c4, c5⟩ := g.cj
  have sy := (g.2.2.2.2.2.1.sx.2.2 _ List.mem_cons_self).1.1
  refine (k_X8_addJob sx c2 hj sy.k0).mono ?_
  rintro r _ ⟨rfl, rfl⟩
  have L1 : (jb ++ [((0 : Nat), (0 : Int32), v, Fy)]).length = jb.length + 1 := by rw [List.length_append]; rfl
  have L2 : (js ++ [y]).length = js.length + 1 := by rw [List.length_append]; rfl
  have i10 : hpR (hsI (hsI (hsI (hsR h (x + 10) jb.length (some y)) (x + 11) jb.length (nI (kPl (kcD C) v))) (x + 12) jb.length (-1)) x 14 (nI (jb.length + 1))) (x + 10) = fup (hpR h (x + 10)) jb.length (some y) := by
    funext k
    show hpR (hsR h (x + 10) jb.length (some y)) (x + 10) k = _
    rw [hpR_sR, if_pos rfl]; rfl
  have i11 : ∀ k, hpI (hsI (hsI (hsI (hsR h (x + 10) jb.length (some y)) (x + 11) jb.length (nI (kPl (kcD C) v))) (x + 12) jb.length (-1)) x 14 (nI (jb.length + 1))) (x + 11) k = fup (hpI h (x + 11)) jb.length (nI (kPl (kcD C) v)) k := fun k => by
    rw [hpI_sIn (by omega), hpI_sIn (by omega), hpI_sIe]; rfl
  have i12 : ∀ k, hpI (hsI (hsI (hsI (hsR h (x + 10) jb.length (some y)) (x + 11) jb.length (nI (kPl (kcD C) v))) (x + 12) jb.length (-1)) x 14 (nI (jb.length + 1))) (x + 12) k = fup (hpI h (x + 12)) jb.length (-1) k := fun k => by
    rw [hpI_sIn (by omega), hpI_sIe]
    show fup (hpI (hsI (hsR h (x + 10) jb.length (some y)) (x + 11) jb.length (nI (kPl (kcD C) v))) (x + 12)) jb.length (-1) k = _
    rw [show hpI (hsI (hsR h (x + 10) jb.length (some y)) (x + 11) jb.length (nI (kPl (kcD C) v))) (x + 12) = hpI h (x + 12) by funext q; rw [hpI_sIn (by omega)]; rfl]
  have i0 : ∀ k, hpI (hsI (hsI (hsI (hsR h (x + 10) jb.length (some y)) (x + 11) jb.length (nI (kPl (kcD C) v))) (x + 12) jb.length (-1)) x 14 (nI (jb.length + 1))) x k = fup (hpI h x) 14 (nI (jb.length + 1)) k := fun k => by
    rw [hpI_sIe]
    show fup (hpI (hsI (hsI (hsR h (x + 10) jb.length (some y)) (x + 11) jb.length (nI (kPl (kcD C) v))) (x + 12) jb.length (-1)) x) 14 _ k = _
    rw [show hpI (hsI (hsI (hsR h (x + 10) jb.length (some y)) (x + 11) jb.length (nI (kPl (kcD C) v))) (x + 12) jb.length (-1)) x = hpI h x by funext q; rw [hpI_sIn (by omega), hpI_sIn (by omega)]; rfl]
  have iO : ∀ b, b ≠ x → b ≠ x + 11 → b ≠ x + 12 → hpI (hsI (hsI (hsI (hsR h (x + 10) jb.length (some y)) (x + 11) jb.length (nI (kPl (kcD C) v))) (x + 12) jb.length (-1)) x 14 (nI (jb.length + 1))) b = hpI h b := fun b h1 h2 h3 => by
    funext q
    rw [hpI_sIn h1, hpI_sIn h3, hpI_sIn h2]; rfl
  have rO : ∀ b, b ≠ x + 10 → hpR (hsI (hsI (hsI (hsR h (x + 10) jb.length (some y)) (x + 11) jb.length (nI (kPl (kcD C) v))) (x + 12) jb.length (-1)) x 14 (nI (jb.length + 1))) b = hpR h b := fun b h1 => by
    funext q
    show hpR (hsR h (x + 10) jb.length (some y)) b q = _
    rw [hpR_sRn h1]
  have nn : hpN (hsI (hsI (hsI (hsR h (x + 10) jb.length (some y)) (x + 11) jb.length (nI (kPl (kcD C) v))) (x + 12) jb.length (-1)) x 14 (nI (jb.length + 1))) = hpN h ∧ hpC (hsI (hsI (hsI (hsR h (x + 10) jb.length (some y)) (x + 11) jb.length (nI (kPl (kcD C) v))) (x + 12) jb.length (-1)) x 14 (nI (jb.length + 1))) = hpC h ∧ hpS (hsI (hsI (hsI (hsR h (x + 10) jb.length (some y)) (x + 11) jb.length (nI (kPl (kcD C) v))) (x + 12) jb.length (-1)) x 14 (nI (jb.length + 1))) = hpS h ∧ hpK (hsI (hsI (hsI (hsR h (x + 10) jb.length (some y)) (x + 11) jb.length (nI (kPl (kcD C) v))) (x + 12) jb.length (-1)) x 14 (nI (jb.length + 1))) = hpK h ∧ hpZ (hsI (hsI (hsI (hsR h (x + 10) jb.length (some y)) (x + 11) jb.length (nI (kPl (kcD C) v))) (x + 12) jb.length (-1)) x 14 (nI (jb.length + 1))) = hpZ h ∧ hpL (hsI (hsI (hsI (hsR h (x + 10) jb.length (some y)) (x + 11) jb.length (nI (kPl (kcD C) v))) (x + 12) jb.length (-1)) x 14 (nI (jb.length + 1))) = hpL h := ⟨rfl, rfl, rfl, rfl, rfl, rfl⟩
  generalize hsI (hsI (hsI (hsR h (x + 10) jb.length (some y)) (x + 11) jb.length (nI (kPl (kcD C) v))) (x + 12) jb.length (-1)) x 14 (nI (jb.length + 1)) = H at i10 i11 i12 i0 iO rO nn ⊢
  refine ⟨rfl, g.setJ nn iO (fun k hk => by rw [i0, fup_n hk]) rO ⟨by rw [i0, fup_n (by decide)]; exact c1, by rw [i0, fup_e, L1], by omega, by omega, fun k hk hj => ?_⟩⟩
  rw [i10, i11, i12]
  by_cases c : k < jb.length
  · rw [fup_n (by omega), fup_n (by omega), fup_n (by omega), List.getElem_append_left c, List.getElem_append_left (by omega)]
    exact c5 k c (by omega)
  · have ek : k = jb.length := by omega
    subst ek
    rw [fup_e, fup_e, fup_e, List.getElem_append_right (Nat.le_refl _), List.getElem_append_right (by omega)]
    simp only [Nat.sub_self, List.getElem_cons_zero, c4]
    refine ⟨?_, ?_, ?_⟩
    all_goals first
      | trivial
      | rfl
end MXJB
