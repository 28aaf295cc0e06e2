/-! CG where the shell's own numbers, or the world's, change -/
section MXOW
variable {C : cC} {h h1 h2 : mxH} {s s' d t k : Nat} {w w' : spW} {A A' : Nat → Option Nat} {G : List cE} {T : List cT} {Ks : List spH} {P : cP} {cur : Option Nat} {pl rn : Int32} {XL FS VS OS inh : List Nat} {D : pmC} {e : cE} {x : Nat} {fh : spH} {F F' : spF} {en en' : Bool} {jb : List spJ} {js : List Nat} {p : Nat → Prop} {a b c v : Int32} {ln : Int32 → spL → Prop}
theorem CG.ln0 (g : CG C h s w A G T Ks P cur pl rn XL FS VS OS inh) : CLn h 0 [] := g.2.2.2.2.1.nil
theorem x0_oth : ∀ a, a ≠ x → hpI (hsI h x k v) a = hpI h a := fun a ha => by funext j; rw [hpI_sIn ha]
theorem CG.x0 (hk : k ≤ 9) (g : CG C h s w A ((x, (F, en, jb), js) :: G) T Ks P cur pl rn XL FS VS OS inh) (cf : CF (kcD C) (CLn h) (hsI h x k v) x F') (hH : fH F' = fH F) : CG C (hsI h x k v) s w A ((x, (F', en, jb), js) :: G) T Ks P cur pl rn XL FS VS OS inh := by
  have wc := g.2.2.1
  obtain ⟨sx, hx, -⟩ := g.2.2.2.2.2.1.sx
  have nx := (sb_ne5 sx).1
  have e : ExL (fun b => b = x) (fun _ => False) h (hsI h x k v) := ExL.rf.I rfl
  have el : CLn (hsI h x k v) = CLn h := CLn_cg (fun b g1 g2 => x0_oth b (by omega))
  refine g.loc (LC.ofL e (fun b hb => Or.inr (Or.inr (Or.inr (Or.inr (Or.inl hb))))) (fun b hb => hb.elim) (fun o ho c => ?_) (fun j hj => by rw [hpI_sIe, fup_n (by omega)])) (wc.cgL e (fun b hb c => ?_) (fun c => c)) (by rw [el]; exact cf) (CU_cg g.2.2.2.2.1 (fun b g1 g2 => x0_oth b (by omega))) (fun v l c => by rw [el]; exact c) hH
  · rw [c] at ho; exact wc.2.2.2.nn nx ho
  · rcases hb with hb | hb
    · omega
    · rw [c] at hb; exact wc.2.2.2.nn nx hb
theorem CF.x0 (cf : CF D ln h x F) (hv : fV F' = fV F ∧ fU F' = fU F ∧ fA F' = fA F) (h4 : hpI h1 x 4 = if fP F' = true then 1 else 0) (h5 : hpI h1 x 5 = if fG F' = true then 1 else 0) (h6 : hpI h1 x 6 = fS F') (h7 : hpI h1 x 7 = fD F') (h8 : hpI h1 x 8 = nI (fN F') ∧ fN F' ≤ 4) (h9 : hpI h1 x 9 = nI (fB F') ∧ fB F' ≤ 4) (eI : ∀ a, a ≠ x → hpI h1 a = hpI h a) (eL : hpL h1 = hpL h) : CF D ln h1 x F' := by
  obtain ⟨v, u, ac, -⟩ := cf
  unfold CF
  rw [eI (x + 1) (by omega), eI (x + 3) (by omega), eI (x + 4) (by omega), eI (x + 6) (by omega), eL, hv.1, hv.2.1, hv.2.2]
  exact ⟨v, u, ac, h4, h5, h6, h7, h8.1, h8.2, h9.1, h9.2⟩
theorem CF.st (cf : CF D ln h x F) : CF D ln (hsI h x 6 v) x (vS F v) := by
  obtain ⟨-, -, -, h4, h5, h6, h7, h8, h9, h10, h11⟩ := id cf
  have f : ∀ j, j ≠ 6 → hpI (hsI h x 6 v) x j = hpI h x j := fun j hj => by rw [hpI_sIe, fup_n hj]
  exact cf.x0 ⟨rfl, rfl, rfl⟩ (by rw [f 4 (by decide)]; exact h4) (by rw [f 5 (by decide)]; exact h5) (by rw [hpI_sIe, fup_e]) (by rw [f 7 (by decide)]; exact h7) ⟨by rw [f 8 (by decide)]; exact h8, h9⟩ ⟨by rw [f 9 (by decide)]; exact h10, h11⟩ x0_oth rfl
theorem CF.ns {n : Nat} (cf : CF D ln h x F) (hn : n ≤ 4) : CF D ln (hsI h x 8 (nI n)) x (vN F n) := by
  obtain ⟨-, -, -, h4, h5, h6, h7, h8, h9, h10, h11⟩ := id cf
  have f : ∀ j, j ≠ 8 → hpI (hsI h x 8 (nI n)) x j = hpI h x j := fun j hj => by rw [hpI_sIe, fup_n hj]
  exact cf.x0 ⟨rfl, rfl, rfl⟩ (by rw [f 4 (by decide)]; exact h4) (by rw [f 5 (by decide)]; exact h5) (by rw [f 6 (by decide)]; exact h6) (by rw [f 7 (by decide)]; exact h7) ⟨by rw [hpI_sIe, fup_e], hn⟩ ⟨by rw [f 9 (by decide)]; exact h10, h11⟩ x0_oth rfl
theorem CF.bg {b : Bool} (cf : CF D ln h x F) : CF D ln (hsI h x 5 (if b = true then 1 else 0)) x (vG F b) := by
  obtain ⟨-, -, -, h4, h5, h6, h7, h8, h9, h10, h11⟩ := id cf
  have f : ∀ j, j ≠ 5 → hpI (hsI h x 5 (if b = true then 1 else 0)) x j = hpI h x j := fun j hj => by rw [hpI_sIe, fup_n hj]
  exact cf.x0 ⟨rfl, rfl, rfl⟩ (by rw [f 4 (by decide)]; exact h4) (by rw [hpI_sIe, fup_e]) (by rw [f 6 (by decide)]; exact h6) (by rw [f 7 (by decide)]; exact h7) ⟨by rw [f 8 (by decide)]; exact h8, h9⟩ ⟨by rw [f 9 (by decide)]; exact h10, h11⟩ x0_oth rfl
theorem CG.cf (g : CG C h s w A ((x, (F, en, jb), js) :: G) T Ks P cur pl rn XL FS VS OS inh) : CF (kcD C) (CLn h) h x F := (g.2.2.2.2.2.1.1 _ List.mem_cons_self).2.1
theorem CG.st (g : CG C h s w A ((x, (F, en, jb), js) :: G) T Ks P cur pl rn XL FS VS OS inh) : CG C (hsI h x 6 v) s w A ((x, (vS F v, en, jb), js) :: G) T Ks P cur pl rn XL FS VS OS inh := g.x0 (by decide) g.cf.st rfl
theorem CG.ns {n : Nat} (hn : n ≤ 4) (g : CG C h s w A ((x, (F, en, jb), js) :: G) T Ks P cur pl rn XL FS VS OS inh) : CG C (hsI h x 8 (nI n)) s w A ((x, (vN F n, en, jb), js) :: G) T Ks P cur pl rn XL FS VS OS inh := g.x0 (by decide) (g.cf.ns hn) rfl
theorem CG.bg {b : Bool} (g : CG C h s w A ((x, (F, en, jb), js) :: G) T Ks P cur pl rn XL FS VS OS inh) : CG C (hsI h x 5 (if b = true then 1 else 0)) s w A ((x, (vG F b, en, jb), js) :: G) T Ks P cur pl rn XL FS VS OS inh := g.x0 (by decide) g.cf.bg rfl
/-- the world's own cells -/
theorem CG.wI (g : CG C h s w A ((x, (F, en, jb), js) :: G) T Ks P cur pl rn XL FS VS OS inh) (e : ExL (fun b => (140 ≤ b ∧ b ≤ 145 ∧ b ≠ 141) ∨ b = 159) (fun b => b = 141) h h1) (cw : CWh h1 140 s' w') (eM : wM w' = wM w) (eO : wO w' = wO w) (eU : wU w' = wU w) (lF : (wF w).length ≤ (wF w').length) : CG C h1 s' w' A ((x, (F, en, jb), js) :: G) T Ks P cur pl rn XL FS VS OS inh := by
  have wc := g.2.2.1
  obtain ⟨sx, hx, -⟩ := g.2.2.2.2.2.1.sx
  have nn : ∀ o, A o ≠ none → ¬ ((140 ≤ o ∧ o ≤ 145 ∧ o ≠ 141) ∨ o = 159) := fun o ho c => wc.2.2.2.nn (sc_ne5 wc.1 (b := o) (by omega)) ho
  have r : ∀ b, ¬ ((140 ≤ b ∧ b ≤ 145 ∧ b ≠ 141) ∨ b = 159) → hpI h1 b = hpI h b := fun b hb => e.2.2.2.2.2.2.1 b hb
  have el : CLn h1 = CLn h := CLn_cg (fun b g1 g2 => r b (by omega))
  have cp : CPh h1 w' := by
    have q := CPh_cg (h1 := h1) wc.2.2.1 (fun b hb => r b (by omega))
    unfold CPh CP totU at q ⊢
    rw [eU]; exact q
  refine g.loc (LC.ofL e (fun b hb => ?_) (fun b hb => Or.inl hb) nn (fun j hj => by rw [r x (by omega)])) ⟨wc.1.fp e.fp, cw, cp, wc.2.2.2.cg e.1 e.2.2.2.1 (fun o k ho => by rw [r o (nn o ho)]) eO lF (by rw [eU]; exact Nat.le_refl _)⟩ (g.cf.cg (fun i hi => r (x + i) (by omega)) (fun i hi => e.2.2.2.2.2.2.2 (x + i) (by omega)) (fun v l c => by rw [el]; exact c)) (by rw [eM]; exact CU_cg g.2.2.2.2.1 (fun b g1 g2 => r b (by omega))) (fun v l c => by rw [el]; exact c) rfl
  rcases hb with hb | hb
  · rcases Nat.eq_or_lt_of_le hb.1 with c | c
    · exact Or.inl (by omega)
    · exact Or.inr (Or.inl (by omega))
  · exact Or.inr (Or.inr (Or.inl hb))
/-- the shell's end, what it keeps for its end, its frames' base, its parent -/
theorem CG.own {p' : Option Nat × Int32 × Int32} (g : CG C h s w A ((x, (F, en, jb), js) :: G) T Ks P cur pl rn XL FS VS OS inh) (e1 : hpN h1 = hpN h ∧ hpC h1 = hpC h ∧ hpS h1 = hpS h ∧ hpK h1 = hpK h ∧ hpZ h1 = hpZ h ∧ hpL h1 = hpL h) (eI : ∀ b, b ≠ x → hpI h1 b = hpI h b) (eX : ∀ k, k < 10 ∨ k = 14 → hpI h1 x k = hpI h x k) (eR : ∀ b, b ≠ x → hpR h1 b = hpR h b) (eY : ∀ k, k ≠ 13 → hpR h1 x k = hpR h x k) (h10 : hpI h1 x 10 = if en' = true then 1 else 0) (h13 : hpR h1 x 13 = p'.1) (h12 : hpI h1 x 12 = p'.2.1) (h11 : hpI h1 x 11 = p'.2.2) : CG C h1 s w A ((x, (F, en', jb), js) :: G) T Ks (fup P x p') cur pl rn XL FS VS OS inh := by
  obtain ⟨k0, fc, wc0, oi, cu0, cgs, cgp, cgf, cgr, cgq, cn⟩ := g
  obtain ⟨sx, hx, so⟩ := cgs.sx
  obtain ⟨s1, s2, s3, s4, s5, s6⟩ := cgs
  obtain ⟨eN, eC, eS, eK, eZ, eL⟩ := e1
  have nx := (sb_ne5 sx).1
  have fp : FP h h1 := ⟨by omega, fun a _ => ⟨by rw [eK], by rw [eZ], fun k hk => by
    by_cases c : a = x
    · subst c
      by_cases c2 : k = 13
      · subst c2; rw [sx.k0] at hk; exact absurd hk (by decide)
      · exact eY k c2
    · rw [eR a c]⟩⟩
  have el : CLn h1 = CLn h := CLn_cg (fun b g1 g2 => eI b (by omega))
  have fsx : ∀ y ∈ FS, y ≠ x := fun y hy c => by
    rw [List.map_cons, List.cons_append] at s2
    exact (List.nodup_cons.mp s2).1 (List.mem_append_right _ (by rw [← c]; exact hy))
  refine ⟨k0, fc.tr k0.2.1 fp fun a ha => ⟨eI a (by have := cst_in ha; omega), by rw [eL], fun _ => eR a (by have := cst_in ha; omega)⟩, ⟨wc0.1.fp fp, ?_, CPh_cg wc0.2.2.1 (fun b hb => eI b (by omega)), wc0.2.2.2.cg eN eK (fun o k ho => by rw [eI o (wc0.2.2.2.far ho nx)]) rfl (Nat.le_refl _) (Nat.le_refl _)⟩, oi.cg eN eK eZ (fun a ha k _ => ?_) (fun o ho => ?_) (by rw [eR 135 (by omega)]), CU_cg cu0 (fun b g1 g2 => eI b (by omega)), ⟨fun e he => ?_, s2, s3, s4, fun y hy => ⟨(s5 y hy).1.fp fp, (s5 y hy).2⟩, ?_⟩, fun e he => ?_, ?_, ?_, ⟨fun y hy k hk => ?_, fun v l q => by rw [el]; exact cgq.2 v l q⟩, ?_⟩
  · show CW (CLn h1) (hpI h1 140) (hpI h1 (140 + 2)) (hpI h1 (140 + 3)) (hpI h1 (140 + 4)) (hpI h1 (140 + 5)) (hpI h1 (140 + 19)) (hpL h1 (140 + 1)) s w
    rw [el, eL, eI 140 (by omega), eI (140 + 2) (by omega), eI (140 + 3) (by omega), eI (140 + 4) (by omega), eI (140 + 5) (by omega), eI (140 + 19) (by omega)]
    exact wc0.2.1
  · rw [eR a (fun c => by
      have := (oi.2.2.1 a ha).1.2
      rw [c, sx.k0] at this
      exact absurd this (by decide))]
  · have : o ≠ x := fun c => nx (by rw [← c]; exact ho.2)
    exact ⟨by rw [eI o this], by rw [eR o this]⟩
  · rcases List.mem_cons.mp he with rfl | he
    · obtain ⟨-, c2, c3, c4⟩ := s1 _ List.mem_cons_self
      refine ⟨sx.fp fp, ?_, fun k hk => ?_, ?_⟩
      · obtain ⟨-, -, -, h4, h5, h6, h7, h8, h9, h10, h11⟩ := id c2
        show CF (kcD C) (CLn h1) h1 x F
        rw [el]
        exact CF.x0 c2 ⟨rfl, rfl, rfl⟩ (by rw [eX 4 (by decide)]; exact h4) (by rw [eX 5 (by decide)]; exact h5) (by rw [eX 6 (by decide)]; exact h6) (by rw [eX 7 (by decide)]; exact h7) ⟨by rw [eX 8 (by decide)]; exact h8, h9⟩ ⟨by rw [eX 9 (by decide)]; exact h10, h11⟩ eI eL
      · show RHc A (hpR h1 (x + 9) k) (fH F k)
        rw [eR (x + 9) (by omega)]; exact c3 k hk
      · show CJ (kcD C) h1 x en' jb js
        have c4 : CJ (kcD C) h x en jb js := c4
        unfold CJ at c4 ⊢
        rw [eX 14 (by decide), eI (x + 11) (by omega), eI (x + 12) (by omega), eR (x + 10) (by omega)]
        exact ⟨h10, c4.2⟩
    · obtain ⟨⟨sy, hy⟩, ap⟩ := so e he
      exact (s1 e (List.mem_cons_of_mem _ he)).cg fp (fun i hi => eI (e.1 + i) (by omega)) (fun i hi => by rw [eL]) (fun i _ _ k _ => by rw [eR (e.1 + i) (by omega)]) (fun _ _ c => c) (fun v l c => by rw [el]; exact c)
  · rw [eR 282 (by omega)]
    exact s6.cg (fun y hy => by rw [eR y (fsx y hy)])
  · rcases List.mem_cons.mp he with rfl | he
    · show hpR h1 x 13 = (fup P x p' x).1 ∧ hpI h1 x 12 = (fup P x p' x).2.1 ∧ hpI h1 x 11 = (fup P x p' x).2.2
      rw [fup_e]
      exact ⟨h13, h12, h11⟩
    · obtain ⟨⟨sy, hy⟩, ap⟩ := so e he
      have q := cgp e (List.mem_cons_of_mem _ he)
      rw [fup_n (by omega), eI e.1 (by omega), eR e.1 (by omega)]
      exact q
  · obtain ⟨g1, g2, g3, g4, g5, g6, g7, g8⟩ := cgf
    unfold CGf
    rw [eI 285 (by omega), eI 282 (by omega), eR 288 (by omega)]
    refine ⟨g1, g2, g3, g4.cg fp (fun v hv => ⟨(oi.2.2.1 (v + 1) (by unfold cRS; simp; exact Or.inr (Or.inr (Or.inr hv)))).1.1, by have := wc0.1.1; omega⟩) (fun k => by rw [eR 286 (by omega)]) (fun v hv k _ => ?_) (fun _ _ c => c), g5, g6, g7, g8⟩
    rw [eR (v + 1) (fun c => by
      have := (oi.2.2.1 (v + 1) (by unfold cRS; simp; exact Or.inr (Or.inr (Or.inr hv)))).1.2
      rw [c, sx.k0] at this
      exact absurd this (by decide))]
  · unfold CGr at cgr ⊢
    rw [eI 282 (by omega), eR 282 (by omega)]
    exact cgr
  · have py : y + 9 ≠ x := by
      have : ∀ z ∈ pastX, z + 9 ≠ 146 ∧ z + 9 < 365 := by decide
      have := this y hy
      omega
    rw [eR _ py]
    refine ⟨(cgq.1 y hy k hk).1, fun o ho => ?_⟩
    have q := (cgq.1 y hy k hk).2 o ho
    have k5 : hpK h o = 5 := ((oi.2.2.1 (y + 9) (by unfold cRS; simp; exact Or.inr (Or.inr (Or.inl hy)))).2.2 k hk o ho).2
    refine ⟨q.1, fun c hc => ?_⟩
    rw [eI o (fun c => nx (by rw [← c]; exact k5))]; exact q.2 c hc
  · unfold CN mx_kd at cn ⊢
    rw [eN, eC, eS, eK]
    exact cn
end MXOW
