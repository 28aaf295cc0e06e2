/-! CG where a row of handles changes -/
section MXRW
variable {C : cC} {h h1 h2 : mxH} {s s' d t k sl : Nat} {w w' : spW} {A A' : Nat → Option Nat} {G : List cE} {T : List cT} {Ks : List spH} {P : cP} {cur : Option Nat} {pl rn : Int32} {XL FS VS OS inh inh' : List Nat} {D : pmC} {e : cE} {x : Nat} {fh hs : spH} {F F' : spF} {en en' : Bool} {jb : List spJ} {js : List Nat} {p : Nat → Prop} {a b c v : Int32} {ln : Int32 → spL → Prop}
theorem CO.cg4 (c : CO h A w) (eN : hpN h1 = hpN h) (eK : hpK h1 = hpK h) (eI : ∀ o k, A o ≠ none → k < 4 → hpI h1 o k = hpI h o k) : CO h1 A w := by
  refine ⟨fun o a ho => ?_, c.2⟩
  obtain ⟨k, q, q1, q2, q3, q4, q5, q6, q7, q8⟩ := c.1 o a ho
  have ne : A o ≠ none := by rw [ho]; exact fun c => nomatch c
  refine ⟨by unfold mx_kd; rw [eN, eK]; exact k, q, q1, by rw [eI o 0 ne (by decide)]; exact q2, q3, q4, by rw [eI o 3 ne (by decide)]; exact q5, q6, fun r => ?_, fun r => ?_⟩
  · rw [eI o 1 ne (by decide)]; exact q7 r
  · rw [eI o 2 ne (by decide)]; exact q8 r
theorem CG.row (g : CG C h s w A ((x, (F, en, jb), js) :: G) T Ks P cur pl rn XL FS VS OS inh) (oi' : OI h1 (cRS XL VS) inh') (fr : FrO h h1) (hsl : sl = x + 9 ∨ ∃ i v, VS[i]? = some v ∧ Ks.length ≤ i ∧ sl = v + 1) (hrow : ∀ a ∈ cRS XL VS, a ≠ sl → ∀ k, k < 10 → hpR h1 a k = hpR h a k) (hH : ∀ k, k < 10 → RHc A (hpR h1 (x + 9) k) (hs k)) : CG C h1 s w A ((x, (vH F hs, en, jb), js) :: G) T Ks P cur pl rn XL FS VS OS inh' := by
  obtain ⟨k0, fc, wc0, oi, cu0, cgs, cgp, cgf, cgr, cgq, cn⟩ := g
  obtain ⟨sx, hx, so⟩ := cgs.sx
  obtain ⟨s1, s2, s3, s4, s5, s6⟩ := cgs
  obtain ⟨g1, g2, g3, g4, g5, g6, g7, g8⟩ := cgf
  have fp := fr.fp (sc_k135 wc0.1)
  obtain ⟨eN, eC, eS, eK, eZ, eL, eI0, eR0⟩ := fr
  have eI : ∀ b, hpK h b ≠ 5 → hpI h1 b = hpI h b := fun b hb => by funext k; exact eI0 b k (Or.inl hb)
  have eR : ∀ b, b ≠ 135 → hpK h b ≠ 5 → hpK h b ≠ 18 → hpR h1 b = hpR h b := fun b h1 h5 h18 => by funext k; exact eR0 b k h18 (Or.inl h5) (Or.inl h1)
  have el : CLn h1 = CLn h := CLn_cg (fun b q1 q2 => eI b (sc_ne5 wc0.1 (by omega)))
  have mS : ∀ y ∈ XL, y + 9 ∈ cRS XL VS := fun y hy => by unfold cRS; simp; exact Or.inl hy
  have mV : ∀ y ∈ VS, y + 1 ∈ cRS XL VS := fun y hy => by unfold cRS; simp; exact Or.inr (Or.inr (Or.inr hy))
  have mP : ∀ y ∈ pastX, y + 9 ∈ cRS XL VS := fun y hy => by unfold cRS; simp; exact Or.inr (Or.inr (Or.inl hy))
  have mx : x ∈ XL := (s3 x).mpr (by simp)
  have dis : ∀ y ∈ XL, ∀ v ∈ VS, y + 9 ≠ v + 1 := by
    intro y hy v hv c
    have nd := oi.1
    unfold cRS at nd
    have := (List.nodup_append.mp nd).2.2 (y + 9) (List.mem_map.mpr ⟨y, hy, rfl⟩) (v + 1) (by simp; exact Or.inr (Or.inr hv))
    exact this c
  have slN : sl = x + 9 ∨ 366 ≤ sl := by
    rcases hsl with c | ⟨i, v, c1, c2, c3⟩
    · exact Or.inl c
    · have := g6 v (List.mem_of_getElem? c1); exact Or.inr (by omega)
  have slS : ∀ y ∈ XL, y ≠ x → y + 9 ≠ sl := by
    intro y hy ne
    rcases hsl with c | ⟨i, v, c1, c2, c3⟩
    · omega
    · rw [c3]; exact dis y hy v (List.mem_of_getElem? c1)
  have pN : ∀ z ∈ pastX, z + 9 ≠ 155 ∧ z + 9 < 365 := by decide
  have n282 := sc_ne5b wc0.1 (b := 282) (by decide)
  have e282 : hpR h1 282 = hpR h 282 := eR 282 (by decide) n282 (by rw [sc_k282 wc0.1]; decide)
  have i282 := eI 282 n282
  have seR : ∀ y, SB h y → y ∈ XL → y ≠ x → ∀ i, i < 13 → i ≠ 0 → ∀ k, k < 10 → hpR h1 (y + i) k = hpR h (y + i) k := by
    intro y sy my ne i hi _ k hk
    by_cases c : i = 9
    · subst c; exact hrow (y + 9) (mS y my) (slS y my ne) k hk
    · have kk := (sy.2.1 i hi).1
      have : sbK i ≠ 18 := by
        have : ∀ i, i < 13 → i ≠ 9 → sbK i ≠ 18 := by decide
        exact this i hi c
      have y5 := (s5 y my).2
      rw [eR (y + i) (by omega) (sy.ne5 hi) (by rw [kk]; exact this)]
  refine ⟨k0, fc.tr k0.2.1 fp fun a ha => ⟨eI a (k0.ne5 fc ha), by rw [eL], fun hk => eR a (by have := cst_in ha; omega) (k0.ne5 fc ha) hk⟩, ⟨wc0.1.fp fp, ?_, CPh_cg wc0.2.2.1 (fun b hb => eI b (sc_ne5 wc0.1 (by omega))), wc0.2.2.2.cg4 eN eK (fun o k ho hk => eI0 o k (Or.inr (by omega)))⟩, oi', ?_, ⟨fun e he => ?_, s2, s3, s4, fun y hy => ⟨(s5 y hy).1.fp fp, (s5 y hy).2⟩, ?_⟩, fun e he => ?_, ⟨?_, by rw [i282]; exact g2, g3, ?_, by rw [i282]; exact g5, g6, g7, fun k hk => ?_⟩, ?_, ⟨fun y hy k hk => ?_, fun v l q => by rw [el]; exact cgq.2 v l q⟩, ?_⟩
  · show CW (CLn h1) (hpI h1 140) (hpI h1 (140 + 2)) (hpI h1 (140 + 3)) (hpI h1 (140 + 4)) (hpI h1 (140 + 5)) (hpI h1 (140 + 19)) (hpL h1 (140 + 1)) s w
    rw [el, eL, eI 140 (sc_ne5 wc0.1 (by decide)), eI (140 + 2) (sc_ne5 wc0.1 (by decide)), eI (140 + 3) (sc_ne5 wc0.1 (by decide)), eI (140 + 4) (sc_ne5 wc0.1 (by decide)), eI (140 + 5) (sc_ne5 wc0.1 (by decide)), eI (140 + 19) (sc_ne5 wc0.1 (by decide))]
    exact wc0.2.1
  · refine CU_cg cu0 (fun b q1 q2 => eI b ?_)
    rcases Nat.eq_or_lt_of_le q1 with c | c
    · exact sc_ne5b wc0.1 (by omega)
    · exact sc_ne5 wc0.1 (by omega)
  · rcases List.mem_cons.mp he with rfl | he
    · obtain ⟨-, c2, c3, c4⟩ := s1 _ List.mem_cons_self
      refine ⟨sx.fp fp, ?_, hH, ?_⟩
      · show CF (kcD C) (CLn h1) h1 x F
        rw [el]
        exact CF.cg c2 (fun i hi => eI _ (sx.ne5 (by omega))) (fun i hi => by rw [eL]) (fun v l c => c)
      · show CJ (kcD C) h1 x en jb js
        have c4 : CJ (kcD C) h x en jb js := c4
        unfold CJ at c4 ⊢
        rw [eI x (sx.ne5 (i := 0) (by decide)), eI (x + 11) (sx.ne5 (by decide)), eI (x + 12) (sx.ne5 (by decide)), eR (x + 10) (by omega) (sx.ne5 (by decide)) (by rw [sx.k10]; decide)]
        exact c4
    · obtain ⟨⟨sy, hy⟩, ap⟩ := so e he
      have me : e.1 ∈ XL := (s3 e.1).mpr (List.mem_append_left _ (List.mem_map.mpr ⟨e, List.mem_cons_of_mem _ he, rfl⟩))
      exact (s1 e (List.mem_cons_of_mem _ he)).cg fp (fun i hi => eI _ (sy.ne5 hi)) (fun i hi => by rw [eL]) (seR e.1 sy me (by omega)) (fun _ _ c => c) (fun v l c => by rw [el]; exact c)
  · rw [e282]
    refine s6.cg (fun y hy => ?_)
    have sy := s5 y ((s3 y).mpr (List.mem_append_right _ hy))
    rw [eR y (by omega) (sy.1.ne5 (i := 0) (by decide)) (by rw [sy.1.k0]; decide)]
  · have q : ∀ y, SB h y → (y = 146 ∨ 365 ≤ y) → hpR h1 y = hpR h y ∧ hpI h1 y = hpI h y := fun y sy hy => ⟨eR y (by omega) (sy.ne5 (i := 0) (by decide)) (by rw [sy.k0]; decide), eI y (sy.ne5 (i := 0) (by decide))⟩
    rcases List.mem_cons.mp he with rfl | he
    · have c := cgp _ List.mem_cons_self
      have q := q x sx hx
      rw [q.1, q.2]; exact c
    · obtain ⟨⟨sy, hy⟩, ap⟩ := so e he
      have c := cgp e (List.mem_cons_of_mem _ he)
      have q := q e.1 sy hy
      rw [q.1, q.2]; exact c
  · rw [eI 285 (sc_ne5b wc0.1 (by decide))]; exact g1
  · obtain ⟨v1, v2, v3, v4, v5⟩ := g4
    have e286 : hpR h1 286 = hpR h 286 := eR 286 (by decide) (by rw [sc_k286 wc0.1]; decide) (by rw [sc_k286 wc0.1]; decide)
    refine ⟨fun i hi => ⟨by rw [e286]; exact (v1 i hi).1, ?_⟩, fun i q1 q2 => by rw [e286]; exact v2 i q1 q2, v3, v4, fun i hi => ?_⟩
    · have vi := g6 VS[i] (List.getElem_mem hi)
      have hd := (v1 i hi).2
      unfold hd_at at hd ⊢
      rw [eK, eZ, eR VS[i] (by omega) (by rw [hd.1]; decide) (by rw [hd.1]; decide)]
      exact hd
    · obtain ⟨v, e1, e2⟩ := v5 i hi
      refine ⟨v, e1, fun k hk => ?_⟩
      have mv := List.mem_of_getElem? e1
      rw [hrow (v + 1) (mV v mv) ?_ k hk]
      · exact e2 k hk
      · rcases hsl with c | ⟨i0, v0, c1, c2, c3⟩
        · rw [c]; exact fun c => dis x mx v mv c.symm
        · intro c4
          have ev : v = v0 := by omega
          subst ev
          obtain ⟨a1, a2⟩ := List.getElem?_eq_some_iff.mp e1
          obtain ⟨b1, b2⟩ := List.getElem?_eq_some_iff.mp c1
          have := (List.getElem_inj g7).mp (a2.trans b2.symm)
          omega
  · have q := hrow 288 (by unfold cRS; simp) (by omega) k hk
    rw [q]; exact g8 k hk
  · unfold CGr at cgr ⊢
    rw [i282, e282]; exact cgr
  · have py := pN y hy
    have ns : y + 9 ≠ sl := by have := (s5 x mx).2; omega
    rw [hrow (y + 9) (mP y hy) ns k hk]
    refine ⟨(cgq.1 y hy k hk).1, fun o ho => ?_⟩
    have q := (cgq.1 y hy k hk).2 o ho
    exact ⟨q.1, fun c hc => by rw [eI0 o c (Or.inr (by omega))]; exact q.2 c hc⟩
  · unfold CN mx_kd at cn ⊢
    rw [eN, eC, eS, eK]
    exact cn
end MXRW
