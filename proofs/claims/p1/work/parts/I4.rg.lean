/-! CG where any row of handles changes; Machine.releaseJobs -/
section MXI4
variable {C : cC} {h h1 h2 : mxH} {s s' d t k sl : Nat} {w w' : spW} {A A' : Nat → Option Nat} {G : List cE} {T : List cT} {Ks : List spH} {P : cP} {cur : Option Nat} {pl rn : Int32} {XL FS VS OS inh inh' : List Nat} {D : pmC} {e : cE} {x : Nat} {fh hs : spH} {F F' : spF} {en en' : Bool} {jb : List spJ} {js : List Nat} {p : Nat → Prop} {a b c v : Int32} {ln : Int32 → spL → Prop}
theorem CG.rowG {Ks' : List spH} {fh' : spH} (g : CG C h s w A ((x, (F, en, jb), js) :: G) T Ks P cur pl rn XL FS VS OS inh) (oi' : OI h1 (cRS XL VS) inh') (fr : FrO h h1) (hsl : sl = x + 9 ∨ sl = 288 ∨ ∃ v ∈ VS, sl = v + 1) (hV : CV h1 A VS Ks') (hL : Ks'.length = Ks.length) (h8 : ∀ k, k < 10 → RHc A (hpR h1 288 k) (fh' k)) (hrow : ∀ a ∈ cRS XL VS, a ≠ sl → ∀ k, k < 10 → hpR h1 a k = hpR h a k) (hH : ∀ k, k < 10 → RHc A (hpR h1 (x + 9) k) (hs k)) : CG (C.1, C.2.1, fh', C.2.2.2) h1 s w A ((x, (vH F hs, en, jb), js) :: G) T Ks' P cur pl rn XL FS VS OS inh' := by
  obtain ⟨k0, fc, wc0, oi, cu0, cgs, cgp, cgf, cgr, cgq, cn⟩ := g
  obtain ⟨sx, hx, so⟩ := cgs.sx
  obtain ⟨s1, s2, s3, s4, s5, s6⟩ := cgs
  obtain ⟨g1, g2, g3, g4, g5, g6, g7, g8⟩ := cgf
  have eL6 := hL
  have fp := fr.fp (sc_k135 wc0.1)
  obtain ⟨eN, eC, eS, eK, eZ, eL, eI0, eR0⟩ := fr
  have eI : ∀ b, hpK h b ≠ 5 → hpI h1 b = hpI h b := fun b hb => by funext k; exact eI0 b k (Or.inl hb)
  have eR : ∀ b, b ≠ 135 → hpK h b ≠ 5 → hpK h b ≠ 18 → hpR h1 b = hpR h b := fun b h1 h5 h18 => by funext k; exact eR0 b k h18 (Or.inl h5) (Or.inl h1)
  have el : CLn h1 = CLn h := CLn_cg (fun b q1 q2 => eI b (sc_ne5 wc0.1 (by omega)))
  have mS : ∀ y ∈ XL, y + 9 ∈ cRS XL VS := fun y hy => by unfold cRS; simp; exact Or.inl hy
  have mV : ∀ y ∈ VS, y + 1 ∈ cRS XL VS := fun y hy => by unfold cRS; simp; exact Or.inr (Or.inr (Or.inr hy))
  have mP : ∀ y ∈ pastX, y + 9 ∈ cRS XL VS := fun y hy => by unfold cRS; simp; exact Or.inr (Or.inr (Or.inl hy))
  have mx : x ∈ XL := (s3 x).mpr (by simp)
  have dis : ∀ y ∈ XL, ∀ v ∈ VS, y + 9 ≠ v + 1 := by
    intro y hy v hv c
    have nd := oi.1
    unfold cRS at nd
    have := (List.nodup_append.mp nd).2.2 (y + 9) (List.mem_map.mpr ⟨y, hy, rfl⟩) (v + 1) (by simp; exact Or.inr (Or.inr hv))
    exact this c
  have slN : sl = x + 9 ∨ sl = 288 ∨ 366 ≤ sl := by
    rcases hsl with c | c | ⟨v, c1, c3⟩
    · exact Or.inl c
    · exact Or.inr (Or.inl c)
    · have := g6 v c1; exact Or.inr (Or.inr (by omega))
  have slS : ∀ y ∈ XL, y ≠ x → y + 9 ≠ sl := by
    intro y hy ne
    have y5 := (s5 y hy).2
    rcases hsl with c | c | ⟨v, c1, c3⟩
    · omega
    · omega
    · rw [c3]; exact dis y hy v c1
  have pN : ∀ z ∈ pastX, z + 9 ≠ 155 ∧ z + 9 < 365 ∧ z + 9 ≠ 288 := by decide
  have n282 := sc_ne5b wc0.1 (b := 282) (by decide)
  have e282 : hpR h1 282 = hpR h 282 := eR 282 (by decide) n282 (by rw [sc_k282 wc0.1]; decide)
  have i282 := eI 282 n282
  have seR : ∀ y, SB h y → y ∈ XL → y ≠ x → ∀ i, i < 13 → i ≠ 0 → ∀ k, k < 10 → hpR h1 (y + i) k = hpR h (y + i) k := by
    intro y sy my ne i hi _ k hk
    by_cases c : i = 9
    · subst c; exact hrow (y + 9) (mS y my) (slS y my ne) k hk
    · have kk := (sy.2.1 i hi).1
      have : sbK i ≠ 18 := by
        have : ∀ i, i < 13 → i ≠ 9 → sbK i ≠ 18 := by decide
        exact this i hi c
      have y5 := (s5 y my).2
      rw [eR (y + i) (by omega) (sy.ne5 hi) (by rw [kk]; exact this)]
  refine ⟨k0, fc.tr k0.2.1 fp fun a ha => ⟨eI a (k0.ne5 fc ha), by rw [eL], fun hk => eR a (by have := cst_in ha; omega) (k0.ne5 fc ha) hk⟩, ⟨wc0.1.fp fp, ?_, CPh_cg wc0.2.2.1 (fun b hb => eI b (sc_ne5 wc0.1 (by omega))), wc0.2.2.2.cg4 eN eK (fun o k ho hk => eI0 o k (Or.inr (by omega)))⟩, oi', ?_, ⟨fun e he => ?_, s2, s3, s4, fun y hy => ⟨(s5 y hy).1.fp fp, (s5 y hy).2⟩, ?_⟩, fun e he => ?_, ⟨?_, by rw [i282]; exact g2, g3, ?_, by rw [i282, eL6]; exact g5, g6, g7, h8⟩, ?_, ⟨fun y hy k hk => ?_, fun v l q => by rw [el]; exact cgq.2 v l q⟩, ?_⟩
  · show CW (CLn h1) (hpI h1 140) (hpI h1 (140 + 2)) (hpI h1 (140 + 3)) (hpI h1 (140 + 4)) (hpI h1 (140 + 5)) (hpI h1 (140 + 19)) (hpL h1 (140 + 1)) s w
    rw [el, eL, eI 140 (sc_ne5 wc0.1 (by decide)), eI (140 + 2) (sc_ne5 wc0.1 (by decide)), eI (140 + 3) (sc_ne5 wc0.1 (by decide)), eI (140 + 4) (sc_ne5 wc0.1 (by decide)), eI (140 + 5) (sc_ne5 wc0.1 (by decide)), eI (140 + 19) (sc_ne5 wc0.1 (by decide))]
    exact wc0.2.1
  · refine CU_cg cu0 (fun b q1 q2 => eI b ?_)
    rcases Nat.eq_or_lt_of_le q1 with c | c
    · exact sc_ne5b wc0.1 (by omega)
    · exact sc_ne5 wc0.1 (by omega)
  · rcases List.mem_cons.mp he with rfl | he
    · obtain ⟨-, c2, c3, c4⟩ := s1 _ List.mem_cons_self
      refine ⟨sx.fp fp, ?_, hH, ?_⟩
      · show CF (kcD C) (CLn h1) h1 x F
        rw [el]
        exact CF.cg c2 (fun i hi => eI _ (sx.ne5 (by omega))) (fun i hi => by rw [eL]) (fun v l c => c)
      · show CJ (kcD C) h1 x en jb js
        have c4 : CJ (kcD C) h x en jb js := c4
        unfold CJ at c4 ⊢
        rw [eI x (sx.ne5 (i := 0) (by decide)), eI (x + 11) (sx.ne5 (by decide)), eI (x + 12) (sx.ne5 (by decide)), eR (x + 10) (by omega) (sx.ne5 (by decide)) (by rw [sx.k10]; decide)]
        exact c4
    · obtain ⟨⟨sy, hy⟩, ap⟩ := so e he
      have me : e.1 ∈ XL := (s3 e.1).mpr (List.mem_append_left _ (List.mem_map.mpr ⟨e, List.mem_cons_of_mem _ he, rfl⟩))
      exact (s1 e (List.mem_cons_of_mem _ he)).cg fp (fun i hi => eI _ (sy.ne5 hi)) (fun i hi => by rw [eL]) (seR e.1 sy me (by omega)) (fun _ _ c => c) (fun v l c => by rw [el]; exact c)
  · rw [e282]
    refine s6.cg (fun y hy => ?_)
    have sy := s5 y ((s3 y).mpr (List.mem_append_right _ hy))
    rw [eR y (by omega) (sy.1.ne5 (i := 0) (by decide)) (by rw [sy.1.k0]; decide)]
  · have q : ∀ y, SB h y → (y = 146 ∨ 365 ≤ y) → hpR h1 y = hpR h y ∧ hpI h1 y = hpI h y := fun y sy hy => ⟨eR y (by omega) (sy.ne5 (i := 0) (by decide)) (by rw [sy.k0]; decide), eI y (sy.ne5 (i := 0) (by decide))⟩
    rcases List.mem_cons.mp he with rfl | he
    · have c := cgp _ List.mem_cons_self
      have q := q x sx hx
      rw [q.1, q.2]; exact c
    · obtain ⟨⟨sy, hy⟩, ap⟩ := so e he
      have c := cgp e (List.mem_cons_of_mem _ he)
      have q := q e.1 sy hy
      rw [q.1, q.2]; exact c
  · rw [eI 285 (sc_ne5b wc0.1 (by decide))]; exact g1
  · exact hV
  · unfold CGr at cgr ⊢
    rw [i282, e282]; exact cgr
  · have py := pN y hy
    have ns : y + 9 ≠ sl := by have := (s5 x mx).2; omega
    rw [hrow (y + 9) (mP y hy) ns k hk]
    refine ⟨(cgq.1 y hy k hk).1, fun o ho => ?_⟩
    have q := (cgq.1 y hy k hk).2 o ho
    exact ⟨q.1, fun c hc => by rw [eI0 o c (Or.inr (by omega))]; exact q.2 c hc⟩
  · unfold CN mx_kd at cn ⊢
    rw [eN, eC, eS, eK]
    exact cn
/-- a row of kept handles is put out -/
theorem c_closeV (hd : 1 ≤ d) {i v : Nat} (g : CG C h s w A ((x, (F, en, jb), js) :: G) T Ks P cur pl rn XL FS VS OS []) (ev : VS[i]? = some v) (hi : i < Ks.length) : mx_SM mY_X2_closeAll d [.ref v] h (mx_KV (fun h1 => ∃ Ks', Ks'.length = Ks.length ∧ CG C h1 s w A ((x, (F, en, jb), js) :: G) T Ks' P cur pl rn XL FS VS OS []) fun _ _ => False) := by
  obtain ⟨cv, c6, v3, cvs⟩ := g.cv
  obtain ⟨hv, r6, mv⟩ := cvs _ v ev
  have mvs := List.mem_of_getElem? ev
  have nd : VS.Nodup := g.2.2.2.2.2.2.2.1.2.2.2.2.2.2.1
  have h8 := g.2.2.2.2.2.2.2.1.2.2.2.2.2.2.2
  have v365 := g.2.2.2.2.2.2.2.1.2.2.2.2.2.1
  refine (c_X2_closeAll hd g.2.2.2.1 hv mv).mono ?_
  rintro r h1 (⟨rfl, oi, fr, row⟩ | ⟨_, _, q⟩)
  · have L : (Ks.set (Ks.length - 1 - i) (fun _ => none)).length = Ks.length := List.length_set ..
    have fp := fr.fp (sc_k135 g.sc)
    have k286 := sc_k286 g.sc
    have r286 : ∀ k, hpR h1 286 k = hpR h 286 k := fun k => fr.2.2.2.2.2.2.2 286 k (by rw [k286]; decide) (Or.inl (by rw [k286]; decide)) (Or.inl (by decide))
    refine Or.inl ⟨rfl, _, L, ?_⟩
    have cv1 : CV h1 A VS (Ks.set (Ks.length - 1 - i) (fun _ => none)) := by
      obtain ⟨c1, c2, c3, c4, c5⟩ := cv
      refine ⟨fun j hj => ⟨by rw [r286]; exact (c1 j hj).1, ?_⟩, fun j q1 q2 => by rw [r286]; exact c2 j q1 q2, by rw [L]; exact c3, c4, fun j hj => ?_⟩
      · obtain ⟨a1, a2, a3, a4, a5, a6⟩ := (c1 j hj).2
        have m := List.getElem_mem (l := VS) hj
        have lt := (g.2.2.2.1.2.2.1 (VS[j] + 1) (by unfold cRS; simp)).1.1
        have f1 := fp.2 VS[j] (by omega)
        have f2 := fp.2 (VS[j] + 1) lt
        have f3 := fp.2 135 (by have := g.sc.1; omega)
        exact ⟨by rw [f1.1]; exact a1, by rw [f1.2.2 0 (by rw [a1]; decide)]; exact a2, by rw [f1.2.2 1 (by rw [a1]; decide)]; exact a3, by rw [f3.1]; exact a4, by rw [f2.1]; exact a5, by rw [f2.2.1]; exact a6⟩
      · have hj' : j < Ks.length := by rw [L] at hj; exact hj
        obtain ⟨u, e1, e2⟩ := c5 j hj'
        refine ⟨u, by rw [L]; exact e1, fun k hk => ?_⟩
        have mu := List.mem_of_getElem? e1
        rw [row (u + 1) (by unfold cRS; simp; exact Or.inr (Or.inr (Or.inr mu))) k hk, List.getElem_set]
        by_cases c : Ks.length - 1 - i = j
        · have eu : u = v := by
            rw [show Ks.length - 1 - j = i by omega, ev] at e1
            exact (Option.some.inj e1).symm
          rw [if_pos c, if_pos (by rw [eu])]
          exact Or.inl ⟨rfl, rfl⟩
        · have nu : u + 1 ≠ v + 1 := fun e => by
            have e : u = v := by omega
            subst e
            obtain ⟨a1, a2⟩ := List.getElem?_eq_some_iff.mp e1
            obtain ⟨b1, b2⟩ := List.getElem?_eq_some_iff.mp ev
            have := (List.getElem_inj nd).mp (a2.trans b2.symm)
            omega
          rw [if_neg c, if_neg nu]
          exact e2 k hk
    have n288 : (288 : Nat) ≠ v + 1 := by have := v365 v mvs; omega
    exact g.rowG (hs := fH F) (fh' := kcF C) oi fr (Or.inr (Or.inr ⟨v, mvs, rfl⟩)) cv1 L (fun k hk => by rw [row 288 (by unfold cRS; simp) k hk, if_neg n288]; exact h8 k hk) (fun a ha ne k hk => by rw [row a ha k hk, if_neg ne]) (fun k hk => by rw [row (x + 9) g.mx k hk, if_neg (g.disV mvs).symm]; exact g.ch k hk)
  · exact q.elim
/-- the first handles are put out -/
theorem c_close8 (hd : 1 ≤ d) (g : CG C h s w A ((x, (F, en, jb), js) :: G) T Ks P cur pl rn XL FS VS OS []) : mx_SM mY_X2_closeAll d [.ref 287] h (mx_KV (fun h1 => CG (C.1, C.2.1, (fun _ => none), C.2.2.2) h1 s w A ((x, (F, en, jb), js) :: G) T Ks P cur pl rn XL FS VS OS []) fun _ _ => False) := by
  have h288 : (288 : Nat) ∈ cRS XL VS := by unfold cRS; simp
  have hd2 : hd_at h 287 135 288 := ⟨sc_k287 g.sc, sc_r287_0 g.sc, sc_r287_1 g.sc, sc_k135 g.sc, sc_k288 g.sc, sc_z288 g.sc⟩
  have v365 := g.2.2.2.2.2.2.2.1.2.2.2.2.2.1
  obtain ⟨sx, hx⟩ := g.sb
  refine (c_X2_closeAll hd g.2.2.2.1 hd2 h288).mono ?_
  rintro r h1 (⟨rfl, oi, fr, row⟩ | ⟨_, _, q⟩)
  · have fp := fr.fp (sc_k135 g.sc)
    have k286 := sc_k286 g.sc
    have cv := g.cv.1
    have cv1 : CV h1 A VS Ks := cv.cg fp (fun v hv => ⟨(g.2.2.2.1.2.2.1 (v + 1) (by unfold cRS; simp; exact Or.inr (Or.inr (Or.inr hv)))).1.1, by have := g.sc.1; omega⟩) (fun k => fr.2.2.2.2.2.2.2 286 k (by rw [k286]; decide) (Or.inl (by rw [k286]; decide)) (Or.inl (by decide))) (fun v hv k hk => by rw [row (v + 1) (by unfold cRS; simp; exact Or.inr (Or.inr (Or.inr hv))) k hk, if_neg (by have := v365 v hv; omega)]) (fun _ _ c => c)
    exact Or.inl ⟨rfl, g.rowG (hs := fH F) (fh' := fun _ => none) oi fr (Or.inr (Or.inl rfl)) cv1 rfl (fun k hk => Or.inl ⟨by rw [row 288 h288 k hk, if_pos rfl], rfl⟩) (fun a ha ne k hk => by rw [row a ha k hk, if_neg ne]) (fun k hk => by rw [row (x + 9) g.mx k hk, if_neg (by omega)]; exact g.ch k hk)⟩
  · exact q.elim
end MXI4
