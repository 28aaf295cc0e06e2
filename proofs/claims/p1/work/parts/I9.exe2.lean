section MXI9
variable {C : cC} {B h h1 h2 h6 h10 : mxH} {D : pmC} {s s' d n : Nat} {w w' : spW} {A A' : Nat → Option Nat} {F : spF} {en : Bool} {jb : List spJ} {jl : List Int32} {jm XL FS VS OS : List Nat} {Q : mxRes → mxH → Prop}
/-- the machine's first state -/
theorem x_first (id : ID (kcD C) B h (kcN C) w A F jl XL FS VS OS) (hk : K0 C) (e0 : kcH C = h) (eF : kcF C = fH F)
    (eN : hpN h10 = hpN h ∧ hpC h10 = hpC h ∧ hpS h10 = hpS h ∧ hpK h10 = hpK h ∧ hpZ h10 = hpZ h) (eL : hpL h10 = hpL h) (eI : ∀ b, b ≠ 146 → b ≠ 140 → b ≠ 135 → b ≠ 282 → hpK h b ≠ 5 → hpI h10 b = hpI h b) (e5 : ∀ b k, hpK h b = 5 → k ≠ 4 → hpI h10 b k = hpI h b k)
    (e135 : hpI h10 135 = fup (fup (fup (hpI h 135) 3 0) 6 0) 7 (-1)) (e140 : hpI h10 140 = fup (fup (fup (fup (hpI h 140) 10 0) 11 0) 12 0) 13 0) (e146 : hpI h10 146 = fup (fup (fup (fup (fup (hpI h 146) 9 0) 8 0) 10 0) 12 0) 14 0) (e282 : hpI h10 282 4 = 0 ∧ hpI h10 282 6 = 0 ∧ hpI h10 282 11 = 0 ∧ hpI h10 282 12 = 1)
    (eR : ∀ b k, hpK h b ≠ 18 → (hpK h b ≠ 5 ∨ k ≠ 5) → (b ≠ 135 ∨ k ≠ 0) → hpR h10 b k = if b = 282 then (if k = 10 then some 146 else if k = 9 then some (kcG C) else hpR h 282 k) else if b = 146 then (if k = 13 then none else hpR h 146 k) else hpR h b k)
    (oi : OI h10 (cRS XL VS) []) (rows : ∀ a ∈ cRS XL VS, ∀ k, k < 10 → hpR h10 a k = if a = 288 then hpR h 155 k else hpR h a k) : CMn C h10 0 (rnW w, 0, (prF F, false, [], []), []) := by
  obtain ⟨w1, ⟨s, -, w2⟩, wu, w4, oi0, cu, ⟨cgs, -⟩, ⟨v1, v2, v3⟩, past, cn⟩ := id
  have N := w1.1
  obtain ⟨sN, sC, sS, sK, sZ⟩ := eN
  obtain ⟨s1, s2, s3, s4, s5, s6⟩ := cgs
  have m146 : (146 : Nat) ∈ XL := (s3 146).mpr (by simp)
  have s146 : SB h 146 := (s5 146 m146).1
  obtain ⟨-, c2, c3⟩ := s1
  have c2 : CF (kcD C) (CLn h) h 146 F := c2
  have c3 : CH h A 146 (fH F) := c3
  have fp : FP h h10 := ⟨by omega, fun a _ => ⟨by rw [sK], by rw [sZ], fun k hk => by
    have nk : hpK h a ≠ 18 ∧ hpK h a ≠ 5 ∧ (hpK h a = 0 → k ≠ 0) := by
      unfold fnlL at hk
      split at hk
      all_goals first
        | exact absurd hk List.not_mem_nil
        | (rename_i e; rw [e]; refine ⟨by decide, by decide, fun c => ?_⟩; first | exact absurd c (by decide) | (rintro rfl; exact absurd hk (by decide)))
    rw [eR a k nk.1 (Or.inl nk.2.1) (by
      by_cases c : a = 135
      · right; exact nk.2.2 (by rw [c]; exact sc_k135 w1)
      · exact Or.inl c)]
    by_cases c : a = 282
    · subst c
      rw [sc_k282 w1] at hk
      rw [if_pos rfl, if_neg (by rintro rfl; exact absurd hk (by decide)), if_neg (by rintro rfl; exact absurd hk (by decide))]
    · rw [if_neg c]
      by_cases c1 : a = 146
      · subst c1
        rw [s146.k0] at hk
        rw [if_pos rfl, if_neg (by rintro rfl; exact absurd hk (by decide))]
      · rw [if_neg c1]⟩⟩
  have r : ∀ b, 131 ≤ b → b ≤ 159 → b ≠ 135 → b ≠ 140 → b ≠ 146 → (b < 146 ∨ b = 159) → hpI h10 b = hpI h b := fun b h1 h2 h3 h4 h5 h6 => eI b h5 h4 h3 (by omega) (by
    rcases Nat.eq_or_lt_of_le h1 with c | c
    · exact sc_ne5b w1 (by omega)
    · exact sc_ne5 w1 (by omega))
  have el : CLn h10 = CLn h := CLn_cg (fun b q1 q2 => r b (by omega) (by omega) (by omega) (by omega) (by omega) (by omega))
  have cst : ∀ a, cstA a = true → hpI h10 a = hpI h a ∧ (hpK h a ≠ 18 → hpR h10 a = hpR h a) := fun a ha => by
    have cin := cst_in ha
    have k5 : hpK h a ≠ 5 := by rw [← e0]; exact hk.1 a ha
    refine ⟨eI a (by omega) (by omega) (by omega) (by omega) k5, fun h18 => ?_⟩
    funext k
    rw [eR a k h18 (Or.inl k5) (Or.inl (by omega)), if_neg (by omega), if_neg (by omega)]
  have w140 : ∀ k, k < 10 → hpI h10 140 k = hpI h 140 k := fun k hk => by
    rw [e140, fup_n (by omega), fup_n (by omega), fup_n (by omega), fup_n (by omega)]
  have cw : CWh h10 140 0 (rnW w) := by
    show CW (CLn h10) (hpI h10 140) (hpI h10 (140 + 2)) (hpI h10 (140 + 3)) (hpI h10 (140 + 4)) (hpI h10 (140 + 5)) (hpI h10 (140 + 19)) (hpL h10 (140 + 1)) 0 (rnW w)
    obtain ⟨⟨a1, a2, a3⟩, ⟨b1, b2, b3⟩, ⟨d1, d2, d3⟩, -, -⟩ := w2
    rw [el, eL, r (140 + 2) (by decide) (by decide) (by decide) (by decide) (by decide) (by decide), r (140 + 3) (by decide) (by decide) (by decide) (by decide) (by decide) (by decide), r (140 + 4) (by decide) (by decide) (by decide) (by decide) (by decide) (by decide), r (140 + 5) (by decide) (by decide) (by decide) (by decide) (by decide) (by decide), r (140 + 19) (by decide) (by decide) (by decide) (by decide) (by decide) (by decide)]
    refine ⟨⟨by rw [w140 3 (by decide)]; exact a1, a2, a3⟩, ⟨by rw [w140 5 (by decide)]; exact b1, b2, b3⟩, ⟨by rw [w140 7 (by decide)]; exact d1, d2, d3⟩, ⟨?_, Nat.zero_le _, ?_, ?_⟩, 0, ?_, Nat.le_refl _, rfl, fun k hk => absurd hk (Nat.not_lt_zero _)⟩
    · rw [e140, fup_n (by decide), fup_n (by decide), fup_e]; rfl
    · rw [e140, fup_n (by decide), fup_e]; rfl
    · rw [e140, fup_e]; rfl
    · rw [e140, fup_n (by decide), fup_n (by decide), fup_n (by decide), fup_e]; rfl
  have cp : CPh h10 (rnW w) := by
    refine ⟨fun _ => [], [], 0, ?_, Nat.zero_le _, ?_, Nat.zero_le _, ?_, fun a ha => absurd ha (Nat.not_lt_zero _), ⟨List.nodup_nil, fun _ => List.nodup_nil, fun _ _ hx => absurd hx List.not_mem_nil, fun _ _ _ _ hx => absurd hx List.not_mem_nil⟩, fun _ _ => rfl, fun _ hx => absurd hx List.not_mem_nil, fun _ _ hx => absurd hx List.not_mem_nil, rfl⟩
    · rw [e135, fup_n (by decide), fup_n (by decide), fup_e]; rfl
    · rw [e135, fup_n (by decide), fup_e]; rfl
    · show hpI h10 135 7 = -1
      rw [e135, fup_e]
  have co : CO h10 A (rnW w) := by
    refine ⟨fun o a ho => ?_, w4.2⟩
    obtain ⟨q0, q, q1, q2, q3, q4, q5, q6, q7, q8⟩ := w4.1 o a ho
    have f : ∀ k, k < 4 → hpI h10 o k = hpI h o k := fun k hk => e5 o k q0.2 (by omega)
    exact ⟨fp.kd q0, q, q1, by rw [f 0 (by decide)]; exact q2, q3, q4, by rw [f 3 (by decide)]; exact q5, q6, fun r => by rw [f 1 (by decide)]; exact q7 r, fun r => by
      have := (q8 r).2
      rw [wu] at this
      exact absurd this (Nat.not_lt_zero _)⟩
  have mV : ∀ z ∈ VS, z + 1 ∈ cRS XL VS := fun z hz => by unfold cRS; simp; exact Or.inr (Or.inr (Or.inr hz))
  have m155 : (146 + 9) ∈ cRS XL VS := by unfold cRS; exact List.mem_append_left _ (List.mem_map.mpr ⟨146, m146, rfl⟩)
  have f146 : ∀ k, k ≠ 8 → k ≠ 9 → k ≠ 10 → k ≠ 12 → k ≠ 14 → hpI h10 146 k = hpI h 146 k := fun k a1 a2 a3 a4 a5 => by
    rw [e146, fup_n a5, fup_n a4, fup_n a3, fup_n a1, fup_n a2]
  have i146 : ∀ i, 1 ≤ i → i < 13 → hpI h10 (146 + i) = hpI h (146 + i) := fun i h1 h2 => eI _ (by omega) (by omega) (by omega) (by omega) (s146.ne5 h2)
  have r282 : ∀ k, hpR h10 282 k = if k = 10 then some 146 else if k = 9 then some (kcG C) else hpR h 282 k := fun k => by
    rw [eR 282 k (by rw [sc_k282 w1]; decide) (Or.inl (by rw [sc_k282 w1]; decide)) (Or.inl (by decide)), if_pos rfl]
  have k286 := sc_k286 w1
  have cF : CF (kcD C) (CLn h10) h10 146 (prF F) := by
    obtain ⟨v, u, ac, h4, h5, h6, h7, -, -, -, -⟩ := c2
    unfold CF
    rw [el, eL, i146 1 (by decide) (by decide), i146 3 (by decide) (by decide), i146 4 (by decide) (by decide), i146 6 (by decide) (by decide)]
    refine ⟨v, u, ac, ?_, ?_, ?_, ?_, ?_, Nat.zero_le _, ?_, Nat.zero_le _⟩
    · rw [f146 4 (by decide) (by decide) (by decide) (by decide) (by decide)]; exact h4
    · rw [f146 5 (by decide) (by decide) (by decide) (by decide) (by decide)]; exact h5
    · rw [f146 6 (by decide) (by decide) (by decide) (by decide) (by decide)]; exact h6
    · rw [f146 7 (by decide) (by decide) (by decide) (by decide) (by decide)]; exact h7
    · rw [e146, fup_n (by decide), fup_n (by decide), fup_n (by decide), fup_e]; rfl
    · rw [e146, fup_n (by decide), fup_n (by decide), fup_n (by decide), fup_n (by decide), fup_e]; rfl
  have g : CG C h10 0 (rnW w) A [(146, (prF F, false, []), [])] [] [] (fun _ => (none, 0, hpI h10 146 11)) (some 146) 0 1 XL FS VS OS [] := by
    refine ⟨hk, ⟨by rw [e0]; exact fp, fun a ha => by rw [e0]; exact ⟨(cst a ha).1, by rw [eL], fun h18 => (cst a ha).2 h18⟩⟩, ⟨w1.fp fp, cw, cp, co⟩, oi, CU_cg cu (fun b q1 q2 => r b q1 (by omega) (by omega) (by omega) (by omega) (by omega)), ⟨fun e he => ?_, s2, s3, s4, fun y hy => ⟨(s5 y hy).1.fp fp, (s5 y hy).2⟩, ?_⟩, fun e he => ?_, ⟨fun i hi => absurd hi (Nat.not_lt_zero _), e282.1, Nat.zero_le _, ?_, e282.2.1, v2, v3, fun k hk => ?_⟩, ⟨by rw [r282]; rfl, e282.2.2.1, e282.2.2.2, by rw [r282]; rfl⟩, ⟨fun y hy k hk => ?_, fun v l q => by rw [e0] at q; rw [el]; exact q⟩, ?_⟩
    · rw [List.mem_singleton.mp he]
      refine ⟨s146.fp fp, cF, fun k hk => ?_, ?_⟩
      · show RHc A (hpR h10 (146 + 9) k) (fH F k)
        rw [rows _ m155 k hk, if_neg (by decide)]
        exact c3 k hk
      · refine ⟨?_, ?_, Nat.zero_le _, rfl, fun k hk => absurd hk (Nat.not_lt_zero _)⟩
        · show hpI h10 146 10 = _
          rw [e146, fup_n (by decide), fup_n (by decide), fup_e]; rfl
        · show hpI h10 146 14 = _
          rw [e146, fup_e]; rfl
    · rw [r282 8, if_neg (by decide), if_neg (by decide)]
      refine s6.cg (fun y hy => ?_)
      have sy := s5 y ((s3 y).mpr (List.mem_append_right _ hy))
      have n146 : y ≠ 146 := fun c => by
        have s2 : (146 :: FS).Nodup := s2
        exact (List.nodup_cons.mp s2).1 (by rw [← c]; exact hy)
      rw [eR y 13 (by rw [sy.1.k0]; decide) (Or.inl (by rw [sy.1.k0]; decide)) (Or.inr (by decide)), if_neg (by omega), if_neg n146]
    · rw [List.mem_singleton.mp he]
      refine ⟨?_, ?_, rfl⟩
      · show hpR h10 146 13 = none
        rw [eR 146 13 (by rw [s146.k0]; decide) (Or.inl (by rw [s146.k0]; decide)) (Or.inl (by decide)), if_neg (by decide), if_pos rfl, if_pos rfl]
      · show hpI h10 146 12 = 0
        rw [e146, fup_n (by decide), fup_e]
    · exact v1.cg fp (fun v hv => ⟨(oi0.2.2.1 (v + 1) (mV v hv)).1.1, by omega⟩) (fun k => by rw [eR 286 k (by rw [k286]; decide) (Or.inl (by rw [k286]; decide)) (Or.inl (by decide)), if_neg (by decide), if_neg (by decide)]) (fun v hv k hk => by rw [rows _ (mV v hv) k hk, if_neg (by have := v2 v hv; omega)]) (fun _ _ c => c)
    · rw [rows 288 (by unfold cRS; simp) k hk, if_pos rfl, eF]
      exact c3 k hk
    · have pN : ∀ z ∈ pastX, z + 9 ≠ 288 := by decide
      have my : y + 9 ∈ cRS XL VS := by unfold cRS; simp; exact Or.inr (Or.inr (Or.inl hy))
      rw [rows _ my k hk, if_neg (pN y hy), e0]
      refine ⟨rfl, fun o ho => ⟨past y hy k hk o ho, fun c hc => e5 o c ((oi0.2.2.1 (y + 9) my).2.2 k hk o ho).2 (by omega)⟩⟩
    · obtain ⟨n1, n2, n3, n4, n5, n6, n7⟩ := cn
      rw [e0]
      exact ⟨n1, fun o => by rw [n2 o]; unfold mx_kd; rw [sN, sK], n3, n4, by omega, by omega, by omega⟩
  exact ⟨A, 146, [], [], _, XL, FS, VS, OS, g, ⟨rfl, rfl, rfl, rfl⟩, fun z hz => by
    rw [List.mem_singleton.mp hz]
    exact ⟨Nat.zero_le _, fun q hq => absurd hq List.not_mem_nil⟩, List.nodup_nil⟩
end MXI9
