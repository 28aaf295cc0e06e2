/-! CG where a command of the shell's own was done -/
section MXLO
variable {C : cC} {h h1 h2 : mxH} {s s' : Nat} {w w' : spW} {A A' : Nat → Option Nat} {G : List cE} {T : List cT} {Ks : List spH} {P : cP} {cur : Option Nat} {pl rn : Int32} {XL FS VS OS inh : List Nat} {D : pmC} {e : cE} {x : Nat} {fh : spH} {F F' : spF} {en : Bool} {jb : List spJ} {js : List Nat}
theorem aparT.at : ∀ {l : List Nat}, aparT l → ∀ {a b : Nat}, a ∈ l → b ∈ l → a ≠ b → a + 13 ≤ b ∨ b + 13 ≤ a
  | [], _, _, _, ha, _, _ => absurd ha List.not_mem_nil
  | y :: l, h, a, b, ha, hb, ne => by
    have h' := List.pairwise_cons.mp h
    rcases List.mem_cons.mp ha with ea | ha
    · rcases List.mem_cons.mp hb with eb | hb
      · exact absurd (ea.trans eb.symm) ne
      · rw [ea]; exact h'.1 b hb
    · rcases List.mem_cons.mp hb with eb | hb
      · rw [eb]; exact (h'.1 a ha).symm
      · exact aparT.at h'.2 ha hb ne
theorem cst_in {a : Nat} (h : cstA a = true) : a ≤ 130 ∨ (160 ≤ a ∧ a ≤ 281) ∨ (289 ≤ a ∧ a ≤ 318) ∨ (320 ≤ a ∧ a ≤ 364) := by
  unfold cstA at h
  simp at h
  omega
theorem K0.ne5 (k : K0 C) (fc : FrD (kcH C) h) {a : Nat} (ha : cstA a = true) : hpK h a ≠ 5 := by
  rw [(fc.1.2 a (by have := cst_in ha; have := k.2.1; omega)).1]
  exact k.1 a ha
theorem sbK_ne5 : ∀ i, i < 13 → sbK i ≠ 5 := by decide
theorem SB.ne5 (s : SB h x) {i : Nat} (hi : i < 13) : hpK h (x + i) ≠ 5 := by
  rw [(s.2.1 i hi).1]; exact sbK_ne5 i hi
/-- an open file that the class's shells do not name -/
theorem LC.off (wc : WC h A s w) (sx : SB h x) {o : Nat} (k : hpK h o = 5) (ha : A o = none) : ¬ pLC A x o := by
  obtain ⟨n0, n1, n2, n3, n4, n6⟩ := sb_ne5 sx
  rintro (c | c | c | c | c | c | c | c | c | c)
  · rcases Nat.eq_or_lt_of_le c.1 with e | e
    · exact sc_ne5b wc.1 (b := o) (by omega) k
    · exact sc_ne5 wc.1 (b := o) (by omega) k
  · exact sc_ne5 wc.1 (b := o) (by omega) k
  · exact sc_ne5 wc.1 (b := o) (by omega) k
  · exact sc_ne5b wc.1 (b := o) (by omega) k
  · exact n0 (by rw [← c]; exact k)
  · exact n1 (by rw [← c]; exact k)
  · exact n3 (by rw [← c]; exact k)
  · exact n4 (by rw [← c]; exact k)
  · exact n6 (by rw [← c]; exact k)
  · exact c ha
theorem CGs.sx (c : CGs D h A ((x, (F, en, jb), js) :: G) XL FS) : SB h x ∧ (x = 146 ∨ 365 ≤ x) ∧ ∀ e ∈ G, (SB h e.1 ∧ (e.1 = 146 ∨ 365 ≤ e.1)) ∧ (x + 13 ≤ e.1 ∨ e.1 + 13 ≤ x) := by
  obtain ⟨s1, s2, s3, s4, s5, s6⟩ := c
  have mx : x ∈ XL := (s3 x).mpr (by simp)
  refine ⟨(s5 x mx).1, (s5 x mx).2, fun e he => ?_⟩
  have me : e.1 ∈ XL := (s3 e.1).mpr (List.mem_append_left _ (List.mem_map.mpr ⟨e, List.mem_cons_of_mem _ he, rfl⟩))
  refine ⟨s5 e.1 me, s4.at mx me fun c => ?_⟩
  rw [List.map_cons, List.cons_append] at s2
  exact (List.nodup_cons.mp s2).1 (List.mem_append_left _ (by rw [c]; exact List.mem_map.mpr ⟨e, he, rfl⟩))
theorem CG.loc (c : CG C h s w A ((x, (F, en, jb), js) :: G) T Ks P cur pl rn XL FS VS OS inh) (lc : LC A x h h1) (wc : WC h1 A s' w') (cf : CF (kcD C) (CLn h1) h1 x F') (cu : CU h1 (kcN C + wM w')) (ln : ∀ v l, CLn h v l → CLn h1 v l) (hH : fH F' = fH F) : CG C h1 s' w' A ((x, (F', en, jb), js) :: G) T Ks P cur pl rn XL FS VS OS inh := by
  obtain ⟨k0, fc, wc0, oi, cu0, cgs, cgp, cgf, cgr, cgq, cn⟩ := c
  obtain ⟨sx, hx, so⟩ := cgs.sx
  obtain ⟨s1, s2, s3, s4, s5, s6⟩ := cgs
  have fp : FP h h1 := lc.1.fp
  obtain ⟨⟨eN, eC, eS, eK, eZ, eR, eI, eL⟩, l2, l3⟩ := lc
  have rI : ∀ b, hpK h b ≠ 5 → ¬ ((131 ≤ b ∧ b ≤ 140) ∨ (142 ≤ b ∧ b ≤ 145) ∨ b = 159 ∨ (283 ≤ b ∧ b ≤ 284) ∨ b = x ∨ b = x + 1 ∨ b = x + 3 ∨ b = x + 4 ∨ b = x + 6) → hpI h1 b = hpI h b := fun b h5 hb => eI b (fun c => by
    rcases c with c | c | c | c | c | c | c | c | c | c
    · omega
    · omega
    · omega
    · omega
    · omega
    · omega
    · omega
    · omega
    · omega
    · exact wc0.2.2.2.nn h5 c)
  have r282 : hpI h1 282 = hpI h 282 := rI 282 (sc_ne5b wc0.1 (by decide)) (by omega)
  have r285 : hpI h1 285 = hpI h 285 := rI 285 (sc_ne5b wc0.1 (by decide)) (by omega)
  have off : ∀ o, hpK h o = 5 → A o = none → hpI h1 o = hpI h o := fun o k a => eI o (LC.off wc0 sx k a)
  refine ⟨k0, fc.tr k0.2.1 fp fun a ha => ⟨rI a (k0.ne5 fc ha) (by have := cst_in ha; omega), eL a (by have := cst_in ha; omega), fun _ => by rw [eR]⟩, wc, oi.cg eN eK eZ (fun _ _ _ _ => by rw [eR]) (fun o ho => ⟨?_, by rw [eR]⟩) (by rw [eR]), cu, ⟨fun e he => ?_, s2, s3, s4, fun y hy => ⟨(s5 y hy).1.fp fp, (s5 y hy).2⟩, by rw [eR]; exact s6⟩, fun e he => ?_, ?_, ?_, ⟨fun y hy k hk => ⟨by rw [eR]; exact (cgq.1 y hy k hk).1, fun o ho => ?_⟩, fun v l q => ln v l (cgq.2 v l q)⟩, ?_⟩
  · rcases ea : A o with _ | a
    · rw [off o ho.2 ea]
    · exact l2 o 4 (by rw [ea]; exact fun c => nomatch c) (by decide)
  · rcases List.mem_cons.mp he with rfl | he
    · obtain ⟨-, -, c3, c4⟩ := s1 _ List.mem_cons_self
      refine ⟨sx.fp fp, cf, fun k hk => ?_, ?_⟩
      · show RHc A (hpR h1 (x + 9) k) (fH F' k)
        rw [eR, hH]; exact c3 k hk
      · show CJ (kcD C) h1 x en jb js
        unfold CJ
        rw [l3 10 (by decide), l3 14 (by decide), rI (x + 11) (sx.ne5 (by decide)) (by omega), rI (x + 12) (sx.ne5 (by decide)) (by omega), eR]
        exact c4
    · obtain ⟨⟨sy, hy⟩, ap⟩ := so e he
      exact (s1 e (List.mem_cons_of_mem _ he)).cg fp (fun i hi => rI (e.1 + i) (sy.ne5 hi) (by omega)) (fun i hi => eL (e.1 + i) (by omega)) (fun i _ _ k _ => by rw [eR]) (fun _ _ c => c) ln
  · rcases List.mem_cons.mp he with rfl | he
    · have q := cgp _ List.mem_cons_self
      exact ⟨by rw [eR]; exact q.1, by rw [l3 12 (by decide)]; exact q.2.1, by rw [l3 11 (by decide)]; exact q.2.2⟩
    · obtain ⟨⟨sy, hy⟩, ap⟩ := so e he
      have q := cgp e (List.mem_cons_of_mem _ he)
      have e0 : hpI h1 e.1 = hpI h e.1 := rI e.1 (by rw [sy.k0]; decide) (by omega)
      rw [e0, eR]; exact q
  · unfold CGf CV hd_at at cgf ⊢
    rw [r282, r285, eR, eK, eZ]
    exact cgf
  · unfold CGr at cgr ⊢
    rw [r282, eR]
    exact cgr
  · rw [eR] at ho
    have q := (cgq.1 y hy k hk).2 o ho
    have k5 : hpK h o = 5 := ((oi.2.2.1 (y + 9) (by unfold cRS; simp; exact Or.inr (Or.inr (Or.inl hy)))).2.2 k hk o ho).2
    refine ⟨q.1, fun c hc => ?_⟩
    rw [off o k5 q.1]; exact q.2 c hc
  · unfold CN mx_kd at cn ⊢
    rw [eN, eC, eS, eK]
    exact cn
end MXLO
