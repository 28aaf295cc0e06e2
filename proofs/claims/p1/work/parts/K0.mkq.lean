/-! what the marks keep -/
section MXK0
variable {B h h1 h2 h3 : mxH} {D : pmC} {d n n' j k r W s nv : Nat} {L M : List Nat} {w : spW} {F : spF} {jl : List Int32} {XL FS VS OS : List Nat} {ln ln' : Int32 → spL → Prop}
theorem CW.lns {f0 f2 f3 f4 f5 f9 : Nat → Int32} {g1 : Nat → Int64} (c : CW ln f0 f2 f3 f4 f5 f9 g1 s w) (m3 : NMf f3 w (wF w).length L) (m4 : NMr f4 (wI w).length L) (m5 : NMr f5 (wP w).length L) (e : ∀ v l, ln v l → (∃ j, v = nI j ∧ j ∈ L) → ln' v l) : CW ln' f0 f2 f3 f4 f5 f9 g1 s w := by
  obtain ⟨⟨a1, a2, a3⟩, ⟨b1, b2, b3⟩, ⟨c1, c2, c3⟩, d, t⟩ := c
  refine ⟨⟨a1, a2, fun i hi => ?_⟩, ⟨b1, b2, fun k hk => e _ _ (b3 k hk) (by rw [Nat.zero_add]; exact m4 k hk)⟩, ⟨c1, c2, fun k hk => e _ _ (c3 k hk) (by rw [Nat.zero_add]; exact m5 k hk)⟩, d, t⟩
  obtain ⟨z1, z2, z3, z4⟩ := a3 i hi
  exact ⟨z1, z2, z3, fun k hk => e _ _ (z4 k hk) (m3 i hi hi k hk)⟩
theorem CLr.mk {t n u u' : Nat → Int32} {v : Int32} {l : spL} (c : CLr t n u v l) (m : ∃ j, v = nI j ∧ j ∈ L) (hL : ∀ j ∈ L, j < 3200 ∧ u' j = 1) : CLr t n u' v l := by
  obtain ⟨i, c1, c2, c3, c4⟩ := c
  obtain ⟨j, e, hj⟩ := m
  obtain ⟨j1, j2⟩ := hL j hj
  have : i = j := (nI_eq (by omega) (by omega)).mp (c1.symm.trans e)
  exact ⟨i, c1, c2, Or.inr (by rw [this]; exact j2), c4⟩
abbrev pMK (b : Nat) : Prop := b = 131 ∨ b = 134
theorem WQ.mark (s0 : SC h) (q : WQ D h W w F jl) (hW : 134 < W) (e : ExL pMK (fun _ => False) h h1) (m3 : NMf (hpI h (W + 3)) w (wF w).length L) (m4 : NMr (hpI h (W + 4)) (wI w).length L) (m5 : NMr (hpI h (W + 5)) (wP w).length L) (m9 : NMr (hpI h (W + 9)) (fV F).length L) (hL : ∀ j ∈ L, j < 3200 ∧ hpI h1 134 j = 1) : WQ D h1 W w F jl := by
  obtain ⟨eN, eC, eS, eK, eZ, eR, eI, eL⟩ := e
  have eL : hpL h1 = hpL h := by funext b; exact eL b id
  have I : ∀ b, 134 < b → hpI h1 b = hpI h b := fun b hb => eI b (by unfold pMK; omega)
  have I2 : hpI h1 132 = hpI h 132 := eI 132 (by decide)
  have I3 : hpI h1 133 = hpI h 133 := eI 133 (by decide)
  have el : ∀ v l, CLn h v l → (∃ j, v = nI j ∧ j ∈ L) → CLn h1 v l := fun v l c m => by
    show CLr (hpI h1 132) (hpI h1 133) (hpI h1 134) v l
    rw [I2, I3]
    exact c.mk m hL
  obtain ⟨⟨s, s9, q1⟩, q2, ⟨⟨v1, v2, v3⟩, q3⟩, ⟨j1, j2, j3⟩, hq⟩ := q
  refine ⟨⟨s, s9, ?_⟩, q2, ⟨⟨by rw [I _ (by omega)]; exact v1, v2, fun k hk => ⟨by rw [eL]; exact (v3 k hk).1, ?_⟩⟩, ?_⟩, ⟨by rw [I _ (by omega)]; exact j1, j2, fun k hk => by rw [I _ (by omega)]; exact j3 k hk⟩, ?_⟩
  · show CW (CLn h1) (hpI h1 W) (hpI h1 (W + 2)) (hpI h1 (W + 3)) (hpI h1 (W + 4)) (hpI h1 (W + 5)) (hpI h1 (W + 19)) (hpL h1 (W + 1)) s w
    rw [I _ hW, I _ (by omega), I _ (by omega), I _ (by omega), I _ (by omega), I _ (by omega), eL]
    exact CW.lns q1 m3 m4 m5 el
  · rw [I _ (by omega)]
    exact el _ _ (v3 k hk).2 (m9 k hk)
  · rw [eL, I _ (by omega), I _ (by omega), I _ (by omega)]; exact q3
  · obtain ⟨h1', h2'⟩ := hq
    refine ⟨fun k hk => ⟨fun c => by rw [eR]; exact (h1' k hk).1 c, fun a ha => ?_⟩, fun j k hj hk => by rw [eR]; exact h2' j k hj hk⟩
    obtain ⟨o, q', r1, r2, r3, r4⟩ := (h1' k hk).2 a ha
    refine ⟨o, q', by rw [eR]; exact r1, ⟨by rw [eN]; exact r2.1, by rw [eK]; exact r2.2⟩, r3, r4.cg (fun c _ => ?_)⟩
    rw [eI o (fun z => by
      rcases z with z | z
      · rw [z] at r2; exact sc_ne5b s0 (by decide) r2.2
      · rw [z] at r2; exact sc_ne5 s0 (by decide) r2.2)]
theorem IDW.mark (i : IDW D B h n w F jl XL FS VS OS) (e : ExL pMK (fun _ => False) h h1) (q : WQ D h1 140 w F jl) (cu : CU h1 n') : IDW D B h1 n' w F jl XL FS VS OS := by
  obtain ⟨s0, -, cn, cd, oi, -, ⟨x1, x2, x3, x4, x5⟩, cv, past, ⟨n1, n2, n3, n4, n5, n6, n7⟩⟩ := i
  have N := s0.1
  have oi1 := oi.ofL e (fun b hb => by
    rcases hb with rfl | rfl
    · exact sc_ne5b s0 (by decide)
    · exact sc_ne5 s0 (by decide))
  have mem : ∀ u ∈ VS, u + 1 ∈ cRS XL VS := fun u hu => by
    unfold cRS
    exact List.mem_append_right _ (List.mem_cons_of_mem _ (List.mem_append_right _ (List.mem_map.mpr ⟨u, hu, rfl⟩)))
  have fp := e.fp
  obtain ⟨eN, eC, eS, eK, eZ, eR, eI, eL⟩ := e
  refine ⟨s0.fp fp, q, cn, ?_, oi1, cu, ⟨x1, x2, x3, fun x hx => ⟨(x4 x hx).1.fp fp, (x4 x hx).2⟩, by rw [eR]; exact x5⟩, ⟨cv.1.cg fp (fun u hu => ⟨(oi.2.2.1 _ (mem u hu)).1.1, by omega⟩) (fun k => by rw [eR]) (fun u hu k hk => by rw [eR]) (fun o a e => e), cv.2⟩, fun x hx k hk o ho => by rw [eR] at ho ⊢; exact past x hx k hk o ho, n1, fun o => ?_, n3, n4, by rw [eN]; exact n5, by rw [eN, eC]; exact n6, by rw [eN, eS]; exact n7⟩
  · unfold CFd at cd ⊢
    rw [eI 146 (by decide)]; exact cd
  · unfold mx_kd
    rw [eN, eK]
    exact n2 o
end MXK0
