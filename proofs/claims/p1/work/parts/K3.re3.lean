/-! ShellCore.remember, whole -/
section MXK3
variable {B h h1 h2 h3 h' : mxH} {D : pmC} {d n n' j k r W s nv : Nat} {L M : List Nat} {w : spW} {F : spF} {jl : List Int32} {XL FS VS OS : List Nat} {pi : Nat → Nat} {p : Nat → Prop}
theorem KpF.tr (a : KpF h h1) (b : KpF h1 h2) : KpF h h2 := by
  obtain ⟨a1, a2, a3, a4⟩ := a
  obtain ⟨b1, b2, b3, b4⟩ := b
  have n1 := a1.1
  refine ⟨a1.tr b1, fun b hb hk q1 q2 q3 => ?_, fun k hk => (b3 k hk).trans (a3 k hk), fun b k hb q1 q2 q3 q4 => ?_⟩
  · have t := a2 b hb hk q1 q2 q3
    have u := b2 b (by omega) (by rw [(a1.2 b hb).1]; exact hk) q1 q2 q3
    exact ⟨fun n => (u.1 n).trans (t.1 n), u.2.trans t.2⟩
  · exact (b4 b k (by omega) (by rw [(a1.2 b hb).1]; exact q1) (by rw [(a1.2 b hb).1]; exact q2) q3 q4).trans (a4 b k hb q1 q2 q3 q4)
/-- only the order of the past worlds, and their number, may change -/
def R160 (h h' : mxH) : Prop := hpN h' = hpN h ∧ hpC h' = hpC h ∧ hpS h' = hpS h ∧ hpK h' = hpK h ∧ hpZ h' = hpZ h ∧ (∀ b, b ≠ 128 → hpI h' b = hpI h b) ∧ (∀ k, k ≠ 7 → hpI h' 128 k = hpI h 128 k) ∧ hpL h' = hpL h ∧ ∀ b, b ≠ 160 → hpR h' b = hpR h b
theorem R160.fp (r : R160 h h') (sc : SC h) : FP h h' := ⟨by rw [r.1]; exact Nat.le_refl _, fun a _ => ⟨by rw [r.2.2.2.1], by rw [r.2.2.2.2.1], fun k hk => by
  rw [r.2.2.2.2.2.2.2.2 a (fun c => by
    rw [c, sc_k160 sc] at hk
    exact absurd hk (show k ∉ ([] : List Nat) from List.not_mem_nil))]⟩⟩
theorem R160.kp (r : R160 h h') (sc : SC h) : KpF h h' := ⟨r.fp sc, fun b _ _ _ _ _ => ⟨fun c => r.2.2.2.2.2.1 b c, by rw [r.2.2.2.2.2.2.2.1]⟩, r.2.2.2.2.2.2.1, fun b k _ _ _ _ q => by rw [r.2.2.2.2.2.2.2.2 b q]⟩
theorem WQ.r160 (r : R160 h h') (sc : SC h) (hW : 160 < W ∨ W = 140) (q : WQ D h W w F jl) : WQ D h' W w F jl := by
  obtain ⟨eN, eC, eS, eK, eZ, eI, eJ, eL, eR⟩ := r
  have I : ∀ b, b ≠ 128 → hpI h' b = hpI h b := eI
  have el : CLn h' = CLn h := CLn_cg (fun b q1 q2 => I b (by omega))
  obtain ⟨⟨s, s9, q1⟩, q2, q3, ⟨j1, j2, j3⟩, hq⟩ := q
  refine ⟨⟨s, s9, ?_⟩, q2, ?_, ⟨by rw [I _ (by omega)]; exact j1, j2, fun k hk => by rw [I _ (by omega)]; exact j3 k hk⟩, ?_⟩
  · show CW (CLn h') (hpI h' W) (hpI h' (W + 2)) (hpI h' (W + 3)) (hpI h' (W + 4)) (hpI h' (W + 5)) (hpI h' (W + 19)) (hpL h' (W + 1)) s w
    rw [I _ (by omega), I _ (by omega), I _ (by omega), I _ (by omega), I _ (by omega), I _ (by omega), eL, el]
    exact q1
  · unfold CFc at q3 ⊢
    rw [eL, el, I _ (by omega), I _ (by omega), I _ (by omega), I _ (by omega), I _ (by omega)]
    exact q3
  · obtain ⟨h1', h2'⟩ := hq
    have er : hpR h' (W + 15) = hpR h (W + 15) := eR _ (by omega)
    refine ⟨fun k hk => ⟨fun c => by rw [er]; exact (h1' k hk).1 c, fun a ha => ?_⟩, fun j k hj hk => by rw [er]; exact h2' j k hj hk⟩
    obtain ⟨o, q', r1, r2, r3, r4⟩ := (h1' k hk).2 a ha
    exact ⟨o, q', by rw [er]; exact r1, ⟨by rw [eN]; exact r2.1, by rw [eK]; exact r2.2⟩, r3, r4.cg (fun c _ => by rw [eI o (fun z => by
      have := r2.2
      rw [z, sc_k128 sc] at this
      exact absurd this (by decide))])⟩
theorem IDW.r160 (r : R160 h h') (i : IDW D B h n w F jl XL FS VS OS) : IDW D B h' n w F jl XL FS VS OS := by
  obtain ⟨s0, wq, cn, cd, oi, cu, ⟨x1, x2, x3, x4, x5⟩, cv, past, ⟨n1, n2, n3, n4, n5, n6, n7⟩⟩ := i
  have N := s0.1
  have fp := r.fp s0
  have wq' := wq.r160 r s0 (Or.inr rfl)
  have mem : ∀ u ∈ VS, u + 1 ∈ cRS XL VS := fun u hu => by
    unfold cRS
    exact List.mem_append_right _ (List.mem_cons_of_mem _ (List.mem_append_right _ (List.mem_map.mpr ⟨u, hu, rfl⟩)))
  obtain ⟨eN, eC, eS, eK, eZ, eI, eJ, eL, eR⟩ := r
  have nk : ∀ {a kd : Nat}, hpK h a = kd → kd ≠ 20 → a ≠ 160 := fun {a kd} e ne c => by
    rw [c, sc_k160 s0] at e; exact ne e.symm
  refine ⟨s0.fp fp, wq', cn, ?_, oi.cg eN eK eZ (fun a ha k _ => by rw [eR a (nk (oi.2.2.1 a ha).1.2 (by decide))]) (fun o ho => ⟨by rw [eI o (fun c => by have := ho.2; rw [c, sc_k128 s0] at this; exact absurd this (by decide))], by rw [eR o (nk ho.2 (by decide))]⟩) (by rw [eR 135 (by decide)]), CU_cg cu (fun b h1 h2 => eI b (by omega)), ⟨x1, x2, x3, fun x hx => ⟨(x4 x hx).1.fp fp, (x4 x hx).2⟩, ?_⟩, ⟨cv.1.cg fp (fun u hu => ⟨(oi.2.2.1 _ (mem u hu)).1.1, by omega⟩) (fun k => by rw [eR 286 (by decide)]) (fun u hu k hk => by rw [eR _ (nk (oi.2.2.1 _ (mem u hu)).1.2 (by decide))]) (fun o a e => e), cv.2⟩, fun x hx k hk o ho => ?_, n1, fun o => ?_, n3, n4, by rw [eN]; exact n5, by rw [eN, eC]; exact n6, by rw [eN, eS]; exact n7⟩
  · unfold CFd at cd ⊢
    rw [eI 146 (by decide)]; exact cd
  · rw [eR 282 (by decide)]
    exact x5.cg fun y hy => by rw [eR y (nk ((x4 y ((x2 y).mpr (List.mem_append_right _ hy))).1.k0) (by decide))]
  · obtain ⟨i, hi, rfl⟩ := pw_ex hx
    rw [eR _ (by omega)] at ho
    rw [eR 155 (by decide)]
    exact past _ hx k hk o ho
  · unfold mx_kd
    rw [eN, eK]
    exact n2 o
/-- the past worlds, one place down -/
def rotP (pi : Nat → Nat) : Nat → Nat := fun j => if j < 5 then pi (j + 1) else pi 0
theorem x_rem18 (sc : SC h) (pa : PsA h pi 6) {Q : mxRes → mxH → Prop} (K : ∀ h1, R160 h h1 → PsA h1 (rotP pi) 5 → mx_SX mY_X11_remember d 56 [(0, .ref 128)] [] h1 Q) : ∀ q i (h' : mxH), i + q = 6 → 1 ≤ i → R160 h h' → hpI h' 128 = hpI h 128 → (∀ j, j < 6 → hpR h' 160 j = if j + 1 < i then some (161 + 20 * pi (j + 1)) else some (161 + 20 * pi j)) →
    mx_SX mY_X11_remember d 18 [(0, .ref 128), (1, va_rf (some (161 + 20 * pi 0))), (2, .int (nI i))] [] h' Q := by
  obtain ⟨p1, p2, p3, p4⟩ := pa
  intro q
  induction q with
  | zero =>
    intro i h' hi i1 r e c
    obtain rfl : i = 6 := by omega
    have s' := sc.fp (r.fp sc)
    have wb : WB h (161 + 20 * pi 0) := sc.2.2.2 _ (pw_in (p3 0 (by decide)).1).2
    refine b_X11_remember_18 128 _ _ ⟨fun _ => ⟨sc_k128 s', 160, sc_r128_6 s', sc_k160 s', by rw [sc_z160 s']; show vp_in (nI 5) 6; exact vp_in_nI (by decide) (by decide), fun b hb => ?_, ?_⟩, fun c => absurd (show (6 : Int32) ≤ nI 6 from by decide) c⟩
    · rw [← Option.some.inj hb]
      exact (wb.fp (r.fp sc)).k0
    · intro h1 e1 h2 e2
      obtain ⟨eN, eC, eS, eK, eZ, eI, eJ, eL, eR⟩ := r
      have I2 : ∀ b, b ≠ 128 → hpI h2 b = hpI h b := fun b hb => by rw [e2, hpI_sIo hb, e1]; exact eI b hb
      have J2 : hpI h2 128 = fup (hpI h 128) 7 5 := by rw [e2, hpI_sIs, e1]; show fup (hpI h' 128) 7 5 = _; rw [e]
      have R2 : ∀ b j, hpR h2 b j = if b = 160 then (if j = 5 then some (161 + 20 * pi 0) else hpR h' 160 j) else hpR h' b j := fun b j => by rw [e2, sI_R, e1, hpR_sR]; rfl
      refine K h2 ⟨by rw [e2, e1]; exact eN, by rw [e2, e1]; exact eC, by rw [e2, e1]; exact eS, by rw [e2, e1]; exact eK, by rw [e2, e1]; exact eZ, I2, fun k hk => by rw [J2, fup_n hk], by rw [e2, e1]; exact eL, fun b hb => by
        funext j
        rw [R2, if_neg hb, eR b hb]⟩ ⟨by rw [J2, fup_e]; rfl, by decide, fun j hj => ⟨?_, ?_⟩, fun i j hi hj eij => ?_⟩
      · unfold rotP
        split
        · exact (p3 (j + 1) (by omega)).1
        · exact (p3 0 (by decide)).1
      · rw [R2, if_pos rfl]
        unfold rotP
        by_cases c5 : j = 5
        · rw [if_pos c5, if_neg (by omega)]
        · rw [if_neg c5, if_pos (by omega), c j hj, if_pos (by omega)]
      · unfold rotP at eij
        by_cases ci : i < 5
        · by_cases cj : j < 5
          · rw [if_pos ci, if_pos cj] at eij
            have := p4 (i + 1) (j + 1) (by omega) (by omega) eij
            omega
          · rw [if_pos ci, if_neg cj] at eij
            have := p4 (i + 1) 0 (by omega) (by omega) eij
            omega
        · by_cases cj : j < 5
          · rw [if_neg ci, if_pos cj] at eij
            have := p4 0 (j + 1) (by omega) (by omega) eij
            omega
          · omega
  | succ q ih =>
    intro i h' hi i1 r e c
    have s' := sc.fp (r.fp sc)
    have hi6 : i < 6 := by omega
    have wb : WB h (161 + 20 * pi i) := sc.2.2.2 _ (pw_in (p3 i hi6).1).2
    have ei : hpR h' 160 i = some (161 + 20 * pi i) := by rw [c i hi6, if_neg (by omega)]
    have em : nI i - 1 = nI (i - 1) := nI_sb (b := 1) i1
    refine b_X11_remember_18 128 _ _ ⟨fun z => absurd z (show ¬ (6 : Int32) ≤ nI i from nI_ge (b := 6) hi6 (by decide)), fun _ => ⟨sc_k128 s', 160, sc_r128_6 s', sc_k160 s', by rw [sc_z160 s']; exact vp_in_nI hi6 (by decide), by rw [em, sc_z160 s']; exact vp_in_nI (by omega) (by decide), fun b hb => ?_, ?_⟩⟩
    · rw [nI_clamp (by omega), ei] at hb
      rw [← Option.some.inj hb]
      exact (wb.fp (r.fp sc)).k0
    · intro h3 e3
      rw [em, nI_clamp (by omega), nI_clamp (by omega), ei] at e3
      rw [nI_1]
      obtain ⟨eN, eC, eS, eK, eZ, eI, eJ, eL, eR⟩ := r
      refine ih (i + 1) h3 (by omega) (by omega) ⟨by rw [e3]; exact eN, by rw [e3]; exact eC, by rw [e3]; exact eS, by rw [e3]; exact eK, by rw [e3]; exact eZ, fun b hb => by rw [e3]; exact eI b hb, fun k hk => by rw [e3]; exact eJ k hk, by rw [e3]; exact eL, fun b hb => ?_⟩ (by rw [e3]; exact e) (fun j hj => ?_)
      · funext j
        rw [e3, hpR_sRn hb, eR b hb]
      · rw [e3, hpR_sR, if_pos rfl]
        by_cases cj : j = i - 1
        · rw [if_pos cj, if_pos (by omega), show j + 1 = i by omega]
        · rw [if_neg cj, c j hj]
          by_cases cl : j + 1 < i
          · rw [if_pos cl, if_pos (by omega)]
          · rw [if_neg cl, if_neg (by omega)]
end MXK3
