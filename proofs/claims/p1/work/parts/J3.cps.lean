/-! Shell.copyFrom -/
section MXJ3
variable {h h1 h2 h3 : mxH} {d x x1 sl s2 nv nu : Nat} {RS : List Nat} {p p' q' : Nat → Prop}
/-- as FrW, but for the cells p -/
def FrX (p : Nat → Prop) (h h1 : mxH) : Prop := FP h h1 ∧ hpC h1 + hpN h = hpC h + hpN h1 ∧ hpS h1 + 6 * hpN h = hpS h + 6 * hpN h1 ∧ (∀ b, b < hpN h → hpK h b ≠ 5 → ¬ p b → hpI h1 b = hpI h b ∧ hpL h1 b = hpL h b) ∧ (∀ b k, b < hpN h → hpK h b ≠ 5 → hpK h b ≠ 18 → (b ≠ 135 ∨ k ≠ 0) → hpR h1 b k = hpR h b k) ∧ (∀ b, hpN h ≤ b → b < hpN h1 → hpK h1 b = 5)
theorem FrX.rf : FrX p h h := ⟨FP.rf, rfl, rfl, fun _ _ _ _ => ⟨rfl, rfl⟩, fun _ _ _ _ _ _ => rfl, fun b h1 h2 => by omega⟩
theorem FrX.tr (a : FrX p h h1) (b : FrX p h1 h2) : FrX p h h2 := by
  obtain ⟨a1, a2, a3, a4, a5, a6⟩ := a
  obtain ⟨b1, b2, b3, b4, b5, b6⟩ := b
  have n1 := a1.1
  have n2 := b1.1
  have kk : ∀ b, b < hpN h → hpK h1 b = hpK h b := fun b hb => (a1.2 b hb).1
  refine ⟨a1.tr b1, by omega, by omega, fun b hb hk hp => ?_, fun b k hb h5 h18 h135 => ?_, fun b q1 q2 => ?_⟩
  · have := b4 b (by omega) (by rw [kk b hb]; exact hk) hp
    exact ⟨this.1.trans (a4 b hb hk hp).1, this.2.trans (a4 b hb hk hp).2⟩
  · exact (b5 b k (by omega) (by rw [kk b hb]; exact h5) (by rw [kk b hb]; exact h18) h135).trans (a5 b k hb h5 h18 h135)
  · by_cases c : b < hpN h1
    · rw [(b1.2 b c).1]; exact a6 b q1 c
    · exact b6 b (by omega) q2
theorem FrW.toX (f : FrW h h1) : FrX p h h1 := ⟨f.1, f.2.1, f.2.2.1, fun b hb hk _ => f.2.2.2.1 b hb hk, f.2.2.2.2.1, f.2.2.2.2.2⟩
theorem ExL.toX (e : ExL p' q' h h1) (hp : ∀ b, p' b → p b) (hq : ∀ b, q' b → p b) : FrX p h h1 := by
  obtain ⟨eN, eC, eS, eK, eZ, eR, eI, eL⟩ := id e
  exact ⟨e.fp, by omega, by omega, fun b _ _ c => ⟨eI b (fun q => c (hp b q)), eL b (fun q => c (hq b q))⟩, fun b k _ _ _ _ => by rw [eR], fun b h1 h2 => by omega⟩
/-- the row sl is a copy of the row s2 with open files of its own; the other rows stay -/
def CRw (h h1 : mxH) (RS : List Nat) (sl s2 : Nat) : Prop := (∀ a ∈ RS, a ≠ sl → ∀ k, k < 10 → hpR h1 a k = hpR h a k) ∧
  (∀ k, k < 10 → (hpR h s2 k = none → hpR h1 sl k = none) ∧ ∀ b, hpR h s2 k = some b → ∃ o, hpR h1 sl k = some o ∧ mx_kd h1 o 5 ∧ (∀ c, c < 4 → hpI h1 o c = hpI h b c) ∧ ∀ a ∈ RS, a ≠ sl → ∀ k', k' < 10 → hpR h a k' ≠ some o) ∧
  (∀ j k, j < 10 → k < 10 → (hpR h s2 j = hpR h s2 k ↔ hpR h1 sl j = hpR h1 sl k)) ∧
  (∀ a ∈ RS, a ≠ sl → ∀ k, k < 10 → ∀ o, hpR h a k = some o → ∀ c, c < 4 → hpI h1 o c = hpI h o c)
/-- the copied cells of a shell -/
def CSh (h h1 : mxH) (x x1 nv nu : Nat) : Prop := (hpI h1 (x + 1) 2 = nI nv ∧ ∀ k, k < nv → hpL h1 (x + 2) k = hpL h (x1 + 2) k ∧ hpI h1 (x + 3) k = hpI h (x1 + 3) k) ∧ (hpI h1 (x + 4) 2 = nI nu ∧ ∀ k, k < nu → hpL h1 (x + 5) k = hpL h (x1 + 5) k ∧ hpI h1 (x + 6) k = hpI h (x1 + 6) k) ∧
  (∀ k, k < 4 → hpL h1 (x + 7) k = hpL h (x1 + 7) k) ∧ (∀ k, hpI h1 x k = if k = 4 ∨ k = 6 ∨ k = 14 then hpI h x1 k else hpI h x k) ∧ ∀ k, k < 8 → hpI h1 (x + 12) k = hpI h (x1 + 12) k
theorem k_X8_copyFrom (hd : 4 ≤ d) (o : OI h RS []) (os : OSq h RS) (s : SB h x) (s1 : SB h x1) (hc : hpK h 135 = 0) (ap : x + 13 ≤ x1 ∨ x1 + 13 ≤ x) (r0 : x + 9 ∈ RS) (r1 : x1 + 9 ∈ RS) (hN : 135 < hpN h) (o128 : ∀ o, mx_kd h o 5 → 128 ≤ o)
    (v1 : hpI h (x1 + 1) 2 = nI nv) (v2 : nv ≤ 20) (u1 : hpI h (x1 + 4) 2 = nI nu) (u2 : nu ≤ 10) (b4 : hpI h x1 4 = 0 ∨ hpI h x1 4 = 1) :
    mx_SM mY_X8_copyFrom d [.ref x, .ref x1] h (fun r h1 => r = .inl none ∧ OI h1 RS [] ∧ OSq h1 RS ∧ FrX (blk x) h h1 ∧ CRw h h1 RS (x + 9) (x1 + 9) ∧ CSh h h1 x x1 nv nu) := by
  have nk : ∀ {i : Nat}, i < 13 → sbK i ≠ 5 := fun {i} hi => by unfold sbK; rcases i with _ | _ | _ | _ | _ | _ | _ | _ | _ | _ | _ | _ | _ | i <;> first | decide | omega
  refine b_X8_copyFrom x x1 ⟨s.k0, x + 1, s.r0_0, s1.k0, x1 + 1, s1.r0_0, by omega, s.k1, (k_X9_copyFrom2 s.av (s1.tv v1 v2) (by omega) (by omega) (by omega) (by rw [s.z2, s1.z2])).mono ?_⟩
  rintro r HB ⟨rfl, eB, cB, dB⟩
  refine Or.inl ⟨rfl, ?_⟩
  have sB := s.fp eB.fp
  have tB := s1.fp eB.fp
  have oB := o.ofL eB (fun b hb => by rcases hb with rfl | rfl <;> first | (rw [s.k1]; decide) | (rw [s.k3]; decide))
  have zI : ∀ a, a ≠ x + 1 → a ≠ x + 3 → hpI HB a = hpI h a := fun a h1 h2 => eB.2.2.2.2.2.2.1 a (fun c => c.elim h1 h2)
  have zL : ∀ a, a ≠ x + 2 → hpL HB a = hpL h a := fun a h1 => eB.2.2.2.2.2.2.2 a h1
  refine ⟨sB.k0, x + 4, sB.r0_1, tB.k0, x1 + 4, tB.r0_1, sB.k4, (k_X9_copyFrom2 sB.af (tB.tf (n := nu) (by rw [zI _ (by omega) (by omega)]; exact u1) u2) (by omega) (by omega) (by omega) (by rw [tB.z5, sB.z5])).mono ?_⟩
  rintro r HC ⟨rfl, eC, cC, dC⟩
  refine Or.inl ⟨rfl, ?_⟩
  have sC := sB.fp eC.fp
  have tC := tB.fp eC.fp
  have oC := oB.ofL eC (fun b hb => by rcases hb with rfl | rfl <;> first | (rw [sB.k4]; decide) | (rw [sB.k6]; decide))
  have wI : ∀ a, a ≠ x + 4 → a ≠ x + 6 → hpI HC a = hpI HB a := fun a h1 h2 => eC.2.2.2.2.2.2.1 a (fun c => c.elim h1 h2)
  have wL : ∀ a, a ≠ x + 5 → hpL HC a = hpL HB a := fun a h1 => eC.2.2.2.2.2.2.2 a h1
  have kC : hpK HC = hpK h := eC.2.2.2.1.trans eB.2.2.2.1
  have nC : hpN HC = hpN h := eC.1.trans eB.1
  have hcC : hpK HC 135 = 0 := by rw [kC]; exact hc
  have rC : hpR HC = hpR h := eC.2.2.2.2.2.1.trans eB.2.2.2.2.2.1
  have iC5 : ∀ b, hpK h b = 5 → hpI HC b = hpI h b := fun b hb => by
    rw [wI b (fun c => by rw [c, s.k4] at hb; exact absurd hb (by decide)) (fun c => by rw [c, s.k6] at hb; exact absurd hb (by decide)), zI b (fun c => by rw [c, s.k1] at hb; exact absurd hb (by decide)) (fun c => by rw [c, s.k3] at hb; exact absurd hb (by decide))]
  refine ⟨sC.k0, x + 8, sC.r0_3, tC.k0, x1 + 8, tC.r0_3, sC.k8, (c_copyApart (by omega) oC (os.keep nC kC) (sC.hd hcC) (tC.hd hcC) r0 r1 (by omega) ⟨by rw [nC]; exact hN, sC.n8, tC.n8, fun b hb => o128 b ⟨by rw [← nC]; exact hb.1, by rw [← kC]; exact hb.2⟩⟩).mono ?_⟩
  rintro r HD ⟨rfl, oD, fD, j2, j3, j4, j5, j6⟩
  refine Or.inl ⟨rfl, ?_⟩
  have pD := fD.1
  have sD := sC.fp pD
  have tD := tC.fp pD
  have vI : ∀ b, b < hpN HC → hpK HC b ≠ 5 → hpI HD b = hpI HC b := fun b h1 h2 => (fD.2.2.2.1 b h1 h2).1
  have vL : ∀ b, b < hpN HC → hpK HC b ≠ 5 → hpL HD b = hpL HC b := fun b h1 h2 => (fD.2.2.2.1 b h1 h2).2
  have XI : ∀ i, i < 13 → hpI HD (x1 + i) = hpI h (x1 + i) := fun i hi => by
    rw [vI _ (by have := tC.1; omega) (by rw [(tC.2.1 i hi).1]; exact nk hi), wI _ (by omega) (by omega), zI _ (by omega) (by omega)]
  have XL : ∀ i, i < 13 → hpL HD (x1 + i) = hpL h (x1 + i) := fun i hi => by
    rw [vL _ (by have := tC.1; omega) (by rw [(tC.2.1 i hi).1]; exact nk hi), wL _ (by omega), zL _ (by omega)]
  have XO : hpI HD x1 = hpI h x1 := XI 0 (by omega)
  have YO : hpI HD x = hpI h x := by rw [vI x sC.n0 (by rw [sC.k0]; decide), wI _ (by omega) (by omega), zI _ (by omega) (by omega)]
  refine ⟨tD.k0, x1 + 7, tD.r0_2, sD.k0, x + 7, sD.r0_2, tD.k7, sD.k7, by rw [tD.z7]; decide, by rw [sD.z7]; decide, ?_⟩
  intro h4 e4
  have I4 : hpI h4 = hpI HD := by rw [e4]; rfl
  have L4 : ∀ b, hpL h4 b = if b = x + 7 then va_cpy (hpL HD (x1 + 7)) (hpL HD (x + 7)) (Int32.toNatClampNeg 0) (Int32.toNatClampNeg 0) (Int32.toNatClampNeg 4) else hpL HD b := fun b => by rw [e4]; rfl
  have S4 : hpN h4 = hpN HD ∧ hpC h4 = hpC HD ∧ hpS h4 = hpS HD ∧ hpK h4 = hpK HD ∧ hpZ h4 = hpZ HD ∧ hpR h4 = hpR HD := by rw [e4]; exact ⟨rfl, rfl, rfl, rfl, rfl, rfl⟩
  clear e4
  have n01 : x1 ≠ x := by omega
  refine ⟨by rw [I4, XO]; exact b4, ?_⟩
  intro h5 e5 h6 e6 h7 e7
  have I5 : ∀ b, b ≠ x → hpI h5 b = hpI HD b := fun b hb => by rw [e5, hpI_sIo hb, I4]
  have I6 : ∀ b, b ≠ x → hpI h6 b = hpI HD b := fun b hb => by rw [e6, hpI_sIo hb, I5 b hb]
  have I7 : ∀ b, b ≠ x → hpI h7 b = hpI HD b := fun b hb => by rw [e7, hpI_sIo hb, I6 b hb]
  have J7 : hpI h7 x = fup (fup (fup (hpI h x) 4 (hpI h x1 4)) 6 (hpI h x1 6)) 14 (hpI h x1 14) := by
    rw [e7, hpI_sIs, I6 _ n01, e6, hpI_sIs, I5 _ n01, e5, hpI_sIs, I4, XO, YO]
  have S7 : hpN h7 = hpN HD ∧ hpC h7 = hpC HD ∧ hpS h7 = hpS HD ∧ hpK h7 = hpK HD ∧ hpZ h7 = hpZ HD ∧ hpR h7 = hpR HD ∧ hpL h7 = hpL h4 := by
    rw [e7, e6, e5]
    exact ⟨S4.1, S4.2.1, S4.2.2.1, S4.2.2.2.1, S4.2.2.2.2.1, S4.2.2.2.2.2, rfl⟩
  clear e5 e6 e7
  obtain ⟨qN, qC, qS, qK, qZ, qR, qL⟩ := S7
  refine ⟨x1 + 12, by rw [qR]; exact tD.r0_17, x + 12, by rw [qR]; exact sD.r0_17, by rw [qK]; exact tD.k12, by rw [qK]; exact sD.k12, by rw [qZ, tD.z12]; decide, by rw [qZ, sD.z12]; decide, ?_⟩
  intro h8 e8
  have I8 : ∀ b, b ≠ x + 12 → hpI h8 b = hpI h7 b := fun b hb => by rw [e8, hpI_rI, if_neg hb]
  have J8 : hpI h8 (x + 12) = va_cpy (hpI h7 (x1 + 12)) (hpI h7 (x + 12)) (Int32.toNatClampNeg 0) (Int32.toNatClampNeg 0) (Int32.toNatClampNeg 8) := by rw [e8, hpI_rIs]
  have S8 : hpN h8 = hpN HD ∧ hpC h8 = hpC HD ∧ hpS h8 = hpS HD ∧ hpK h8 = hpK HD ∧ hpZ h8 = hpZ HD ∧ hpR h8 = hpR HD ∧ hpL h8 = hpL h4 := by
    rw [e8]
    exact ⟨qN, qC, qS, qK, qZ, qR, qL⟩
  clear e8
  obtain ⟨tN, tC', tS, tK, tZ, tR, tL⟩ := S8
  have e8x : ExL (fun b => b = x ∨ b = x + 12) (fun b => b = x + 7) HD h8 := ⟨tN, tC', tS, tK, tZ, tR, fun b hb => by rw [I8 b (fun c => hb (Or.inr c)), I7 b (fun c => hb (Or.inl c))], fun b hb => by rw [tL, L4, if_neg hb]⟩
  have o8 : OI h8 RS [] := oD.ofL e8x (fun b hb => by rcases hb with rfl | rfl <;> first | (rw [sD.k0]; decide) | (rw [sD.k12]; decide))
  have i85 : ∀ b, hpK HD b = 5 → hpI h8 b = hpI HD b := fun b hb => by
    rw [I8 b (fun c => by rw [c, sD.k12] at hb; exact absurd hb (by decide)), I7 b (fun c => by rw [c, sD.k0] at hb; exact absurd hb (by decide))]
  have kc5 : ∀ a ∈ RS, ∀ k, k < 10 → ∀ b, hpR h a k = some b → mx_kd h b 5 := fun a ha k hk b e => (o.2.2.1 a ha).2.2 k hk b e
  refine ⟨rfl, o8, j6.keep tN tK, ((eB.toX (fun b hb => by unfold blk; omega) (fun b hb => by unfold blk; omega)).tr ((eC.toX (fun b hb => by unfold blk; omega) (fun b hb => by unfold blk; omega)).tr (fD.toX.tr (e8x.toX (fun b hb => by unfold blk; omega) (fun b hb => by unfold blk; omega))))), ⟨fun a ha hne k hk => by rw [tR, j2 a ha hne k hk, rC], fun k hk => ⟨fun e => by rw [tR]; exact (j3 k hk).1 (by rw [rC]; exact e), fun b hb => ?_⟩, fun j k hj hk => by rw [tR, ← j4 j k hj hk, rC], fun a ha hne k hk b hb c hc' => ?_⟩, ⟨⟨?_, fun k hk => ⟨?_, ?_⟩⟩, ⟨?_, fun k hk => ⟨?_, ?_⟩⟩, fun k hk => ?_, fun k => ?_, fun k hk => ?_⟩⟩
  · obtain ⟨o', o1, o2, o3, o4⟩ := (j3 k hk).2 b (by rw [rC]; exact hb)
    refine ⟨o', by rw [tR]; exact o1, ⟨by rw [tN]; exact o2.1, by rw [tK]; exact o2.2⟩, fun c hc' => ?_, fun a ha hne k' hk' => by rw [← rC]; exact o4 a ha hne k' hk'⟩
    rw [i85 o' o2.2, o3 c hc', iC5 b (kc5 _ r1 k hk b hb).2]
  · have kb := kc5 a ha k hk b hb
    rw [i85 b (by rw [(pD.2 b (by rw [nC]; exact kb.1)).1, kC]; exact kb.2), j5 a ha hne k hk b (by rw [rC]; exact hb) c hc', iC5 b kb.2]
  · rw [I8 _ (by omega), I7 _ (by omega), vI _ (by have := sC.1; omega) (by rw [sC.k1]; decide), wI _ (by omega) (by omega)]; exact cB
  · rw [tL, L4, if_neg (by omega), vL _ sC.n2 (by rw [sC.k2]; decide), wL _ (by omega)]; exact (dB k hk).1
  · rw [I8 _ (by omega), I7 _ (by omega), vI _ sC.n3 (by rw [sC.k3]; decide), wI _ (by omega) (by omega)]; exact (dB k hk).2
  · rw [I8 _ (by omega), I7 _ (by omega), vI _ sC.n4 (by rw [sC.k4]; decide)]; exact cC
  · rw [tL, L4, if_neg (by omega), vL _ sC.n5 (by rw [sC.k5]; decide), (dC k hk).1, zL _ (by omega)]
  · rw [I8 _ (by omega), I7 _ (by omega), vI _ sC.n6 (by rw [sC.k6]; decide), (dC k hk).2, zI _ (by omega) (by omega)]
  · rw [tL, L4, if_pos rfl, pk_cpy_in (by show 0 ≤ k; omega) (by show k < 0 + 4; omega), XL 7 (by omega)]
    show hpL h (x1 + 7) (0 + (k - 0)) = _
    rw [show 0 + (k - 0) = k by omega]
  · rw [I8 _ (by omega), J7]
    by_cases c14 : k = 14
    · rw [c14, fup_e, if_pos (by decide)]
    · rw [fup_n c14]
      by_cases c6 : k = 6
      · rw [c6, fup_e, if_pos (by decide)]
      · rw [fup_n c6]
        by_cases c4 : k = 4
        · rw [c4, fup_e, if_pos (by decide)]
        · rw [fup_n c4, if_neg (by omega)]
  · rw [J8, pk_cpy_in (by show 0 ≤ k; omega) (by show k < 0 + 8; omega), I7 _ (by omega), XI 12 (by omega)]
    show hpI h (x1 + 12) (0 + (k - 0)) = _
    rw [show 0 + (k - 0) = k by omega]
end MXJ3
