/-! Shell.inheritFrom: the cells of a subshell -/
section MXI2
variable {h h' h1 h2 : mxH} {d n x x1 j : Nat} {RS inh : List Nat} {p q : Nat → Prop} {D : pmC} {ln : Int32 → spL → Prop} {F : spF}
def tb_ax (h : mxH) (t na va : Nat) : Prop := hpK h t = 9 ∧ hpR h t 0 = some na ∧ hpR h t 1 = some va ∧ hpK h na = 15 ∧ hpK h va = 14 ∧ hpZ h va = hpZ h na ∧ hpZ h na < 2 ^ 31
theorem SB.av (s : SB h x) : tb_ax h (x + 1) (x + 2) (x + 3) := ⟨s.k1, s.r1_0, s.r1_1, s.k2, s.k3, by rw [s.z2, s.z3], by rw [s.z2]; decide⟩
theorem SB.af (s : SB h x) : tb_ax h (x + 4) (x + 5) (x + 6) := ⟨s.k4, s.r4_0, s.r4_1, s.k5, s.k6, by rw [s.z5, s.z6], by rw [s.z5]; decide⟩
theorem k_X9_copyFrom2 {t na va t1 na1 va1 n : Nat} (a : tb_ax h t na va) (b : tb_at h t1 na1 va1 n) (n1 : t1 ≠ t) (n2 : na1 ≠ na) (n3 : va1 ≠ va) (hz : hpZ h na1 = hpZ h na) : mx_SM mY_X9_copyFrom d [.ref t, .ref t1] h (fun r h1 => r = .inl none ∧ CpT h h1 t na va na1 va1 n) := by
  obtain ⟨a1, a2, a3, a4, a5, a6, a7⟩ := a
  obtain ⟨b1, b2, b3, b4, b5, b6, b7, b8, b9⟩ := b
  have k2 : va1 ≠ t := mx_neK b5 a1 (by decide)
  refine b_X9_copyFrom t t1 ⟨a1, ?_⟩
  rintro _ rfl
  refine (k_X9_copyFrom_7 (h := hsI h t 2 0) (n0 := 0) ⟨a1, a2, a3, a4, a5, a6, a7, by rw [hpI_sI, if_pos rfl, if_pos rfl]; rfl, Nat.zero_le _⟩ ⟨b1, b2, b3, b4, b5, b6, b7, by rw [hpI_sIn n1]; exact b8, b9⟩ n1 n2 n3 hz n 0 _ (Nat.zero_add n) ⟨ExL.rf, by rw [hpI_sI, if_pos rfl, if_pos rfl]; rfl, fun k hk => absurd hk (Nat.not_lt_zero _)⟩).mono ?_
  rintro r h1 ⟨e, c1, c2, c3⟩
  exact ⟨e, (ExL.rf.I (Or.inl rfl)).tr c1, c2, fun k hk => ⟨(c3 k hk).1, by rw [(c3 k hk).2, hpI_sIn k2]⟩⟩
/-- a subshell's cells -/
def InF (D : pmC) (ln : Int32 → spL → Prop) (F : spF) (RS inh : List Nat) (x x1 : Nat) (h h6 : mxH) : Prop := FrI x h h6 ∧ FP h h6 ∧ OI h6 RS inh ∧ (∀ a ∈ RS, ∀ k, k < 10 → hpR h6 a k = if a = x + 9 then hpR h (x1 + 9) k else hpR h a k) ∧ CF D ln h6 x (subF F) ∧ hpI h6 x 10 = 0 ∧ hpI h6 x 12 = 0 ∧ hpR h6 x 13 = none ∧ hpI h6 x 14 = 0
theorem k_X8_inheritFrom (hd : 2 ≤ d) (hc : hpK h 135 = 0) (s : SB h x) (s1 : SB h x1) (hne : x + 13 ≤ x1 ∨ x1 + 13 ≤ x) (o : OI h RS inh) (r0 : x + 9 ∈ RS) (r1 : x1 + 9 ∈ RS) (cf : CF D ln h x1 F) : mx_SM mY_X8_inheritFrom d [.ref x, .ref x1] h (fun r h6 => r = .inl none ∧ InF D ln F RS inh x x1 h h6) := by
  obtain ⟨⟨v1, v2, v3⟩, ⟨u1, u2, u3⟩, ac, pf, bg, st, dp, ns, ns4, fb, fb4⟩ := cf
  have n1 : x1 ≠ x := by omega
  refine b_X8_inheritFrom x x1 ⟨by omega, s.k0, mx_xKV (k_X8_prepare s.k0) ?_⟩
  have fA := shp_fr (h := h) (x := x)
  have pA := shp_fp s.k0
  have oA := shp_oi o s.k0
  have iA := shp_I (h := h) (x := x)
  have rA : ∀ a k, a ≠ x → hpR (sh_prep h x) a k = hpR h a k := fun a k ha => by
    rw [shp_R]
    show (if a = x then fup (hpR h x) 13 none else hpR h a) k = _
    rw [if_neg ha]
  have r13 : hpR (sh_prep h x) x 13 = none := by
    rw [shp_R]
    show (if x = x then fup (hpR h x) 13 none else hpR h x) 13 = _
    rw [if_pos rfl, fup_e]
  generalize sh_prep h x = HA at fA pA oA iA rA r13 ⊢
  have sA := s.fp pA
  have tA := s1.fp pA
  have yI : ∀ i, i < 13 → ∀ k, hpI HA (x1 + i) k = hpI h (x1 + i) k := fun i hi k => fA.I (by unfold blk; omega) (by rw [(s1.2.1 i hi).1]; unfold sbK; rcases i with _ | _ | _ | _ | _ | _ | _ | _ | _ | _ | _ | _ | _ | i <;> first | decide | omega)
  have yL : ∀ i, i < 13 → hpL HA (x1 + i) = hpL h (x1 + i) := fun i hi => fA.2.2.2.2.2.2.1 _ (by unfold blk; omega)
  refine ⟨sA.k0, x + 1, sA.r0_0, tA.k0, x1 + 1, tA.r0_0, sA.k1, (k_X9_copyFrom2 sA.av (tA.tv (n := (fV F).length) (by rw [yI 1 (by omega)]; exact v1) v2) (by omega) (by omega) (by omega) (by rw [tA.z2, sA.z2])).mono ?_⟩
  rintro r HB ⟨rfl, eB, cB, dB⟩
  refine Or.inl ⟨rfl, ?_⟩
  have sB := sA.fp eB.fp
  have tB := tA.fp eB.fp
  have oB := oA.ofL eB (fun b hb => by rcases hb with rfl | rfl <;> first | (rw [sA.k1]; decide) | (rw [sA.k3]; decide))
  have zI : ∀ a, a ≠ x + 1 → a ≠ x + 3 → hpI HB a = hpI HA a := fun a h1 h2 => eB.2.2.2.2.2.2.1 a (fun c => c.elim h1 h2)
  have zL : ∀ a, a ≠ x + 2 → hpL HB a = hpL HA a := fun a h1 => eB.2.2.2.2.2.2.2 a h1
  refine ⟨sB.k0, x + 4, sB.r0_1, tB.k0, x1 + 4, tB.r0_1, sB.k4, (k_X9_copyFrom2 sB.af (tB.tf (n := (fU F).length) (by rw [zI _ (by omega) (by omega), yI 4 (by omega)]; exact u1) u2) (by omega) (by omega) (by omega) (by rw [tB.z5, sB.z5])).mono ?_⟩
  rintro r HC ⟨rfl, eC, cC, dC⟩
  refine Or.inl ⟨rfl, ?_⟩
  have sC := sB.fp eC.fp
  have tC := tB.fp eC.fp
  have oC := oB.ofL eC (fun b hb => by rcases hb with rfl | rfl <;> first | (rw [sB.k4]; decide) | (rw [sB.k6]; decide))
  have wI : ∀ a, a ≠ x + 4 → a ≠ x + 6 → hpI HC a = hpI HB a := fun a h1 h2 => eC.2.2.2.2.2.2.1 a (fun c => c.elim h1 h2)
  have wL : ∀ a, a ≠ x + 5 → hpL HC a = hpL HB a := fun a h1 => eC.2.2.2.2.2.2.2 a h1
  have hcC : hpK HC 135 = 0 := by rw [eC.2.2.2.1, eB.2.2.2.1, fA.2.2.2.1]; exact hc
  refine ⟨sC.k0, x + 8, sC.r0_3, tC.k0, x1 + 8, tC.r0_3, sC.k8, (c_X2_copyFrom (by omega) oC (sC.hd hcC) (tC.hd hcC) (by omega) r0 r1).mono ?_⟩
  rintro r HD (⟨rfl, oD, fD', dD⟩ | ⟨E, _, f⟩)
  case inr => exact f.elim
  refine Or.inl ⟨rfl, ?_⟩
  have pD := fD'.fp hcC
  have sD := sC.fp pD
  have tD := tC.fp pD
  have vI : ∀ a k, hpK HC a ≠ 5 → hpI HD a k = hpI HC a k := fun a k ha => fD'.2.2.2.2.2.2.1 a k (Or.inl ha)
  have vL : hpL HD = hpL HC := fD'.2.2.2.2.2.1
  have XI : ∀ i, i < 13 → ∀ k, hpI HD (x1 + i) k = hpI h (x1 + i) k := fun i hi k => by
    rw [vI _ k (by rw [(tC.2.1 i hi).1]; unfold sbK; rcases i with _ | _ | _ | _ | _ | _ | _ | _ | _ | _ | _ | _ | _ | i <;> first | decide | omega), wI _ (by omega) (by omega), zI _ (by omega) (by omega), yI i hi]
  have XL : ∀ i, i < 13 → hpL HD (x1 + i) = hpL h (x1 + i) := fun i hi => by rw [vL, wL _ (by omega), zL _ (by omega), yL i hi]
  have X0 : ∀ k, hpI HD x1 k = hpI h x1 k := fun k => XI 0 (by omega) k
  have b01 : ∀ b : Bool, (if b = true then (1 : Int32) else 0) = 0 ∨ (if b = true then (1 : Int32) else 0) = 1 := fun b => by cases b; exact Or.inl rfl; exact Or.inr rfl
  refine (k_X8_inheritFrom_39 sD tD hne (by rw [X0, pf]; exact b01 _) (by rw [X0, bg]; exact b01 _) 4 0 HD rfl ExL.rf (fun k hk => absurd hk (Nat.not_lt_zero _))).mono ?_
  rintro r HE ⟨rfl, eE, g4, g5, g6, g7, g8, g9, g10, gl⟩
  have oE := oD.ofL eE (fun b hb => by rw [hb, sD.k0]; decide)
  have tI : ∀ a, a ≠ x → hpI HE a = hpI HD a := fun a h1 => eE.2.2.2.2.2.2.1 a h1
  have tL : ∀ a, a ≠ x + 7 → hpL HE a = hpL HD a := fun a h1 => eE.2.2.2.2.2.2.2 a h1
  have gk : ∀ k, 10 ≤ k → hpI HE x k = hpI HA x k := fun k hk => by
    rw [g10 k hk, vI _ k (by rw [sC.k0]; decide), wI _ (by omega) (by omega), zI _ (by omega) (by omega)]
  have fr : FrI x h HE := (((fA.tr (FrI.ofL eB (fun b hb => by unfold blk; omega) (fun b hb => by unfold blk; omega))).tr (FrI.ofL eC (fun b hb => by unfold blk; omega) (fun b hb => by unfold blk; omega))).tr (FrI.ofO fD')).tr (FrI.ofL eE (fun b hb => by unfold blk; omega) (fun b hb => by unfold blk; omega))
  have RD : ∀ a k, a ≠ x → hpR HC a k = hpR h a k := fun a k ha => by rw [eC.2.2.2.2.2.1, eB.2.2.2.2.2.1, rA a k ha]
  refine ⟨rfl, fr, (((pA.tr eB.fp).tr eC.fp).tr pD).tr eE.fp, oE, fun a ha k hk => ?_, ⟨⟨?_, v2, fun k hk => ⟨?_, ?_⟩⟩, ⟨?_, u2, fun k hk => ⟨?_, ?_⟩⟩, fun k hk => ?_, ?_, ?_, ?_, ?_, ?_, ns4, ?_, ns4⟩, ?_, ?_, ?_, ?_⟩
  · have k18 := (o.2.2.1 a ha).1.2
    have nx : a ≠ x := mx_neK k18 s.k0 (by decide)
    rw [eE.2.2.2.2.2.1, dD a ha k hk, RD a k nx, RD (x1 + 9) k (by omega)]
  · rw [tI _ (by omega), vI _ _ (by rw [sC.k1]; decide), wI _ (by omega) (by omega)]; exact cB
  · rw [tL _ (by omega), vL, wL _ (by omega), (dB k hk).1, yL 2 (by omega)]; exact (v3 k hk).1
  · rw [tI _ (by omega), vI _ _ (by rw [sC.k3]; decide), wI _ (by omega) (by omega), (dB k hk).2, yI 3 (by omega)]; exact (v3 k hk).2
  · rw [tI _ (by omega), vI _ _ (by rw [sC.k4]; decide)]; exact cC
  · rw [tL _ (by omega), vL, (dC k hk).1, zL _ (by omega), yL 5 (by omega)]; exact (u3 k hk).1
  · rw [tI _ (by omega), vI _ _ (by rw [sC.k6]; decide), (dC k hk).2, zI _ (by omega) (by omega), yI 6 (by omega)]; exact (u3 k hk).2
  · rw [gl k hk, XL 7 (by omega), ac k hk]; rfl
  · rw [g4, X0]; exact pf
  · rw [g5, X0]; exact bg
  · rw [g6, X0]; exact st
  · rw [g7, X0, dp]; rfl
  · rw [g8, X0]; exact ns
  · rw [g9, X0]; exact ns
  · rw [gk 10 (by omega), iA]; rfl
  · rw [gk 12 (by omega), iA]; rfl
  · rw [eE.2.2.2.2.2.1, fD'.2.2.2.2.2.2.2 x 13 (by rw [sC.k0]; decide) (Or.inl (by rw [sC.k0]; decide)) (Or.inr (by decide)), eC.2.2.2.2.2.1, eB.2.2.2.2.2.1]; exact r13
  · rw [gk 14 (by omega), iA]; rfl
end MXI2
