/-! World.copyFrom -/
section MXJ4
variable {h h1 h2 h3 : mxH} {d W W1 sl s2 nv nu a k : Nat} {RS : List Nat} {p q : Nat → Prop}
abbrev wblk (x a : Nat) : Prop := x ≤ a ∧ a < x + 20
theorem xs_I {v : Int32} (e : h1 = hsI h a k v) : ExL (fun b => b = a) (fun _ => False) h h1 ∧ hpI h1 a = fup (hpI h a) k v := by
  rw [e]
  exact ⟨ExL.rf.I rfl, hpI_sIs⟩
theorem xs_rI {f : Nat → Int32} (e : h1 = hrI h a f) : ExL (fun b => b = a) (fun _ => False) h h1 ∧ hpI h1 a = f := by
  rw [e]
  exact ⟨⟨rfl, rfl, rfl, rfl, rfl, rfl, fun b hb => by rw [hpI_rI, if_neg hb], fun _ _ => rfl⟩, hpI_rIs⟩
theorem xs_rL {f : Nat → Int64} (e : h1 = hrL h a f) : ExL (fun _ => False) (fun b => b = a) h h1 ∧ hpL h1 a = f := by
  rw [e]
  exact ⟨⟨rfl, rfl, rfl, rfl, rfl, rfl, fun _ _ => rfl, fun b hb => by rw [hpL_rL, if_neg hb]⟩, hpL_rLs⟩
theorem FrX.wk {p' : Nat → Prop} (f : FrX p h h1) (hp : ∀ b, p b → p' b) : FrX p' h h1 := ⟨f.1, f.2.1, f.2.2.1, fun b hb hk c => f.2.2.2.1 b hb hk (fun q => c (hp b q)), f.2.2.2.2.1, f.2.2.2.2.2⟩
theorem CRw.pre (e : ExL p q h h1) (hp : ∀ b, p b → hpK h b ≠ 5) (oi : OI h RS []) (hs : s2 ∈ RS) (c : CRw h1 h2 RS sl s2) : CRw h h2 RS sl s2 := by
  obtain ⟨c1, c2, c3, c4⟩ := c
  have r := e.2.2.2.2.2.1
  have i5 : ∀ b, hpK h b = 5 → hpI h1 b = hpI h b := fun b hb => e.2.2.2.2.2.2.1 b (fun c => hp b c hb)
  rw [r] at c1 c2 c3 c4
  exact ⟨c1, fun k hk => ⟨(c2 k hk).1, fun b hb => by
    obtain ⟨o, o1, o2, o3, o4⟩ := (c2 k hk).2 b hb
    exact ⟨o, o1, o2, fun c hc => by rw [o3 c hc, i5 b ((oi.2.2.1 _ hs).2.2 k hk b hb).2], o4⟩⟩, c3, fun a ha hne k hk o ho c hc => by rw [c4 a ha hne k hk o ho c hc, i5 o ((oi.2.2.1 a ha).2.2 k hk o ho).2]⟩
theorem CRw.post (c : CRw h h1 RS sl s2) (fp : FP h h1) (oi : OI h RS []) (e : ExL p q h1 h2) (hp : ∀ b, p b → hpK h1 b ≠ 5) : CRw h h2 RS sl s2 := by
  obtain ⟨c1, c2, c3, c4⟩ := c
  have r := e.2.2.2.2.2.1
  have i5 : ∀ b, hpK h1 b = 5 → hpI h2 b = hpI h1 b := fun b hb => e.2.2.2.2.2.2.1 b (fun c => hp b c hb)
  refine ⟨fun a ha hne k hk => by rw [r]; exact c1 a ha hne k hk, fun k hk => ⟨fun c => by rw [r]; exact (c2 k hk).1 c, fun b hb => ?_⟩, fun j k hj hk => by rw [r]; exact c3 j k hj hk, fun a ha hne k hk o ho c hc => ?_⟩
  · obtain ⟨o, o1, o2, o3, o4⟩ := (c2 k hk).2 b hb
    exact ⟨o, by rw [r]; exact o1, e.fp.kd o2, fun c hc => by rw [i5 o o2.2]; exact o3 c hc, o4⟩
  · have ko := (oi.2.2.1 a ha).2.2 k hk o ho
    rw [i5 o (fp.kd ko).2]
    exact c4 a ha hne k hk o ho c hc
theorem fup_c7 {f g : Nat → Int32} {k : Nat} : fup (fup (fup (fup (fup (fup (fup f 3 (g 3)) 5 (g 5)) 7 (g 7)) 10 (g 10)) 11 (g 11)) 12 (g 12)) 13 (g 13) k = if k = 3 ∨ k = 5 ∨ k = 7 ∨ k = 10 ∨ k = 11 ∨ k = 12 ∨ k = 13 then g k else f k := by
  by_cases c13 : k = 13
  · rw [c13, fup_e, if_pos (by decide)]
  rw [fup_n c13]
  by_cases c12 : k = 12
  · rw [c12, fup_e, if_pos (by decide)]
  rw [fup_n c12]
  by_cases c11 : k = 11
  · rw [c11, fup_e, if_pos (by decide)]
  rw [fup_n c11]
  by_cases c10 : k = 10
  · rw [c10, fup_e, if_pos (by decide)]
  rw [fup_n c10]
  by_cases c7 : k = 7
  · rw [c7, fup_e, if_pos (by decide)]
  rw [fup_n c7]
  by_cases c5 : k = 5
  · rw [c5, fup_e, if_pos (by decide)]
  rw [fup_n c5]
  by_cases c3 : k = 3
  · rw [c3, fup_e, if_pos (by decide)]
  rw [fup_n c3]
  rw [if_neg (by omega)]
/-- the copied cells of a world -/
def CWo (h h1 : mxH) (W W1 : Nat) : Prop := (∀ k, hpI h1 W k = if k = 3 ∨ k = 5 ∨ k = 7 ∨ k = 10 ∨ k = 11 ∨ k = 12 ∨ k = 13 then hpI h W1 k else hpI h W k) ∧ (∀ k, k < 8 → hpL h1 (W + 1) k = hpL h (W1 + 1) k ∧ hpI h1 (W + 2) k = hpI h (W1 + 2) k) ∧ (∀ k, k < 320 → hpI h1 (W + 3) k = hpI h (W1 + 3) k) ∧ (∀ k, k < 40 → hpI h1 (W + 4) k = hpI h (W1 + 4) k) ∧ (∀ k, k < 100 → hpI h1 (W + 5) k = hpI h (W1 + 5) k) ∧ ∀ k, k < 180 → hpI h1 (W + 19) k = hpI h (W1 + 19) k
theorem cp0 {α : Type} {f g f' : Nat → α} {n j : Nat} {z n' : Int32} (e : f = f') (hz : z.toNatClampNeg = 0) (hn : n'.toNatClampNeg = n) (hj : j < n) : va_cpy f g z.toNatClampNeg z.toNatClampNeg n'.toNatClampNeg j = f' j := by
  rw [hz, hn, pk_cpy_in (Nat.zero_le _) (by omega), e]
  show f' (0 + (j - 0)) = _
  rw [show 0 + (j - 0) = j by omega]
theorem k_X10_copyFrom (hd : 5 ≤ d) (o : OI h RS []) (os : OSq h RS) (s : WB h W) (s1 : WB h W1) (hc : hpK h 135 = 0) (ap : W + 20 ≤ W1 ∨ W1 + 20 ≤ W) (r0 : W + 15 ∈ RS) (r1 : W1 + 15 ∈ RS) (hN : 135 < hpN h) (o128 : ∀ o, mx_kd h o 5 → 128 ≤ o)
    (v1 : hpI h (W1 + 7) 2 = nI nv) (v2 : nv ≤ 20) (u1 : hpI h (W1 + 10) 2 = nI nu) (u2 : nu ≤ 10) (b4 : hpI h (W1 + 6) 4 = 0 ∨ hpI h (W1 + 6) 4 = 1) (b13 : hpI h W1 13 = 0 ∨ hpI h W1 13 = 1) :
    mx_SM mY_X10_copyFrom d [.ref W, .ref W1] h (fun r h1 => r = .inl none ∧ OI h1 RS [] ∧ OSq h1 RS ∧ FrX (wblk W) h h1 ∧ CRw h h1 RS (W + 15) (W1 + 15) ∧ CSh h h1 (W + 6) (W1 + 6) nv nu ∧ CWo h h1 W W1) := by
  have n01 : W1 ≠ W := by omega
  refine b_X10_copyFrom W W1 ⟨s1.k0, s.k0, ?_⟩
  have E0 : ExL (fun b => W ≤ b ∧ b < W + 6) (fun b => W ≤ b ∧ b < W + 6) h h := ExL.rf
  intro g1 e1
  obtain ⟨x1, y1⟩ := xs_I e1
  clear e1
  have E1 := E0.tr (x1.wk (fun b hb => by have hb : b = W := hb; omega) (fun b hb => hb.elim))
  have q1 : ∀ j, j < 20 → hpI g1 (W1 + j) = hpI h (W1 + j) := fun j hj => E1.2.2.2.2.2.2.1 _ (by omega)
  refine ⟨W1 + 1, by rw [E1.2.2.2.2.2.1]; exact s1.r0, W + 1, by rw [E1.2.2.2.2.2.1]; exact s.r0, by rw [E1.2.2.2.1]; exact s1.k1, by rw [E1.2.2.2.1]; exact s.k1, by rw [E1.2.2.2.2.1, s1.z1]; decide, by rw [E1.2.2.2.2.1, s.z1]; decide, by omega, ?_⟩
  intro g2 e2
  obtain ⟨x2, y2⟩ := xs_rL e2
  clear e2
  have E2 := E1.tr (x2.wk (fun b hb => hb.elim) (fun b hb => by have hb : b = W + 1 := hb; omega))
  have q2 : ∀ j, j < 20 → hpI g2 (W1 + j) = hpI h (W1 + j) := fun j hj => E2.2.2.2.2.2.2.1 _ (by omega)
  refine ⟨W1 + 2, by rw [E2.2.2.2.2.2.1]; exact s1.r1, W + 2, by rw [E2.2.2.2.2.2.1]; exact s.r1, by rw [E2.2.2.2.1]; exact s1.k2, by rw [E2.2.2.2.1]; exact s.k2, by rw [E2.2.2.2.2.1, s1.z2]; decide, by rw [E2.2.2.2.2.1, s.z2]; decide, ?_⟩
  intro g3 e3
  obtain ⟨x3, y3⟩ := xs_rI e3
  clear e3
  have E3 := E2.tr (x3.wk (fun b hb => by have hb : b = W + 2 := hb; omega) (fun b hb => hb.elim))
  have q3 : ∀ j, j < 20 → hpI g3 (W1 + j) = hpI h (W1 + j) := fun j hj => E3.2.2.2.2.2.2.1 _ (by omega)
  refine ⟨W1 + 3, by rw [E3.2.2.2.2.2.1]; exact s1.r2, W + 3, by rw [E3.2.2.2.2.2.1]; exact s.r2, by rw [E3.2.2.2.1]; exact s1.k3, by rw [E3.2.2.2.1]; exact s.k3, by rw [E3.2.2.2.2.1, s1.z3]; decide, by rw [E3.2.2.2.2.1, s.z3]; decide, ?_⟩
  intro g4 e4
  obtain ⟨x4, y4⟩ := xs_rI e4
  clear e4
  have E4 := E3.tr (x4.wk (fun b hb => by have hb : b = W + 3 := hb; omega) (fun b hb => hb.elim))
  have q4 : ∀ j, j < 20 → hpI g4 (W1 + j) = hpI h (W1 + j) := fun j hj => E4.2.2.2.2.2.2.1 _ (by omega)
  intro g5 e5
  obtain ⟨x5, y5⟩ := xs_I e5
  clear e5
  have E5 := E4.tr (x5.wk (fun b hb => by have hb : b = W := hb; omega) (fun b hb => hb.elim))
  have q5 : ∀ j, j < 20 → hpI g5 (W1 + j) = hpI h (W1 + j) := fun j hj => E5.2.2.2.2.2.2.1 _ (by omega)
  refine ⟨W1 + 4, by rw [E5.2.2.2.2.2.1]; exact s1.r4, W + 4, by rw [E5.2.2.2.2.2.1]; exact s.r4, by rw [E5.2.2.2.1]; exact s1.k4, by rw [E5.2.2.2.1]; exact s.k4, by rw [E5.2.2.2.2.1, s1.z4]; decide, by rw [E5.2.2.2.2.1, s.z4]; decide, ?_⟩
  intro g6 e6
  obtain ⟨x6, y6⟩ := xs_rI e6
  clear e6
  have E6 := E5.tr (x6.wk (fun b hb => by have hb : b = W + 4 := hb; omega) (fun b hb => hb.elim))
  have q6 : ∀ j, j < 20 → hpI g6 (W1 + j) = hpI h (W1 + j) := fun j hj => E6.2.2.2.2.2.2.1 _ (by omega)
  intro g7 e7
  obtain ⟨x7, y7⟩ := xs_I e7
  clear e7
  have E7 := E6.tr (x7.wk (fun b hb => by have hb : b = W := hb; omega) (fun b hb => hb.elim))
  have q7 : ∀ j, j < 20 → hpI g7 (W1 + j) = hpI h (W1 + j) := fun j hj => E7.2.2.2.2.2.2.1 _ (by omega)
  refine ⟨W1 + 5, by rw [E7.2.2.2.2.2.1]; exact s1.r6, W + 5, by rw [E7.2.2.2.2.2.1]; exact s.r6, by rw [E7.2.2.2.1]; exact s1.k5, by rw [E7.2.2.2.1]; exact s.k5, by rw [E7.2.2.2.2.1, s1.z5]; decide, by rw [E7.2.2.2.2.1, s.z5]; decide, ?_⟩
  intro g8 e8
  obtain ⟨x8, y8⟩ := xs_rI e8
  clear e8
  have E8 := E7.tr (x8.wk (fun b hb => by have hb : b = W + 5 := hb; omega) (fun b hb => hb.elim))
  have q8 : ∀ j, j < 20 → hpI g8 (W1 + j) = hpI h (W1 + j) := fun j hj => E8.2.2.2.2.2.2.1 _ (by omega)
  have A0 : hpI g8 W = fup (fup (fup (hpI h W) 3 (hpI h W1 3)) 5 (hpI h W1 5)) 7 (hpI h W1 7) := by
    rw [x8.2.2.2.2.2.2.1 W (by omega), y7, show hpI g6 W1 = hpI h W1 from q6 0 (by omega), x6.2.2.2.2.2.2.1 W (by omega), y5, show hpI g4 W1 = hpI h W1 from q4 0 (by omega), x4.2.2.2.2.2.2.1 W (by omega), x3.2.2.2.2.2.2.1 W (by omega), x2.2.2.2.2.2.2.1 W id, y1]
  have A1 : ∀ k, k < 8 → hpL g8 (W + 1) k = hpL h (W1 + 1) k := fun k hk => by
    rw [x8.2.2.2.2.2.2.2 (W + 1) id, x7.2.2.2.2.2.2.2 (W + 1) id, x6.2.2.2.2.2.2.2 (W + 1) id, x5.2.2.2.2.2.2.2 (W + 1) id, x4.2.2.2.2.2.2.2 (W + 1) id, x3.2.2.2.2.2.2.2 (W + 1) id, y2]
    exact cp0 (x1.2.2.2.2.2.2.2 _ id) rfl rfl hk
  have A2 : ∀ k, k < 8 → hpI g8 (W + 2) k = hpI h (W1 + 2) k := fun k hk => by
    rw [x8.2.2.2.2.2.2.1 (W + 2) (by omega), x7.2.2.2.2.2.2.1 (W + 2) (by omega), x6.2.2.2.2.2.2.1 (W + 2) (by omega), x5.2.2.2.2.2.2.1 (W + 2) (by omega), x4.2.2.2.2.2.2.1 (W + 2) (by omega), y3]
    exact cp0 (q2 2 (by omega)) rfl rfl hk
  have A3 : ∀ k, k < 320 → hpI g8 (W + 3) k = hpI h (W1 + 3) k := fun k hk => by
    rw [x8.2.2.2.2.2.2.1 (W + 3) (by omega), x7.2.2.2.2.2.2.1 (W + 3) (by omega), x6.2.2.2.2.2.2.1 (W + 3) (by omega), x5.2.2.2.2.2.2.1 (W + 3) (by omega), y4]
    exact cp0 (q3 3 (by omega)) rfl rfl hk
  have A4 : ∀ k, k < 40 → hpI g8 (W + 4) k = hpI h (W1 + 4) k := fun k hk => by
    rw [x8.2.2.2.2.2.2.1 (W + 4) (by omega), x7.2.2.2.2.2.2.1 (W + 4) (by omega), y6]
    exact cp0 (q5 4 (by omega)) rfl rfl hk
  have A5 : ∀ k, k < 100 → hpI g8 (W + 5) k = hpI h (W1 + 5) k := fun k hk => by
    rw [y8]
    exact cp0 (q7 5 (by omega)) rfl rfl hk
  have nA : ∀ b, (W ≤ b ∧ b < W + 6) → hpK h b ≠ 5 := fun b hb => by
    have : b = W ∨ b = W + 1 ∨ b = W + 2 ∨ b = W + 3 ∨ b = W + 4 ∨ b = W + 5 := by omega
    rcases this with rfl | rfl | rfl | rfl | rfl | rfl
    · rw [s.k0]; decide
    · rw [s.k1]; decide
    · rw [s.k2]; decide
    · rw [s.k3]; decide
    · rw [s.k4]; decide
    · rw [s.k5]; decide
  have o8 : OI g8 RS [] := o.ofL E8 nA
  have t : WB g8 W := s.fp E8.fp
  have t1 : WB g8 W1 := s1.fp E8.fp
  refine ⟨W + 6, t.r8, W1 + 6, t1.r8, t.sb.k0, (k_X8_copyFrom (by omega) o8 (os.keep E8.1 E8.2.2.2.1) t.sb t1.sb (by rw [E8.2.2.2.1]; exact hc) (by omega) r0 r1 (by rw [E8.1]; exact hN) (fun b hb => o128 b ⟨by rw [← E8.1]; exact hb.1, by rw [← E8.2.2.2.1]; exact hb.2⟩) (nv := nv) (nu := nu) (by rw [q8 7 (by omega)]; exact v1) v2 (by rw [q8 10 (by omega)]; exact u1) u2 (by rw [q8 6 (by omega)]; exact b4)).mono ?_⟩
  rintro r g9 ⟨rfl, o9, os9, f9, c9, z9⟩
  have fp9 := f9.1
  have t' : WB g9 W := t.fp fp9
  have t1' : WB g9 W1 := t1.fp fp9
  have u9 : ∀ i, i < 6 ∨ i = 19 → hpI g9 (W + i) = hpI g8 (W + i) ∧ hpL g9 (W + i) = hpL g8 (W + i) := fun i hi => f9.2.2.2.1 _ (by have := t.1; omega) (by
    have : i = 0 ∨ i = 1 ∨ i = 2 ∨ i = 3 ∨ i = 4 ∨ i = 5 ∨ i = 19 := by omega
    rcases this with rfl | rfl | rfl | rfl | rfl | rfl | rfl
    · show hpK g8 W ≠ 5; rw [t.k0]; decide
    · rw [t.k1]; decide
    · rw [t.k2]; decide
    · rw [t.k3]; decide
    · rw [t.k4]; decide
    · rw [t.k5]; decide
    · rw [t.k19]; decide) (by unfold blk; omega)
  have w9 : ∀ i, i = 0 ∨ i = 19 → hpI g9 (W1 + i) = hpI h (W1 + i) := fun i hi => by
    rw [(f9.2.2.2.1 (W1 + i) (by have := t1.1; omega) (by
      rcases hi with rfl | rfl
      · show hpK g8 W1 ≠ 5; rw [t1.k0]; decide
      · rw [t1.k19]; decide) (by unfold blk; omega)).1, q8 i (by omega)]
  refine Or.inl ⟨rfl, t1'.k0, t'.k0, ?_⟩
  intro g10 e10
  obtain ⟨x10, y10⟩ := xs_I e10
  clear e10
  have E10 : ExL (fun b => b = W ∨ b = W + 19) (fun _ => False) g9 g10 := x10.wk (fun b hb => Or.inl hb) (fun b hb => hb)
  refine ⟨W1 + 19, by rw [E10.2.2.2.2.2.1]; exact t1'.r9, W + 19, by rw [E10.2.2.2.2.2.1]; exact t'.r9, by rw [E10.2.2.2.1]; exact t1'.k19, by rw [E10.2.2.2.1]; exact t'.k19, by rw [E10.2.2.2.2.1, t1'.z19]; decide, by rw [E10.2.2.2.2.1, t'.z19]; decide, ?_⟩
  intro g11 e11
  obtain ⟨x11, y11⟩ := xs_rI e11
  clear e11
  have E11 := E10.tr (x11.wk (p' := fun b => b = W ∨ b = W + 19) (fun b hb => Or.inr hb) (fun b hb => hb))
  intro g12 e12
  obtain ⟨x12, y12⟩ := xs_I e12
  clear e12
  have E12 := E11.tr (x12.wk (p' := fun b => b = W ∨ b = W + 19) (fun b hb => Or.inl hb) (fun b hb => hb))
  intro g13 e13
  obtain ⟨x13, y13⟩ := xs_I e13
  clear e13
  have E13 := E12.tr (x13.wk (p' := fun b => b = W ∨ b = W + 19) (fun b hb => Or.inl hb) (fun b hb => hb))
  have v10 : hpI g10 W1 = hpI h W1 := (E10.2.2.2.2.2.2.1 W1 (by omega)).trans (w9 0 (Or.inl rfl))
  have v11 : hpI g11 W1 = hpI h W1 := (E11.2.2.2.2.2.2.1 W1 (by omega)).trans (w9 0 (Or.inl rfl))
  have v12 : hpI g12 W1 = hpI h W1 := (E12.2.2.2.2.2.2.1 W1 (by omega)).trans (w9 0 (Or.inl rfl))
  have v13 : hpI g13 W1 = hpI h W1 := (E13.2.2.2.2.2.2.1 W1 (by omega)).trans (w9 0 (Or.inl rfl))
  refine ⟨by rw [v13]; exact b13, ?_⟩
  intro g14 e14
  obtain ⟨x14, y14⟩ := xs_I e14
  clear e14
  have E14 := E13.tr (x14.wk (p' := fun b => b = W ∨ b = W + 19) (fun b hb => Or.inl hb) (fun b hb => hb))
  have nB : ∀ b, (b = W ∨ b = W + 19) → hpK g9 b ≠ 5 := fun b hb => by
    rcases hb with rfl | rfl
    · rw [t'.k0]; decide
    · rw [t'.k19]; decide
  have B0 : hpI g14 W = fup (fup (fup (fup (hpI g9 W) 10 (hpI h W1 10)) 11 (hpI h W1 11)) 12 (hpI h W1 12)) 13 (hpI h W1 13) := by
    rw [y14, v13, y13, v12, y12, v11, x11.2.2.2.2.2.2.1 W (by omega), y10, show hpI g9 W1 = hpI h W1 from w9 0 (Or.inl rfl)]
  have K9 : ∀ b, b ≠ W → b ≠ W + 19 → hpI g14 b = hpI g9 b := fun b h1 h2 => E14.2.2.2.2.2.2.1 b (fun c => c.elim h1 h2)
  have L9 : hpL g14 = hpL g9 := by funext b; exact E14.2.2.2.2.2.2.2 b id
  obtain ⟨⟨z1, z2⟩, ⟨z3, z4⟩, z5, z6, z7⟩ := z9
  have Q8 : ∀ b, hpL g8 b = if W ≤ b ∧ b < W + 6 then hpL g8 b else hpL h b := fun b => by
    by_cases c : W ≤ b ∧ b < W + 6
    · rw [if_pos c]
    · rw [if_neg c]; exact E8.2.2.2.2.2.2.2 b c
  have ql : ∀ j, j < 20 → hpL g8 (W1 + j) = hpL h (W1 + j) := fun j hj => E8.2.2.2.2.2.2.2 _ (by omega)
  refine ⟨rfl, o9.ofL E14 nB, os9.keep E14.1 E14.2.2.2.1, ((E8.toX (fun b hb => by unfold wblk; omega) (fun b hb => by unfold wblk; omega)).tr ((FrX.wk f9 (fun b hb => by unfold blk at hb; unfold wblk; omega)).tr (E14.toX (fun b hb => by unfold wblk; omega) (fun b hb => hb.elim)))), (CRw.pre E8 nA o r1 c9).post ((E8.fp).tr fp9) o E14 nB, ⟨⟨?_, fun k hk => ⟨?_, ?_⟩⟩, ⟨?_, fun k hk => ⟨?_, ?_⟩⟩, fun k hk => ?_, fun k => ?_, fun k hk => ?_⟩, fun k => ?_, fun k hk => ⟨?_, ?_⟩, fun k hk => ?_, fun k hk => ?_, fun k hk => ?_, fun k hk => ?_⟩
  · rw [K9 _ (by omega) (by omega)]; exact z1
  · rw [L9, (z2 k hk).1]; exact congrFun (ql 8 (by omega)) k
  · rw [K9 _ (by omega) (by omega), (z2 k hk).2]; exact congrFun (q8 9 (by omega)) k
  · rw [K9 _ (by omega) (by omega)]; exact z3
  · rw [L9, (z4 k hk).1]; exact congrFun (ql 11 (by omega)) k
  · rw [K9 _ (by omega) (by omega), (z4 k hk).2]; exact congrFun (q8 12 (by omega)) k
  · rw [L9, z5 k hk]; exact congrFun (ql 13 (by omega)) k
  · rw [K9 _ (by omega) (by omega), z6 k, show hpI g8 (W1 + 6) = hpI h (W1 + 6) from q8 6 (by omega), E8.2.2.2.2.2.2.1 (W + 6) (by omega)]
  · rw [K9 _ (by omega) (by omega), z7 k hk]; exact congrFun (q8 18 (by omega)) k
  · rw [B0, show hpI g9 W = hpI g8 W from (u9 0 (Or.inl (by omega))).1, A0]
    exact fup_c7
  · rw [L9, (u9 1 (Or.inl (by omega))).2]; exact A1 k hk
  · rw [K9 _ (by omega) (by omega), (u9 2 (Or.inl (by omega))).1]; exact A2 k hk
  · rw [K9 _ (by omega) (by omega), (u9 3 (Or.inl (by omega))).1]; exact A3 k hk
  · rw [K9 _ (by omega) (by omega), (u9 4 (Or.inl (by omega))).1]; exact A4 k hk
  · rw [K9 _ (by omega) (by omega), (u9 5 (Or.inl (by omega))).1]; exact A5 k hk
  · rw [x14.2.2.2.2.2.2.1 _ (by omega), x13.2.2.2.2.2.2.1 _ (by omega), x12.2.2.2.2.2.2.1 _ (by omega), y11]
    exact cp0 ((E10.2.2.2.2.2.2.1 _ (by omega)).trans (w9 19 (Or.inr rfl))) rfl rfl hk
end MXJ4
