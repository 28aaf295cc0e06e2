/-! Shell.inheritFrom -/
section MXIH
variable {h h' h1 h2 : mxH} {d n x x1 j : Nat} {RS inh : List Nat} {p q : Nat → Prop}
theorem hpI_sIe {a k : Nat} {v : Int32} : hpI (hsI h a k v) a = fup (hpI h a) k v := hpI_rIs
abbrev blk (x a : Nat) : Prop := x ≤ a ∧ a < x + 13
/-- outside a shell's block only accounts of open files differ -/
def FrI (x : Nat) (h h1 : mxH) : Prop := hpN h1 = hpN h ∧ hpC h1 = hpC h ∧ hpS h1 = hpS h ∧ hpK h1 = hpK h ∧ hpZ h1 = hpZ h ∧ (∀ a k, ¬ blk x a → (hpK h a ≠ 5 ∨ k ≠ 4) → hpI h1 a k = hpI h a k) ∧ (∀ a, ¬ blk x a → hpL h1 a = hpL h a) ∧
  ∀ a k, ¬ blk x a → hpK h a ≠ 18 → (hpK h a ≠ 5 ∨ k ≠ 5) → (a ≠ 135 ∨ k ≠ 0) → hpR h1 a k = hpR h a k
theorem FrI.tr (a : FrI x h h1) (b : FrI x h1 h2) : FrI x h h2 := by
  obtain ⟨a1, a2, a3, a4, a5, a6, a7, a8⟩ := a
  obtain ⟨b1, b2, b3, b4, b5, b6, b7, b8⟩ := b
  exact ⟨b1.trans a1, b2.trans a2, b3.trans a3, b4.trans a4, b5.trans a5, fun a k hb hk => (b6 a k hb (by rw [a4]; exact hk)).trans (a6 a k hb hk), fun a hb => (b7 a hb).trans (a7 a hb), fun a k hb h1 h2 h3 => (b8 a k hb (by rw [a4]; exact h1) (by rw [a4]; exact h2) h3).trans (a8 a k hb h1 h2 h3)⟩
theorem FrI.ofL (e : ExL p q h h1) (hp : ∀ b, p b → blk x b) (hq : ∀ b, q b → blk x b) : FrI x h h1 :=
  ⟨e.1, e.2.1, e.2.2.1, e.2.2.2.1, e.2.2.2.2.1, fun a k hb _ => by rw [e.2.2.2.2.2.2.1 a (fun c => hb (hp a c))], fun a hb => e.2.2.2.2.2.2.2 a (fun c => hb (hq a c)), fun a k _ _ _ _ => by rw [e.2.2.2.2.2.1]⟩
theorem FrI.ofO (e : FrO h h1) : FrI x h h1 := by
  obtain ⟨a1, a2, a3, a4, a5, a6, a7, a8⟩ := e
  exact ⟨a1, a2, a3, a4, a5, fun a k _ hk => a7 a k hk, fun a _ => by rw [a6], fun a k _ h1 h2 h3 => a8 a k h1 h2 h3⟩
theorem FrI.I (e : FrI x h h1) {a k : Nat} (hb : ¬ blk x a) (hk : hpK h a ≠ 5) : hpI h1 a k = hpI h a k := e.2.2.2.2.2.1 a k hb (Or.inl hk)
/-- the accounts of open files, when none of their cells changes -/
theorem OI.cg (o : OI h RS inh) (eN : hpN h1 = hpN h) (eK : hpK h1 = hpK h) (eZ : hpZ h1 = hpZ h) (e1 : ∀ a ∈ RS, ∀ k, k < 10 → hpR h1 a k = hpR h a k) (e2 : ∀ o, mx_kd h o 5 → hpI h1 o 4 = hpI h o 4 ∧ hpR h1 o 5 = hpR h o 5) (e3 : hpR h1 135 0 = hpR h 135 0) : OI h1 RS inh := by
  obtain ⟨o1, o2, o3, o4, o5, fl, o6, o7, o8⟩ := o
  have kd : ∀ a k, mx_kd h1 a k ↔ mx_kd h a k := fun a k => by unfold mx_kd; rw [eN, eK]
  have rc : ∀ o, rcnt (hpR h1) o RS = rcnt (hpR h) o RS := fun o => rcnt_congr RS e1
  refine ⟨o1, o2, fun a ha => ⟨(kd a 18).mpr (o3 a ha).1, by rw [eZ]; exact (o3 a ha).2.1, fun k hk o e => (kd o 5).mpr ((o3 a ha).2.2 k hk o (by rw [← e1 a ha k hk]; exact e))⟩, fun o ho => ?_, fun o ho => ?_, fl, ?_, o7, fun o => ?_⟩
  · rw [rc, (e2 o ((kd o 5).mp ho)).1]; exact o4 o ((kd o 5).mp ho)
  · rw [rc]; exact ⟨(kd o 5).mpr (o5 o ho).1, (o5 o ho).2⟩
  · rw [e3]
    exact FLc.congr fl _ (fun o ho => (e2 o ((o8 o).mp ho).1).2) o6
  · rw [rc, kd]; exact o8 o
theorem OI.ofL (o : OI h RS inh) (e : ExL p q h h1) (hp : ∀ b, p b → hpK h b ≠ 5) : OI h1 RS inh :=
  o.cg e.1 e.2.2.2.1 e.2.2.2.2.1 (fun a _ k _ => by rw [e.2.2.2.2.2.1]) (fun o ho => ⟨by rw [e.2.2.2.2.2.2.1 o (fun c => hp o c ho.2)], by rw [e.2.2.2.2.2.1]⟩) (by rw [e.2.2.2.2.2.1])
theorem shp_I : hpI (sh_prep h x) x = fup (fup (fup (fup (fup (hpI h x) 9 0) 8 0) 10 0) 12 0) 14 0 := by
  unfold sh_prep
  rw [hpI_sIe, show ∀ A : mxH, hpI (hsR A x 13 none) = hpI A from fun _ => rfl, hpI_sIe, hpI_sIe, hpI_sIe, hpI_sIe]
theorem shp_In {a : Nat} (ha : a ≠ x) : hpI (sh_prep h x) a = hpI h a := by
  funext k
  unfold sh_prep
  rw [hpI_sIn ha, show ∀ A : mxH, hpI (hsR A x 13 none) = hpI A from fun _ => rfl, hpI_sIn ha, hpI_sIn ha, hpI_sIn ha, hpI_sIn ha]
theorem shp_R : hpR (sh_prep h x) = fun b => if b = x then fup (hpR h x) 13 none else hpR h b := rfl
theorem shp_fr : FrI x h (sh_prep h x) := by
  refine ⟨rfl, rfl, rfl, rfl, rfl, fun a k hb _ => by rw [shp_In (fun c => hb ⟨by omega, by omega⟩)], fun _ _ => rfl, fun a k hb _ _ _ => ?_⟩
  rw [shp_R]
  show (if a = x then fup (hpR h x) 13 none else hpR h a) k = _
  rw [if_neg (show ¬ a = x from fun c => hb ⟨by omega, by omega⟩)]
theorem shp_fp (hx : hpK h x = 8) : FP h (sh_prep h x) := by
  unfold sh_prep
  exact ((((FP.rf.I).I).I).I.R (by show 13 ∉ fnlL (hpK h x); rw [hx]; decide)).I
theorem shp_oi (o : OI h RS inh) (hx : hpK h x = 8) : OI (sh_prep h x) RS inh := by
  refine o.cg rfl rfl rfl (fun a ha k hk => ?_) (fun o ho => ⟨?_, ?_⟩) ?_
  · rw [shp_R]
    show (if a = x then fup (hpR h x) 13 none else hpR h a) k = _
    rw [if_neg (mx_neK (o.2.2.1 a ha).1.2 hx (by decide))]
  · rw [shp_In (mx_neK ho.2 hx (by decide))]
  · rw [shp_R]
    show (if o = x then fup (hpR h x) 13 none else hpR h o) 5 = _
    rw [if_neg (mx_neK ho.2 hx (by decide))]
  · rw [shp_R]
    show (if 135 = x then fup (hpR h x) 13 none else hpR h 135) 0 = _
    by_cases c : 135 = x
    · rw [if_pos c, fup_n (by decide), c]
    · rw [if_neg c]
theorem SB.tv (s : SB h x) (hn : hpI h (x + 1) 2 = nI n) (hz : n ≤ 20) : tb_at h (x + 1) (x + 2) (x + 3) n := ⟨s.k1, s.r1_0, s.r1_1, s.k2, s.k3, by rw [s.z2, s.z3], by rw [s.z2]; decide, hn, by rw [s.z2]; exact hz⟩
theorem SB.tf (s : SB h x) (hn : hpI h (x + 4) 2 = nI n) (hz : n ≤ 10) : tb_at h (x + 4) (x + 5) (x + 6) n := ⟨s.k4, s.r4_0, s.r4_1, s.k5, s.k6, by rw [s.z5, s.z6], by rw [s.z5]; decide, hn, by rw [s.z5]; exact hz⟩
theorem SB.hd (s : SB h x) (hc : hpK h 135 = 0) : hd_at h (x + 8) 135 (x + 9) := ⟨s.k8, s.r8_0, s.r8_1, hc, s.k9, s.z9⟩
/-- the end of inheritFrom -/
def InE (h h1 : mxH) (x x1 : Nat) : Prop := ExL (fun b => b = x) (fun b => b = x + 7) h h1 ∧ hpI h1 x 4 = hpI h x1 4 ∧ hpI h1 x 5 = hpI h x1 5 ∧ hpI h1 x 6 = hpI h x1 6 ∧ hpI h1 x 7 = hpI h x1 7 + 1 ∧ hpI h1 x 8 = hpI h x1 8 ∧ hpI h1 x 9 = hpI h x1 8 ∧ (∀ k, 10 ≤ k → hpI h1 x k = hpI h x k) ∧
  ∀ k, k < 4 → hpL h1 (x + 7) k = if hpL h (x1 + 7) k = -2 then -2 else 0
theorem k_X8_inheritFrom_39 (s : SB h x) (s1 : SB h x1) (hne : x + 13 ≤ x1 ∨ x1 + 13 ≤ x) (b4 : hpI h x1 4 = 0 ∨ hpI h x1 4 = 1) (b5 : hpI h x1 5 = 0 ∨ hpI h x1 5 = 1) : ∀ m j (h' : mxH), j + m = 4 → ExL (fun _ => False) (fun b => b = x + 7) h h' → (∀ k, k < j → hpL h' (x + 7) k = if hpL h (x1 + 7) k = -2 then -2 else 0) →
    mx_SX mY_X8_inheritFrom d 39 [(0, .ref x), (1, .ref x1), (2, .int (nI j))] [] h' (fun r h1 => r = .inl none ∧ InE h h1 x x1) := by
  have n1 : x1 ≠ x := by omega
  intro m
  induction m with
  | zero =>
    intro j h' e c cl
    have eI : ∀ b, hpI h' b = hpI h b := fun b => c.2.2.2.2.2.2.1 b (fun f => f)
    obtain rfl : j = 4 := by omega
    refine b_X8_inheritFrom_39 x x1 _ ⟨fun _ => ⟨by rw [c.2.2.2.1]; exact s1.k0, by rw [c.2.2.2.1]; exact s.k0, by rw [eI]; exact b4, ?_⟩, fun c' => absurd (by decide) c'⟩
    rw [eI]
    rintro _ rfl
    rw [hpI_sIn n1, eI]
    refine ⟨b5, ?_⟩
    rintro _ rfl
    rw [hpI_sIn n1, hpI_sIn n1, eI]
    rintro _ rfl
    rw [hpI_sIn n1, hpI_sIn n1, hpI_sIn n1, eI]
    rintro _ rfl
    rw [hpI_sIn n1, hpI_sIn n1, hpI_sIn n1, hpI_sIn n1, eI]
    rintro _ rfl
    rw [hpI_sIn n1, hpI_sIn n1, hpI_sIn n1, hpI_sIn n1, hpI_sIn n1, eI]
    rintro _ rfl
    have c' : ExL (fun b => b = x) (fun b => b = x + 7) h h' := c.wk (fun _ f => f.elim) (fun _ f => f)
    refine ⟨rfl, (((((c'.I rfl).I rfl).I rfl).I rfl).I rfl).I rfl, ?_, ?_, ?_, ?_, ?_, ?_, fun k hk => ?_, cl⟩
    all_goals rw [hpI_sIe, hpI_sIe, hpI_sIe, hpI_sIe, hpI_sIe, hpI_sIe]
    · rw [fup_n (by decide), fup_n (by decide), fup_n (by decide), fup_n (by decide), fup_n (by decide), fup_e]
    · rw [fup_n (by decide), fup_n (by decide), fup_n (by decide), fup_n (by decide), fup_e]
    · rw [fup_n (by decide), fup_n (by decide), fup_n (by decide), fup_e]
    · rw [fup_n (by decide), fup_n (by decide), fup_e]
    · rw [fup_e]
    · rw [fup_n (by decide), fup_e]
    · rw [fup_n (by omega), fup_n (by omega), fup_n (by omega), fup_n (by omega), fup_n (by omega), fup_n (by omega), eI]
  | succ m ih =>
    intro j h' e c cl
    have eK : hpK h' = hpK h := c.2.2.2.1
    have eZ : hpZ h' = hpZ h := c.2.2.2.2.1
    have eR : hpR h' = hpR h := c.2.2.2.2.2.1
    have eL : hpL h' (x1 + 7) = hpL h (x1 + 7) := c.2.2.2.2.2.2.2 _ (by omega)
    have nx : ∀ (v : Int64), v = (if hpL h (x1 + 7) j = -2 then -2 else 0) → ∀ k, k < j + 1 → hpL (hsL h' (x + 7) j v) (x + 7) k = if hpL h (x1 + 7) k = -2 then -2 else 0 := fun v hv k hk => by
      show (if x + 7 = x + 7 then fup (hpL h' (x + 7)) j v else _) k = _
      rw [if_pos rfl]
      by_cases ek : k = j
      · rw [ek, fup_e]; exact hv
      · rw [fup_n ek]; exact cl k (by omega)
    refine b_X8_inheritFrom_39 x x1 _ ⟨fun c' => absurd c' (show ¬ nI 4 ≤ nI j from nI_ge (by omega) (by omega)), fun _ => ⟨by rw [eK]; exact s.k0, x + 7, by rw [eR]; exact s.r0_2, by rw [eK]; exact s1.k0, x1 + 7, by rw [eR]; exact s1.r0_2, by rw [eK]; exact s1.k7, by rw [eZ, s1.z7]; exact vp_in_nI (by omega) (by omega), fun c' => ⟨by rw [eK]; exact s.k7, by rw [eZ, s.z7]; exact vp_in_nI (by omega) (by omega), ?_⟩, fun c' => ⟨by rw [eK]; exact s.k7, by rw [eZ, s.z7]; exact vp_in_nI (by omega) (by omega), ?_⟩⟩⟩
    · rw [nI_clamp (by omega), lg_cmp_eq, eL] at c'
      rw [nI_clamp (by omega), nI_1]
      rintro _ rfl
      exact ih (j + 1) _ (by omega) (c.L rfl) (nx 0 (by rw [if_neg c']))
    · rw [nI_clamp (by omega), lg_cmp_eq, eL] at c'
      rw [nI_clamp (by omega), nI_1]
      rintro _ rfl
      exact ih (j + 1) _ (by omega) (c.L rfl) (nx (-2) (by rw [if_pos c']))
end MXIH
