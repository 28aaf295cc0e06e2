/-! Commands.readLine: files, pipes -/
section MXR2
variable {h h1 h2 : mxH} {d x s : Nat} {w w' : spW} {A : Nat → Option Nat} {oh : Option Nat} {bg : Bool}
theorem CLn_cg (e : ∀ b, 132 ≤ b → b ≤ 134 → hpI h1 b = hpI h b) : CLn h1 = CLn h := by
  show CLr (hpI h1 132) (hpI h1 133) (hpI h1 134) = _
  rw [e 132 (by decide) (by decide), e 133 (by decide) (by decide), e 134 (by decide) (by decide)]
theorem CWh_cg (c : CWh h 140 s w) (eI : ∀ b, (132 ≤ b ∧ b ≤ 134 ∨ 140 ≤ b ∧ b ≤ 159) → hpI h1 b = hpI h b) (eL : hpL h1 141 = hpL h 141) : CWh h1 140 s w := by
  show CW (CLn h1) (hpI h1 140) (hpI h1 142) (hpI h1 143) (hpI h1 144) (hpI h1 145) (hpI h1 159) (hpL h1 141) s w
  rw [CLn_cg (fun b h1 h2 => eI b (Or.inl ⟨h1, h2⟩)), eI 140 (by omega), eI 142 (by omega), eI 143 (by omega), eI 144 (by omega), eI 145 (by omega), eI 159 (by omega), eL]
  exact c
theorem CPh_cg (c : CPh h w) (eI : ∀ b, (132 ≤ b ∧ b ≤ 139) → hpI h1 b = hpI h b) : CPh h1 w := by
  show CP (CLn h1) (hpI h1 135) (hpI h1 136) (hpI h1 137) (hpI h1 138) (hpI h1 139) w
  rw [CLn_cg (fun b h1 h2 => eI b ⟨h1, by omega⟩), eI 135 (by omega), eI 136 (by omega), eI 137 (by omega), eI 138 (by omega), eI 139 (by omega)]
  exact c
/-- these static rows are no open files -/
theorem sc_ne5 (c : SC h) {b : Nat} (hb : 132 ≤ b ∧ b ≤ 145 ∨ b = 159) : hpK h b ≠ 5 := by
  have w := sc_w c
  have : b = 132 ∨ b = 133 ∨ b = 134 ∨ b = 135 ∨ b = 136 ∨ b = 137 ∨ b = 138 ∨ b = 139 ∨ b = 140 ∨ b = 141 ∨ b = 142 ∨ b = 143 ∨ b = 144 ∨ b = 145 ∨ b = 159 := by omega
  rcases this with rfl | rfl | rfl | rfl | rfl | rfl | rfl | rfl | rfl | rfl | rfl | rfl | rfl | rfl | rfl
  · rw [sc_k132 c]; decide
  · rw [sc_k133 c]; decide
  · rw [sc_k134 c]; decide
  · rw [sc_k135 c]; decide
  · rw [sc_k136 c]; decide
  · rw [sc_k137 c]; decide
  · rw [sc_k138 c]; decide
  · rw [sc_k139 c]; decide
  · rw [w.k0]; decide
  · rw [w.k1]; decide
  · rw [w.k2]; decide
  · rw [w.k3]; decide
  · rw [w.k4]; decide
  · rw [w.k5]; decide
  · rw [w.k19]; decide
/-- the world's cells when an open file's position goes on -/
theorem WC.pos {o a : Nat} {q : spO} (c : WC h A s w) (ho : A o = some a) (hq : (wO w)[a]? = some q) (hp : q.2.2 + 1 ≤ 40) : WC (hsI h o 3 (nI (q.2.2 + 1))) A s (uO w ((wO w).set a (q.1, q.2.1, q.2.2 + 1))) ∧ FrR A h (hsI h o 3 (nI (q.2.2 + 1))) := by
  obtain ⟨c1, c2, c3, c4⟩ := c
  have na : A o ≠ none := by rw [ho]; exact fun c => nomatch c
  have eI : ∀ b, (132 ≤ b ∧ b ≤ 145 ∨ b = 159) → hpI (hsI h o 3 (nI (q.2.2 + 1))) b = hpI h b := fun b hb => by
    funext k
    rw [hpI_sIn (c4.far na (sc_ne5 c1 hb)).symm]
  have ex : ExI (pRD A) h (hsI h o 3 (nI (q.2.2 + 1))) := ExI.rf.I (Or.inr (Or.inr (Or.inr na)))
  refine ⟨⟨c1.fp ex.fp, ?_, CPh_cg c3 (fun b hb => eI b (by omega)), c4.pos ho hq hp⟩, ex, fun o' k ho' hk => ?_⟩
  · show CW (CLn _) (hpI _ 140) (hpI _ 142) (hpI _ 143) (hpI _ 144) (hpI _ 145) (hpI _ 159) (hpL _ 141) s w
    rw [CLn_cg (h := h) (fun b h1 h2 => eI b (by omega)), eI 140 (by omega), eI 142 (by omega), eI 143 (by omega), eI 144 (by omega), eI 145 (by omega), eI 159 (by omega)]
    exact c2
  · by_cases e : o' = o
    · subst e
      rw [hpI_sIe, fup_n hk]
    · rw [hpI_sIn e]
theorem WC.rdF (hd : 2 ≤ d) (c : WC h A s w) {o a : Nat} {q : spO} (ho : A o = some a) (hq : (wO w)[a]? = some q) (k2 : q.1 = 2) :
    mx_SX mY_X1_readLine d 79 [(0, .ref 283), (2, va_rf (some o))] [] h (fun r h1 => ∃ v, r = .inl (some (.int v)) ∧ RdV h v (rdLine w (some a) bg).1 ∧ WC h1 A s (rdLine w (some a) bg).2 ∧ FrR A h h1) := by
  have cc := c
  obtain ⟨c1, c2, c3, c4⟩ := c
  have eq : (wO w).getD a (0, 0, 0) = q := by rw [List.getD_eq_getElem?_getD, hq]; rfl
  have fr : FrR A h h := ⟨ExI.rf, fun _ _ _ _ => rfl⟩
  obtain ⟨ko, q', q1, -, -, -, e3, p4, g1, -⟩ := c4.1 o a ho
  obtain rfl : q' = q := by rw [hq] at q1; exact (Option.some.inj q1).symm
  obtain ⟨e1, lf⟩ := g1 (Or.inl k2)
  obtain ⟨-, f8, fl⟩ := c2.1
  obtain ⟨-, n1, n2, n3⟩ := fl _ lf
  have k0 := (sc_w c1).k0
  refine b_X1_readLine_79 283 (some o) ⟨sc_k283 c1, 140, sc_r283_0 c1, o, rfl, ko.2, by omega, k0, ?_⟩
  rw [e1, e3]
  refine mx_xKI2 (k_X10_lineAt (sc_w c1) (by omega) n1 n2 p4) ⟨ko.2, ?_⟩
  by_cases lt : q'.2.2 < (wF w)[q'.2.1].2.length
  · have rl : rdLine w (some a) bg = ((0, (wF w)[q'.2.1].2[q'.2.2]), uO w ((wO w).set a (q'.1, q'.2.1, q'.2.2 + 1))) := by
      unfold rdLine
      simp only [eq, k2, gd_at lf, List.getElem?_eq_getElem lt]
      rfl
    have hv := n3 q'.2.2 lt
    rw [rl, if_pos lt]
    have ge := CLn_ge hv
    obtain ⟨wc, fr'⟩ := cc.pos ho hq (by omega)
    refine ⟨fun _ => ?_, fun c' => absurd ge c'⟩
    rw [e3, nI_1]
    rintro _ rfl
    refine mx_xKI2 k_X1_lineOrEnd ?_
    rw [if_pos ge]
    exact ⟨_, rfl, Or.inl ⟨rfl, hv⟩, wc, fr'⟩
  · have rl : rdLine w (some a) bg = ((1, []), w) := by
      unfold rdLine
      simp only [eq, k2, gd_at lf, List.getElem?_eq_none (Nat.le_of_not_lt lt)]
      rfl
    rw [rl, if_neg lt]
    refine ⟨fun c' => absurd c' (by decide), fun _ => ?_⟩
    rw [e3, Int32.add_zero]
    rintro _ rfl
    have eh : hsI h o 3 (nI q'.2.2) = h := by
      have : fup (hpI h o) 3 (nI q'.2.2) = hpI h o := by
        funext k
        by_cases c : k = 3
        · rw [c, fup_e, e3]
        · rw [fup_n c]
      unfold hsI
      rw [this, hrI_self]
    rw [eh]
    exact mx_xKI2 k_X1_lineOrEnd ⟨_, rfl, Or.inr (Or.inl ⟨rfl, rfl⟩), cc, fr⟩
theorem WC.rdP (hd : 2 ≤ d) (c : WC h A s w) {o a : Nat} {q : spO} (ho : A o = some a) (hq : (wO w)[a]? = some q) (k5 : q.1 = 5) :
    mx_SX mY_X1_readLine d 118 [(0, .ref 283), (2, va_rf (some o))] [] h (fun r h1 => ∃ v, r = .inl (some (.int v)) ∧ RdV h v (rdLine w (some a) bg).1 ∧ WC h1 A s (rdLine w (some a) bg).2 ∧ FrR A h h1) := by
  have cc := c
  obtain ⟨c1, c2, c3, c4⟩ := c
  have eq : (wO w).getD a (0, 0, 0) = q := by rw [List.getD_eq_getElem?_getD, hq]; rfl
  have fr : FrR A h h := ⟨ExI.rf, fun _ _ _ _ => rfl⟩
  obtain ⟨ko, q', q1, -, -, -, e3, p4, -, g2⟩ := c4.1 o a ho
  obtain rfl : q' = q := by rw [hq] at q1; exact (Option.some.inj q1).symm
  obtain ⟨e2, lu⟩ := g2 (Or.inl k5)
  refine b_X1_readLine_118 283 (some o) ⟨sc_k283 c1, 135, sc_r283_1 c1, o, rfl, ko.2, by omega, sc_k135 c1, ?_⟩
  rw [e2]
  rcases ep : (wU w).getD q'.2.1 [] with _ | ⟨l, r⟩
  · have rl : rdLine w (some a) bg = ((1, []), w) := by unfold rdLine; simp only [eq, k5, ep]; rfl
    rw [rl]
    exact mx_xKI2 (k_X0_takeFrom_no c1 c3 lu ep) (mx_xKI2 k_X1_lineOrEnd ⟨_, rfl, Or.inr (Or.inl ⟨rfl, rfl⟩), cc, fr⟩)
  · have rl : rdLine w (some a) bg = ((0, l), uU w ((wU w).set q'.2.1 r)) := by unfold rdLine; simp only [eq, k5, ep]; rfl
    rw [rl]
    refine (k_X0_takeFrom c1 c3 lu ep).mono ?_
    rintro _ h1 ⟨v, rfl, hv, ex, cp⟩
    refine Or.inl ⟨v, rfl, mx_xKI2 k_X1_lineOrEnd ?_⟩
    rw [if_pos (CLn_ge hv)]
    have eI : ∀ b, ¬ pPI b → hpI h1 b = hpI h b := ex.2.2.2.2.2.2.2
    have eo : ∀ o k, A o ≠ none → hpI h1 o k = hpI h o k := fun o k ho => by
      rw [eI o (fun c => c4.far ho (sc_ne5 c1 (b := o) (by have := c.1; have := c.2; omega)) rfl)]
    have ex' : ExI (pRD A) h h1 := ⟨ex.1, ex.2.1, ex.2.2.1, ex.2.2.2.1, ex.2.2.2.2.1, ex.2.2.2.2.2.1, ex.2.2.2.2.2.2.1, fun b hb => eI b (fun c => hb (Or.inr (Or.inr (Or.inl c))))⟩
    have ec : CLn h1 = CLn h := CLn_cg (fun b h1 h2 => eI b (fun c => by have := c.1; omega))
    have cw : CWh h1 140 s w := CWh_cg c2 (fun b hb => eI b (fun c => by have := c.1; have := c.2; omega)) (by rw [ex.2.2.2.2.2.1])
    refine ⟨v, rfl, Or.inl ⟨rfl, hv⟩, ⟨c1.fp ex.fp, cw, ?_, c4.cg ex.1 ex.2.2.2.1 eo rfl (Nat.le_refl _) ?_⟩, ex', fun o k ho _ => eo o k ho⟩
    · show CP (CLn h1) _ _ _ _ _ _
      rw [ec]; exact cp
    · show (wU w).length ≤ ((wU w).set _ r).length
      rw [List.length_set]; exact Nat.le_refl _
/-- Commands.readLine -/
theorem k_X1_readLine (hd : 2 ≤ d) (c : WC h A s w) (sx : SB h x) (ch : RHc A (hpR h (x + 9) 0) oh) (hbg : hpI h x 5 = if bg = true then 1 else 0) :
    mx_SM mY_X1_readLine d [.ref 283, .ref x] h (fun r h1 => ∃ v, r = .inl (some (.int v)) ∧ RdV h v (rdLine w oh bg).1 ∧ WC h1 A s (rdLine w oh bg).2 ∧ FrR A h h1) := by
  have fr : FrR A h h := ⟨ExI.rf, fun _ _ _ _ => rfl⟩
  have hat := sx.hd (sc_k135 c.1)
  have hlt : ∀ b, hpR h (x + 9) 0 = some b → b < hpN h := fun b hb => by
    rcases ch with ⟨e, -⟩ | ⟨o, a, e, -, ho⟩
    · rw [e] at hb; exact nomatch hb
    · rw [e] at hb
      rw [← Option.some.inj hb]
      exact (c.2.2.2.1 o a ho).1.1
  refine b_X1_readLine 283 x ⟨sx.k0, x + 8, sx.r0_3, by omega, sx.k8, mx_xKR (k_X2_at (i := 0) hat (by decide) hlt) ?_⟩
  rcases ch with ⟨e, e2⟩ | ⟨o, a, e, e2, ho⟩
  · rw [e, e2]
    exact ⟨fun _ => ⟨_, rfl, Or.inr (Or.inr (Or.inl ⟨rfl, rfl⟩)), c, fr⟩, fun b2 c => nomatch c⟩
  · rw [e, e2]
    obtain ⟨ko, q, q1, q2, q3, q4, -⟩ := c.2.2.2.1 o a ho
    have eq : (wO w).getD a (0, 0, 0) = q := by rw [List.getD_eq_getElem?_getD, q1]; rfl
    refine ⟨fun c => (nomatch c), fun b2 eb => ?_⟩
    obtain rfl := Option.some.inj eb
    have ti : (nI q.1).toInt = q.1 := nI_ti (by omega)
    rw [q2, ti]
    have bad : (q.1 ≠ 1 ∧ q.1 ≠ 2 ∧ q.1 ≠ 5) → mx_SX mY_X1_readLine d 133 [] [] h (fun r h1 => ∃ v, r = .inl (some (.int v)) ∧ RdV h v (rdLine w (some a) bg).1 ∧ WC h1 A s (rdLine w (some a) bg).2 ∧ FrR A h h1) := by
      rintro ⟨n1, n2, n5⟩
      have rl : rdLine w (some a) bg = ((2, []), w) := by unfold rdLine; simp only [eq, if_neg n1, if_neg n2, if_neg n5]
      rw [rl]
      exact b_X1_readLine_133 ⟨_, rfl, Or.inr (Or.inr (Or.inl ⟨rfl, rfl⟩)), c, fr⟩
    exact ⟨ko.2, fun g => bad (by omega), fun g => c.rdI hd sx hbg q1 (by omega), fun g => c.rdF hd ho q1 (by omega), fun g => bad (by omega), fun g => bad (by omega), fun g => c.rdP hd ho q1 (by omega)⟩
end MXR2
