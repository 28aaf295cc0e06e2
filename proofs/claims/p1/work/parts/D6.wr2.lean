/-! Commands.writeLine -/
section MXW3
variable {h h1 h2 : mxH} {d x s : Nat} {w w' : spW} {A : Nat → Option Nat} {oh : Option Nat} {l : spL} {v : Int32}
/-- writeLine's end -/
def WrE (A : Nat → Option Nat) (s : Nat) (w : spW) (oh : Option Nat) (l : spL) (h : mxH) (r : mxRes) (h1 : mxH) : Prop := r = .inl (some (.int (if (wrLine w oh l).1 = true then 1 else 0))) ∧ WC h1 A s (wrLine w oh l).2 ∧ FrR A h h1
theorem FrR.rf : FrR A h h := ⟨ExI.rf, fun _ _ _ _ => rfl⟩
theorem FrR.tr (a : FrR A h h1) (b : FrR A h1 h2) : FrR A h h2 := ⟨a.1.tr b.1, fun o k ho hk => (b.2 o k ho hk).trans (a.2 o k ho hk)⟩
theorem WC.wrT (hd : 2 ≤ d) (c : WC h A s w) (hv : CLn h v l) {a : Nat} {q : spO} (hq : (wO w)[a]? = some q) (k1 : q.1 = 1) : mx_SX mY_X1_writeLine d 56 [(0, .ref 283), (2, .int v)] [] h (WrE A s w (some a) l h) := by
  have cc := c
  obtain ⟨c1, c2, c3, c4⟩ := c
  have eq : (wO w).getD a (0, 0, 0) = q := by rw [List.getD_eq_getElem?_getD, hq]; rfl
  have wb := sc_w c1
  obtain ⟨p1, p2, -⟩ := c2.2.2.1
  refine b_X1_writeLine_56 283 v ⟨sc_k283 c1, 140, sc_r283_0 c1, by omega, wb.k0, ?_⟩
  by_cases g : 100 ≤ (wP w).length
  · have wl : wrLine w (some a) l = (false, w) := by unfold wrLine; simp only [eq, k1, if_pos g]; rfl
    refine mx_xKI2 (k_X10_addOutput_no wb p1 (by omega)) ⟨Or.inl rfl, ?_⟩
    unfold WrE
    rw [wl]
    exact ⟨rfl, cc, FrR.rf⟩
  · have wl : wrLine w (some a) l = (true, uP w (wP w ++ [l])) := by unfold wrLine; simp only [eq, k1, if_neg g]; rfl
    refine mx_xKI2 (k_X10_addOutput wb p1 (by omega)) ⟨Or.inr rfl, ?_⟩
    unfold WrE
    rw [wl]
    have ex : ExI (pRD A) h (hsI (hsI h (140 + 5) (wP w).length v) 140 7 (nI ((wP w).length + 1))) := (ExI.rf.I (Or.inr (Or.inl (by decide)))).I (Or.inl rfl)
    have eo : ∀ o k, A o ≠ none → hpI (hsI (hsI h (140 + 5) (wP w).length v) 140 7 (nI ((wP w).length + 1))) o k = hpI h o k := fun o k ho => by
      rw [hpI_sIn (c4.far ho (sc_ne5 c1 (by decide))), hpI_sIn (c4.far ho (sc_ne5 c1 (by decide)))]
    exact ⟨rfl, ⟨c1.fp ex.fp, c2.adO hv (by omega), c3, c4.cg rfl rfl eo rfl (Nat.le_refl _) (Nat.le_refl _)⟩, ex, fun o k ho _ => eo o k ho⟩
theorem WC.wrF (hd : 2 ≤ d) (c : WC h A s w) (hv : CLn h v l) (h0 : CLn h 0 []) {o a : Nat} {q : spO} (ho : A o = some a) (hq : (wO w)[a]? = some q) (k3 : q.1 = 3) : mx_SX mY_X1_writeLine d 65 [(0, .ref 283), (2, .int v), (3, va_rf (some o))] [] h (WrE A s w (some a) l h) := by
  have cc := c
  obtain ⟨c1, c2, c3, c4⟩ := c
  have eq : (wO w).getD a (0, 0, 0) = q := by rw [List.getD_eq_getElem?_getD, hq]; rfl
  have na : A o ≠ none := by rw [ho]; exact fun c => nomatch c
  obtain ⟨ko, q', q1, -, -, -, e3, p4, g1, -⟩ := c4.1 o a ho
  obtain rfl : q' = q := by rw [hq] at q1; exact (Option.some.inj q1).symm
  obtain ⟨e1, lf⟩ := g1 (Or.inr (Or.inl k3))
  have wb := sc_w c1
  have f8 := c2.1.2.1
  refine b_X1_writeLine_65 283 v (some o) ⟨sc_k283 c1, 140, sc_r283_0 c1, o, rfl, ko.2, by omega, wb.k0, ?_⟩
  rw [e1, e3]
  by_cases g : 40 ≤ q'.2.2
  · have wl : wrLine w (some a) l = (false, w) := by unfold wrLine; simp only [eq, k3, if_pos g]; rfl
    refine mx_xKI2 (k_X10_putLine_no (by omega) g (by omega)) ⟨ko.2, fun _ => ?_, fun c' => absurd rfl c'⟩
    rw [e3, Int32.add_zero]
    rintro _ rfl
    have eh : hsI h o 3 (nI q'.2.2) = h := by
      have : fup (hpI h o) 3 (nI q'.2.2) = hpI h o := by
        funext k
        by_cases c : k = 3
        · rw [c, fup_e, e3]
        · rw [fup_n c]
      unfold hsI
      rw [this, hrI_self]
    rw [eh]
    refine ⟨Or.inl rfl, ?_⟩
    unfold WrE
    rw [wl]
    exact ⟨rfl, cc, FrR.rf⟩
  · have wl : wrLine w (some a) l = (true, uO (setF w q'.2.1 (putAt (lnsOf w q'.2.1) q'.2.2 l)) ((wO w).set a (q'.1, q'.2.1, q'.2.2 + 1))) := by unfold wrLine; simp only [eq, k3, if_neg g]; rfl
    obtain ⟨wc, fr, n1, n2, ea⟩ := cc.put lf (p := q'.2.2) (by omega) hv h0
    refine mx_xKI2 (k_X10_putLine wb (by omega) n1 n2 (by omega)) ⟨?_, fun c' => absurd c' (by decide), fun _ => ?_⟩
    · exact ko.2
    · rw [ea o 3 na, e3, nI_1]
      rintro _ rfl
      refine ⟨Or.inr rfl, ?_⟩
      unfold WrE
      rw [wl]
      obtain ⟨wc', fr'⟩ := wc.pos ho (q := q') hq (by omega)
      exact ⟨rfl, wc', fr.tr fr'⟩
theorem WC.wrA (hd : 2 ≤ d) (c : WC h A s w) (hv : CLn h v l) (h0 : CLn h 0 []) {o a : Nat} {q : spO} (ho : A o = some a) (hq : (wO w)[a]? = some q) (k4 : q.1 = 4) : mx_SX mY_X1_writeLine d 105 [(0, .ref 283), (2, .int v), (3, va_rf (some o))] [] h (WrE A s w (some a) l h) := by
  have cc := c
  obtain ⟨c1, c2, c3, c4⟩ := c
  have eq : (wO w).getD a (0, 0, 0) = q := by rw [List.getD_eq_getElem?_getD, hq]; rfl
  obtain ⟨ko, q', q1, -, -, -, e3, p4, g1, -⟩ := c4.1 o a ho
  obtain rfl : q' = q := by rw [hq] at q1; exact (Option.some.inj q1).symm
  obtain ⟨e1, lf⟩ := g1 (Or.inr (Or.inr k4))
  have wb := sc_w c1
  have f8 := c2.1.2.1
  obtain ⟨-, -, n1, n2, -⟩ := cc.put lf (p := 0) (by omega) hv h0
  refine b_X1_writeLine_105 283 v (some o) ⟨sc_k283 c1, 140, sc_r283_0 c1, o, rfl, ko.2, by omega, wb.k0, ?_⟩
  rw [e1]
  refine mx_xKI2 (k_X10_fileLength wb (by omega)) ⟨wb.k0, ?_⟩
  rw [show hpI h (140 + 2) q'.2.1 = nI (lnsOf w q'.2.1).length from n1]
  by_cases g : 40 ≤ (lnsOf w q'.2.1).length
  · have wl : wrLine w (some a) l = (false, w) := by unfold wrLine; simp only [eq, k4, if_pos g]; rfl
    refine mx_xKI2 (k_X10_putLine_no (by omega) g (by omega)) ⟨Or.inl rfl, ?_⟩
    unfold WrE
    rw [wl]
    exact ⟨rfl, cc, FrR.rf⟩
  · have wl : wrLine w (some a) l = (true, setF w q'.2.1 (lnsOf w q'.2.1 ++ [l])) := by unfold wrLine; simp only [eq, k4, if_neg g]; rfl
    have ep : putAt (lnsOf w q'.2.1) (lnsOf w q'.2.1).length l = lnsOf w q'.2.1 ++ [l] := by
      unfold putAt
      rw [if_neg (Nat.lt_irrefl _), Nat.sub_self]
      simp
    obtain ⟨wc, fr, -, -, ea⟩ := cc.put lf (p := (lnsOf w q'.2.1).length) (by omega) hv h0
    rw [ep] at wc
    refine mx_xKI2 (k_X10_putLine wb (by omega) n1 n2 (by omega)) ⟨Or.inr rfl, ?_⟩
    unfold WrE
    rw [wl]
    exact ⟨rfl, wc, fr⟩
theorem WC.wrP (hd : 2 ≤ d) (c : WC h A s w) (hv : CLn h v l) (room : totU w < 12040) {o a : Nat} {q : spO} (ho : A o = some a) (hq : (wO w)[a]? = some q) (k6 : q.1 = 6) : mx_SX mY_X1_writeLine d 129 [(0, .ref 283), (2, .int v), (3, va_rf (some o))] [] h (WrE A s w (some a) l h) := by
  have cc := c
  obtain ⟨c1, c2, c3, c4⟩ := c
  have eq : (wO w).getD a (0, 0, 0) = q := by rw [List.getD_eq_getElem?_getD, hq]; rfl
  obtain ⟨ko, q', q1, -, -, -, e3, p4, -, g2⟩ := c4.1 o a ho
  obtain rfl : q' = q := by rw [hq] at q1; exact (Option.some.inj q1).symm
  obtain ⟨e2, lu⟩ := g2 (Or.inr k6)
  refine b_X1_writeLine_129 283 v (some o) ⟨sc_k283 c1, 135, sc_r283_1 c1, o, rfl, ko.2, by omega, sc_k135 c1, ?_⟩
  rw [e2]
  have wl : wrLine w (some a) l = (true, uU w ((wU w).set q'.2.1 ((wU w).getD q'.2.1 [] ++ [l]))) := by unfold wrLine; simp only [eq, k6]; rfl
  refine (k_X0_putIn (by omega) c1 c3 lu hv room).mono ?_
  rintro _ h1 ⟨rfl, ex, cp⟩
  refine Or.inl ⟨1, rfl, Or.inr rfl, ?_⟩
  unfold WrE
  rw [wl]
  have eI : ∀ b, ¬ pPI b → hpI h1 b = hpI h b := ex.2.2.2.2.2.2.2
  have eo : ∀ o k, A o ≠ none → hpI h1 o k = hpI h o k := fun o k ho => by
    rw [eI o (fun c => c4.far ho (sc_ne5 c1 (b := o) (by have := c.1; have := c.2; omega)) rfl)]
  have ex' : ExI (pRD A) h h1 := ⟨ex.1, ex.2.1, ex.2.2.1, ex.2.2.2.1, ex.2.2.2.2.1, ex.2.2.2.2.2.1, ex.2.2.2.2.2.2.1, fun b hb => eI b (fun c => hb (Or.inr (Or.inr (Or.inl c))))⟩
  have ec : CLn h1 = CLn h := CLn_cg (fun b h1 h2 => eI b (fun c => by have := c.1; omega))
  have cw : CWh h1 140 s w := CWh_cg c2 (fun b hb => eI b (fun c => by have := c.1; have := c.2; omega)) (by rw [ex.2.2.2.2.2.1])
  refine ⟨rfl, ⟨c1.fp ex.fp, cw, ?_, c4.cg ex.1 ex.2.2.2.1 eo rfl (Nat.le_refl _) ?_⟩, ex', fun o k ho _ => eo o k ho⟩
  · show CP (CLn h1) _ _ _ _ _ _
    rw [ec]; exact cp
  · show (wU w).length ≤ ((wU w).set _ _).length
    rw [List.length_set]; exact Nat.le_refl _
/-- Commands.writeLine -/
theorem k_X1_writeLine (hd : 2 ≤ d) (c : WC h A s w) (sx : SB h x) (ch : RHc A (hpR h (x + 9) 1) oh) (hv : CLn h v l) (h0 : CLn h 0 []) (room : totU w < 12040) :
    mx_SM mY_X1_writeLine d [.ref 283, .ref x, .int v] h (WrE A s w oh l h) := by
  have hat := sx.hd (sc_k135 c.1)
  have hlt : ∀ b, hpR h (x + 9) 1 = some b → b < hpN h := fun b hb => by
    rcases ch with ⟨e, -⟩ | ⟨o, a, e, -, ho⟩
    · rw [e] at hb; exact nomatch hb
    · rw [e] at hb
      rw [← Option.some.inj hb]
      exact (c.2.2.2.1 o a ho).1.1
  refine b_X1_writeLine 283 x v ⟨sx.k0, x + 8, sx.r0_3, by omega, sx.k8, mx_xKR (k_X2_at (i := 1) hat (by decide) hlt) ?_⟩
  rcases ch with ⟨e, e2⟩ | ⟨o, a, e, e2, ho⟩
  · rw [e, e2]
    exact ⟨fun _ => ⟨rfl, c, FrR.rf⟩, fun b2 c => nomatch c⟩
  · rw [e, e2]
    obtain ⟨ko, q, q1, q2, q3, q4, -⟩ := c.2.2.2.1 o a ho
    have eq : (wO w).getD a (0, 0, 0) = q := by rw [List.getD_eq_getElem?_getD, q1]; rfl
    refine ⟨fun c => (nomatch c), fun b2 eb => ?_⟩
    obtain rfl := Option.some.inj eb
    have ti : (nI q.1).toInt = q.1 := nI_ti (by omega)
    rw [q2, ti]
    have bad : (q.1 ≠ 1 ∧ q.1 ≠ 3 ∧ q.1 ≠ 4 ∧ q.1 ≠ 6) → mx_SX mY_X1_writeLine d 142 [] [] h (WrE A s w (some a) l h) := by
      rintro ⟨n1, n3, n4, n6⟩
      have wl : wrLine w (some a) l = (false, w) := by unfold wrLine; simp only [eq, if_neg n1, if_neg n3, if_neg n4, if_neg n6]
      refine b_X1_writeLine_142 ?_
      unfold WrE
      rw [wl]
      exact ⟨rfl, c, FrR.rf⟩
    exact ⟨ko.2, fun g => bad (by omega), fun g => c.wrT hd hv q1 (by omega), fun g => bad (by omega), fun g => c.wrF hd hv h0 ho q1 (by omega), fun g => c.wrA hd hv h0 ho q1 (by omega), fun g => bad (by omega), fun g => c.wrP hd hv room ho q1 (by omega)⟩
end MXW3
