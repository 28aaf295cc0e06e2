/-! Commands.readLine -/
section MXRD
variable {h h1 h2 : mxH} {d x s : Nat} {w w' : spW} {A : Nat → Option Nat} {oh : Option Nat} {bg : Bool}
theorem nI_ti {n : Nat} (h : n < 2 ^ 31) : (nI n).toInt = n := by
  unfold nI
  rw [Int32.toInt_ofNat']
  simp [Int.bmod]; omega
theorem CO.cg (c : CO h A w) (eN : hpN h1 = hpN h) (eK : hpK h1 = hpK h) (eI : ∀ o k, A o ≠ none → hpI h1 o k = hpI h o k) (eO : wO w' = wO w) (lF : (wF w).length ≤ (wF w').length) (lU : (wU w).length ≤ (wU w').length) : CO h1 A w' := by
  refine ⟨fun o a ho => ?_, c.2⟩
  obtain ⟨k, q, q1, q2, q3, q4, q5, q6, q7, q8⟩ := c.1 o a ho
  have ne : A o ≠ none := by rw [ho]; exact fun c => nomatch c
  refine ⟨by unfold mx_kd; rw [eN, eK]; exact k, q, by rw [eO]; exact q1, by rw [eI o 0 ne]; exact q2, q3, q4, by rw [eI o 3 ne]; exact q5, q6, fun r => ?_, fun r => ?_⟩
  · rw [eI o 1 ne]; exact ⟨(q7 r).1, Nat.lt_of_lt_of_le (q7 r).2 lF⟩
  · rw [eI o 2 ne]; exact ⟨(q8 r).1, Nat.lt_of_lt_of_le (q8 r).2 lU⟩
/-- the position of an open file goes on -/
theorem CO.pos {o a : Nat} {q : spO} (c : CO h A w) (ho : A o = some a) (hq : (wO w)[a]? = some q) (hp : q.2.2 + 1 ≤ 40) : CO (hsI h o 3 (nI (q.2.2 + 1))) A (uO w ((wO w).set a (q.1, q.2.1, q.2.2 + 1))) := by
  refine ⟨fun o' a' ho' => ?_, c.2⟩
  obtain ⟨k, q', q1, q2, q3, q4, q5, q6, q7, q8⟩ := c.1 o' a' ho'
  have al : a < (wO w).length := (List.getElem?_eq_some_iff.mp hq).1
  by_cases e : o' = o
  · subst e
    have ea : a' = a := by rw [ho] at ho'; exact (Option.some.inj ho').symm
    subst ea
    have eq : q' = q := by rw [hq] at q1; exact (Option.some.inj q1).symm
    subst eq
    have en : ∀ j, j ≠ 3 → hpI (hsI h o' 3 (nI (q'.2.2 + 1))) o' j = hpI h o' j := fun j hj => by rw [hpI_sIe, fup_n hj]
    refine ⟨k, (q'.1, q'.2.1, q'.2.2 + 1), ?_, by rw [en 0 (by decide)]; exact q2, q3, q4, by rw [hpI_sIe, fup_e], hp, fun r => ?_, fun r => ?_⟩
    · show ((wO w).set a' (q'.1, q'.2.1, q'.2.2 + 1))[a']? = _
      rw [List.getElem?_set_self al]
    · rw [en 1 (by decide)]; exact q7 r
    · rw [en 2 (by decide)]; exact q8 r
  · have ea : a ≠ a' := fun c' => e (c.2 o' o a' ho' (by rw [← c']; exact ho))
    have en : ∀ j, hpI (hsI h o 3 (nI (q.2.2 + 1))) o' j = hpI h o' j := fun j => by rw [hpI_sIn e]
    refine ⟨k, q', ?_, by rw [en]; exact q2, q3, q4, by rw [en]; exact q5, q6, fun r => ?_, fun r => ?_⟩
    · show ((wO w).set a (q.1, q.2.1, q.2.2 + 1))[a']? = _
      rw [List.getElem?_set_ne ea]; exact q1
    · rw [en]; exact q7 r
    · rw [en]; exact q8 r
/-- the world's cells, the pipes, the open files -/
def WC (h : mxH) (A : Nat → Option Nat) (s : Nat) (w : spW) : Prop := SC h ∧ CWh h 140 s w ∧ CPh h w ∧ CO h A w
abbrev pRD (A : Nat → Option Nat) : Nat → Prop := fun b => b = 140 ∨ (142 ≤ b ∧ b ≤ 145) ∨ pPI b ∨ A b ≠ none
/-- what reading and writing leave -/
def FrR (A : Nat → Option Nat) (h h1 : mxH) : Prop := ExI (pRD A) h h1 ∧ ∀ o k, A o ≠ none → k ≠ 3 → hpI h1 o k = hpI h o k
def RdV (h : mxH) (v : Int32) (q : Nat × spL) : Prop := (q.1 = 0 ∧ CLn h v q.2) ∨ (q.1 = 1 ∧ v = -1) ∨ (q.1 = 2 ∧ v = -2) ∨ (q.1 = 3 ∧ v = -3)
theorem CLn_ge {v : Int32} {l : spL} (c : CLn h v l) : 0 ≤ v := by
  obtain ⟨i, rfl, hi, -⟩ := c
  exact nI_pos' (by omega)
theorem k_X1_lineOrEnd {v : Int32} : mx_SM mY_X1_lineOrEnd d [.int v] h (mx_xct (.inl (some (.int (if 0 ≤ v then v else -1)))) h) :=
  b_X1_lineOrEnd v ⟨fun c => ⟨by rw [if_pos c], rfl⟩, fun c => ⟨by rw [if_neg c], rfl⟩⟩
theorem CO.far {o b : Nat} (c : CO h A w) (ho : A o ≠ none) (hb : hpK h b ≠ 5) : o ≠ b := by
  intro e
  subst e
  rcases ha : A o with _ | a
  · exact ho ha
  · exact hb (c.1 o a ha).1.2
theorem WC.rdI (hd : 2 ≤ d) (c : WC h A s w) (sx : SB h x) (hbg : hpI h x 5 = if bg = true then 1 else 0) {a : Nat} {q : spO} (hq : (wO w)[a]? = some q) (k1 : q.1 = 1) :
    mx_SX mY_X1_readLine d 56 [(0, .ref 283), (1, .ref x)] [] h (fun r h1 => ∃ v, r = .inl (some (.int v)) ∧ RdV h v (rdLine w (some a) bg).1 ∧ WC h1 A s (rdLine w (some a) bg).2 ∧ FrR A h h1) := by
  obtain ⟨c1, c2, c3, c4⟩ := c
  have eq : (wO w).getD a (0, 0, 0) = q := by rw [List.getD_eq_getElem?_getD, hq]; rfl
  have fr : FrR A h h := ⟨ExI.rf, fun _ _ _ _ => rfl⟩
  refine b_X1_readLine_56 283 x ⟨sx.k0, ?_⟩
  rw [hbg]
  cases bg with
  | true =>
    have rl : rdLine w (some a) true = ((3, []), w) := by unfold rdLine; simp only [eq, k1]; rfl
    rw [rl]
    exact ⟨fun c => absurd c (by decide), fun _ => ⟨_, rfl, Or.inr (Or.inr (Or.inr ⟨rfl, rfl⟩)), ⟨c1, c2, c3, c4⟩, fr⟩⟩
  | false =>
    refine ⟨fun _ => ⟨sc_k283 c1, 140, sc_r283_0 c1, by omega, (sc_w c1).k0, ?_⟩, fun c => absurd rfl c⟩
    rcases eI : wI w with _ | ⟨l, r⟩
    · have rl : rdLine w (some a) false = ((1, []), w) := by unfold rdLine; simp only [eq, k1, eI]; rfl
      rw [rl]
      have e5 : hpI h 140 5 = 0 := by rw [c2.2.1.1, eI]; rfl
      exact mx_xKI2 (k_X10_takeInput_no (sc_w c1) e5) (mx_xKI2 k_X1_lineOrEnd ⟨_, rfl, Or.inr (Or.inl ⟨rfl, rfl⟩), ⟨c1, c2, c3, c4⟩, fr⟩)
    · have rl : rdLine w (some a) false = ((0, l), uI w r) := by unfold rdLine; simp only [eq, k1, eI]; rfl
      rw [rl]
      obtain ⟨t1, t2, t3, t4⟩ := c2.tkI eI
      refine mx_xKI2 (k_X10_takeInput (by omega) (sc_w c1) t2 t3) (mx_xKI2 k_X1_lineOrEnd ?_)
      rw [if_pos (CLn_ge t1)]
      have ex : ExI (pRD A) h (hsI (hrI h (140 + 4) (va_cpy (hpI h (140 + 4)) (hpI h (140 + 4)) 1 0 r.length)) 140 5 (nI r.length)) := (ExI.rf.rI (Or.inr (Or.inl (by decide)))).I (Or.inl rfl)
      have k4 : hpK h 140 ≠ 5 := by rw [(sc_w c1).k0]; decide
      have k5 : hpK h (140 + 4) ≠ 5 := by rw [(sc_w c1).k4]; decide
      have eo : ∀ o k, A o ≠ none → hpI (hsI (hrI h (140 + 4) (va_cpy (hpI h (140 + 4)) (hpI h (140 + 4)) 1 0 r.length)) 140 5 (nI r.length)) o k = hpI h o k := fun o k ho => by
        rw [hpI_sIn (c4.far ho k4), hpI_rI, if_neg (c4.far ho k5)]
      exact ⟨_, rfl, Or.inl ⟨rfl, t1⟩, ⟨c1.fp ex.fp, t4, c3, c4.cg rfl rfl eo rfl (Nat.le_refl _) (Nat.le_refl _)⟩, ex, fun o k ho _ => eo o k ho⟩
end MXRD
