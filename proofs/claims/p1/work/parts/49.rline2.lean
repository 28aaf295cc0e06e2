/-! THE REFERENCE'S LINES: marking a world -/
section MXLW
variable {d : Nat} {h : mxH} {Q : mxRes → mxH → Prop}
theorem Mkd.nx {u f : Nat → Int32} {p j i : Nat} (a : Mkd u f p j) (e : f (p + j) = nI i) (hi : i < 4400) : Mkd (fup u i 1) f p (j + 1) := fun k hk => by
  by_cases c : k < j
  · obtain ⟨i', b1, b2, b3⟩ := a k c
    exact ⟨i', b1, b2, MkL.up i' b3⟩
  · exact ⟨i, by rw [← e]; congr 1; omega, hi, fup_e⟩
def VW (L : Int32 → Prop) (f : Nat → Int32) (p : Nat) : Prop := (∀ i, i < 8 → ∃ c, c ≤ 40 ∧ f (p + 1 + 41 * i) = nI c ∧ Vld L f (p + 2 + 41 * i) c) ∧ (∃ c, c ≤ 40 ∧ f (p + 329) = nI c ∧ Vld L f (p + 330) c) ∧ (∃ c, c ≤ 100 ∧ f (p + 370) = nI c ∧ Vld L f (p + 371) c)
def MW (u f : Nat → Int32) (p : Nat) : Prop := (∀ i, i < 8 → ∀ c, c ≤ 40 → f (p + 1 + 41 * i) = nI c → Mkd u f (p + 2 + 41 * i) c) ∧ (∀ c, c ≤ 40 → f (p + 329) = nI c → Mkd u f (p + 330) c) ∧ (∀ c, c ≤ 100 → f (p + 370) = nI c → Mkd u f (p + 371) c)
def wkr (h : mxH) (a : Nat) : Prop := hpK h a = 14 ∧ hpZ h a = srZ a ∧ a ≠ 341 ∧ srZ a < 2 ^ 31
theorem wkr_of (s : SR h) {a : Nat} (ha : a = 342 ∨ a = 361) : wkr h a := by
  rcases ha with rfl | rfl
  · exact ⟨sr_k342 s, sr_z342 s, by decide, by decide⟩
  · exact ⟨sr_k361 s, sr_z361 s, by decide, by decide⟩
theorem mw_93 (hd : 1 ≤ d) (s : SR h) {a p c : Nat} {L : Int32 → Prop} (ha : wkr h a) (hz : p + 471 ≤ srZ a) (hc : hpI h a (p + 370) = nI c) (hc2 : c ≤ 100) (hv : Vld L (hpI h a) (p + 371) c) : ∀ m j u, j + m = c → MkS L u → Mkd u (hpI h a) (p + 371) j →
    (∀ u', MkS L u' → MkL u u' → Mkd u' (hpI h a) (p + 371) c → Q (.inl none) (hrI h 341 u')) →
    mx_SX mY_X12_marksWorld d 93 [(0, .ref 320), (1, .ref a), (2, .int (nI p)), (3, .int (nI j))] [] (hrI h 341 u) Q := by
  obtain ⟨k1, k2, k3, k4⟩ := ha
  intro m
  induction m with
  | zero =>
    intro j u hj hS hM K
    refine b_X12_marksWorld_93 320 a _ _ ⟨k1, ?_⟩
    simp (disch := omega) only [nI_lit, nI_add, hpZ_rI, k2, vpT, true_and, nI_clamp, hpI_rI, if_neg k3, hc, nI_leI]
    refine ⟨fun _ => K u hS (fun _ q => q) ?_, fun q => absurd (by omega) q⟩
    have : j = c := by omega
    exact this ▸ hM
  | succ m ih =>
    intro j u hj hS hM K
    obtain ⟨i, v1, v2, v3⟩ := hv j (by omega)
    refine b_X12_marksWorld_93 320 a _ _ ⟨k1, ?_⟩
    simp (disch := omega) only [nI_lit, nI_add, hpZ_rI, k2, vpT, true_and, nI_clamp, hpI_rI, if_neg k3, hc, nI_leI]
    refine ⟨fun q => absurd q (by omega), fun _ => ⟨hd, sr_k s, ?_⟩⟩
    rw [show p + 370 + 1 + j = p + 371 + j by omega, v1]
    refine mx_xKV (k_X12_marks s v2) ?_
    exact ih (j + 1) _ (by omega) (hS.up v3) (hM.nx v1 v2) fun u' a1 a2 a3 => K u' a1 (MkL.up.tr a2) a3
theorem mw_59 (hd : 1 ≤ d) (s : SR h) {a p c : Nat} {L : Int32 → Prop} (ha : wkr h a) (hz : p + 471 ≤ srZ a) (hc : hpI h a (p + 329) = nI c) (hc2 : c ≤ 40) (hv : Vld L (hpI h a) (p + 330) c) : ∀ m j u, j + m = c → MkS L u → Mkd u (hpI h a) (p + 330) j →
    (∀ u', MkS L u' → MkL u u' → Mkd u' (hpI h a) (p + 330) c → mx_SX mY_X12_marksWorld d 93 [(0, .ref 320), (1, .ref a), (2, .int (nI p)), (3, .int (nI 0))] [] (hrI h 341 u') Q) →
    mx_SX mY_X12_marksWorld d 59 [(0, .ref 320), (1, .ref a), (2, .int (nI p)), (3, .int (nI j))] [] (hrI h 341 u) Q := by
  obtain ⟨k1, k2, k3, k4⟩ := ha
  intro m
  induction m with
  | zero =>
    intro j u hj hS hM K
    refine b_X12_marksWorld_59 320 a _ _ ⟨k1, ?_⟩
    simp (disch := omega) only [nI_lit, nI_add, hpZ_rI, k2, vpT, true_and, nI_clamp, hpI_rI, if_neg k3, hc, nI_leI]
    refine ⟨fun _ => K u hS (fun _ q => q) ?_, fun q => absurd (by omega) q⟩
    have : j = c := by omega
    exact this ▸ hM
  | succ m ih =>
    intro j u hj hS hM K
    obtain ⟨i, v1, v2, v3⟩ := hv j (by omega)
    refine b_X12_marksWorld_59 320 a _ _ ⟨k1, ?_⟩
    simp (disch := omega) only [nI_lit, nI_add, hpZ_rI, k2, vpT, true_and, nI_clamp, hpI_rI, if_neg k3, hc, nI_leI]
    refine ⟨fun q => absurd q (by omega), fun _ => ⟨hd, sr_k s, ?_⟩⟩
    rw [show p + 329 + 1 + j = p + 330 + j by omega, v1]
    refine mx_xKV (k_X12_marks s v2) ?_
    exact ih (j + 1) _ (by omega) (hS.up v3) (hM.nx v1 v2) fun u' a1 a2 a3 => K u' a1 (MkL.up.tr a2) a3
theorem mw_11 (hd : 1 ≤ d) (s : SR h) {a p c i : Nat} {L : Int32 → Prop} (ha : wkr h a) (hz : p + 471 ≤ srZ a) (hi : i < 8) (hc : hpI h a (p + 1 + 41 * i) = nI c) (hc2 : c ≤ 40) (hv : Vld L (hpI h a) (p + 2 + 41 * i) c) : ∀ m j u, j + m = c → MkS L u → Mkd u (hpI h a) (p + 2 + 41 * i) j →
    (∀ u', MkS L u' → MkL u u' → Mkd u' (hpI h a) (p + 2 + 41 * i) c → mx_SX mY_X12_marksWorld d 2 [(0, .ref 320), (1, .ref a), (2, .int (nI p)), (3, .int (nI (i + 1)))] [] (hrI h 341 u') Q) →
    mx_SX mY_X12_marksWorld d 11 [(0, .ref 320), (1, .ref a), (2, .int (nI p)), (3, .int (nI i)), (4, .int (nI j))] [] (hrI h 341 u) Q := by
  obtain ⟨k1, k2, k3, k4⟩ := ha
  intro m
  induction m with
  | zero =>
    intro j u hj hS hM K
    refine b_X12_marksWorld_11 320 a _ _ _ ⟨k1, ?_⟩
    simp (disch := omega) only [nI_lit, nI_add, pk_mul, hpZ_rI, k2, vpT, true_and, nI_clamp, hpI_rI, if_neg k3, hc, nI_leI]
    refine ⟨fun _ => K u hS (fun _ q => q) ?_, fun q => absurd (by omega) q⟩
    have : j = c := by omega
    exact this ▸ hM
  | succ m ih =>
    intro j u hj hS hM K
    obtain ⟨i', v1, v2, v3⟩ := hv j (by omega)
    refine b_X12_marksWorld_11 320 a _ _ _ ⟨k1, ?_⟩
    simp (disch := omega) only [nI_lit, nI_add, pk_mul, hpZ_rI, k2, vpT, true_and, nI_clamp, hpI_rI, if_neg k3, hc, nI_leI]
    refine ⟨fun q => absurd q (by omega), fun _ => ⟨hd, sr_k s, ?_⟩⟩
    rw [show p + 1 + 41 * i + 1 + j = p + 2 + 41 * i + j by omega, v1]
    refine mx_xKV (k_X12_marks s v2) ?_
    exact ih (j + 1) _ (by omega) (hS.up v3) (hM.nx v1 v2) fun u' a1 a2 a3 => K u' a1 (MkL.up.tr a2) a3
theorem mw_2 (hd : 1 ≤ d) (s : SR h) {a p : Nat} {L : Int32 → Prop} (ha : wkr h a) (hz : p + 471 ≤ srZ a) (hv : VW L (hpI h a) p) : ∀ m i u, i + m = 8 → MkS L u → (∀ k, k < i → ∀ c, c ≤ 40 → hpI h a (p + 1 + 41 * k) = nI c → Mkd u (hpI h a) (p + 2 + 41 * k) c) →
    (∀ u', MkS L u' → MkL u u' → (∀ k, k < 8 → ∀ c, c ≤ 40 → hpI h a (p + 1 + 41 * k) = nI c → Mkd u' (hpI h a) (p + 2 + 41 * k) c) → mx_SX mY_X12_marksWorld d 59 [(0, .ref 320), (1, .ref a), (2, .int (nI p)), (3, .int (nI 0))] [] (hrI h 341 u') Q) →
    mx_SX mY_X12_marksWorld d 2 [(0, .ref 320), (1, .ref a), (2, .int (nI p)), (3, .int (nI i))] [] (hrI h 341 u) Q := by
  intro m
  induction m with
  | zero =>
    intro i u hi hS hM K
    refine b_X12_marksWorld_2 320 a _ _ ?_
    simp (disch := omega) only [nI_lit, nI_leI]
    refine ⟨fun _ => K u hS (fun _ q => q) fun k hk => hM k (by omega), fun q => absurd (by omega) q⟩
  | succ m ih =>
    intro i u hi hS hM K
    obtain ⟨c, c1, c2, c3⟩ := hv.1 i (by omega)
    refine b_X12_marksWorld_2 320 a _ _ ?_
    simp (disch := omega) only [nI_lit, nI_leI]
    refine ⟨fun q => absurd q (by omega), fun _ => ?_⟩
    refine mw_11 hd s ha hz (by omega) c2 c1 c3 c 0 u (by omega) hS (fun k hk => absurd hk (by omega)) fun u' a1 a2 a3 => ?_
    refine ih (i + 1) u' (by omega) a1 (fun k hk c' hc' e => ?_) fun u2 b1 b2 b3 => K u2 b1 (a2.tr b2) b3
    by_cases ck : k < i
    · exact (hM k ck c' hc' e).mono a2
    · have ek : k = i := by omega
      subst ek
      rw [c2] at e
      have : c = c' := (nI_eq (by omega) (by omega)).mp e
      exact this ▸ a3
theorem k_X12_marksWorld (hd : 1 ≤ d) (s : SR h) {a p : Nat} {L : Int32 → Prop} {u : Nat → Int32} (ha : a = 342 ∨ a = 361) (hz : p + 471 ≤ srZ a) (hv : VW L (hpI h a) p) (hS : MkS L u) :
    mx_SM mY_X12_marksWorld d [.ref 320, .ref a, .int (nI p)] (hrI h 341 u) (mx_KV (MkP h L u fun u' => MW u' (hpI h a) p) fun _ _ => False) := by
  have hk := wkr_of s ha
  refine b_X12_marksWorld 320 a _ ?_
  refine mw_2 hd s hk hz hv 8 0 u rfl hS (fun k hk => absurd hk (by omega)) fun u1 a1 a2 a3 => ?_
  obtain ⟨c, c1, c2, c3⟩ := hv.2.1
  refine mw_59 hd s hk hz c2 c1 c3 c 0 u1 (by omega) a1 (fun k hk => absurd hk (by omega)) fun u2 b1 b2 b3 => ?_
  obtain ⟨e, e1, e2, e3⟩ := hv.2.2
  refine mw_93 hd s hk hz e2 e1 e3 e 0 u2 (by omega) b1 (fun k hk => absurd hk (by omega)) fun u3 f1 f2 f3 => ?_
  refine Or.inl ⟨rfl, u3, rfl, f1, (a2.tr b2).tr f2, fun i hi c' hc' e' => (a3 i hi c' hc' e').mono (b2.tr f2), fun c' hc' e' => ?_, fun c' hc' e' => ?_⟩
  · rw [c2] at e'
    have : c = c' := (nI_eq (by omega) (by omega)).mp e'
    exact this ▸ b3.mono f2
  · rw [e2] at e'
    have : e = c' := (nI_eq (by omega) (by omega)).mp e'
    exact this ▸ f3
end MXLW
