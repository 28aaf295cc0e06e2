/-! THE REFERENCE'S LINES: sweeping -/
section MXLS
variable {d : Nat} {h : mxH} {Q : mxRes → mxH → Prop} {L : Int32 → Prop}
theorem an01 : (nI 0 &&& nI 1) = nI 0 := by decide
theorem an11 : (nI 1 &&& nI 1) = nI 1 := by decide
theorem nI_ne {a b : Nat} (ha : a < 2 ^ 31) (hb : b < 2 ^ 31) (h : a ≠ b) : (nI a = nI b) ↔ False := ⟨fun e => h ((nI_eq ha hb).mp e), False.elim⟩
/-- what is named: valid numbers of L -/
def VA (L : Int32 → Prop) (h : mxH) (Qs : Nat → List Nat) (D : Nat) : Prop :=
  VW L (hpI h 342) 0 ∧ (∀ s, s < 1000 → hpI h 354 (83 * s + 82) = 1 → ∃ c, c ≤ 20 ∧ hpI h 354 (83 * s) = nI c ∧ Vld L (hpI h 354) (83 * s + 1) c) ∧
  (∀ b, b < 400 → RQ (hpI h 351) (hpI h 347 b) (Qs b) ∧ ∀ x ∈ Qs b, ∃ i, hpI h 350 x = nI i ∧ i < 4400 ∧ L (nI i)) ∧
  (hpI h 320 82 = nI D ∧ D ≤ 6 ∧ ∀ e, e < D → VW L (hpI h 361) (778 * e) ∧ ∃ c, c ≤ 20 ∧ hpI h 361 (778 * e + 471) = nI c ∧ Vld L (hpI h 361) (778 * e + 471 + 1) c)
def MA (u : Nat → Int32) (h : mxH) (Qs : Nat → List Nat) (D : Nat) : Prop :=
  MW u (hpI h 342) 0 ∧ (∀ s, s < 1000 → hpI h 354 (83 * s + 82) = 1 → ∀ c, c ≤ 20 → hpI h 354 (83 * s) = nI c → Mkd u (hpI h 354) (83 * s + 1) c) ∧
  (∀ b, b < 400 → ∀ x ∈ Qs b, ∃ i, hpI h 350 x = nI i ∧ i < 4400 ∧ u i = 1) ∧
  (∀ e, e < D → MW u (hpI h 361) (778 * e) ∧ ∀ c, c ≤ 20 → hpI h 361 (778 * e + 471) = nI c → Mkd u (hpI h 361) (778 * e + 471 + 1) c)
theorem MW.mono {u u' f : Nat → Int32} {p : Nat} (a : MW u f p) (m : MkL u u') : MW u' f p := ⟨fun i hi c hc e => (a.1 i hi c hc e).mono m, fun c hc e => (a.2.1 c hc e).mono m, fun c hc e => (a.2.2 c hc e).mono m⟩
theorem sl_2 (s : SR h) : ∀ m k u, k + m = 4400 → (∀ i, i < k → u i = if i = 0 then 1 else 0) →
    (∀ u', (∀ i, i < 4400 → u' i = if i = 0 then 1 else 0) → mx_SX mY_X12_sweepsLines d 2 [(0, .ref 320), (1, .int (nI 4400))] [] (hrI h 341 u') Q) →
    mx_SX mY_X12_sweepsLines d 2 [(0, .ref 320), (1, .int (nI k))] [] (hrI h 341 u) Q := by
  intro m
  induction m with
  | zero =>
    intro k u hk hu K
    have e : k = 4400 := by omega
    subst e
    exact K u hu
  | succ m ih =>
    intro k u hk hu K
    refine b_X12_sweepsLines_2 320 _ ?_
    simp (disch := omega) only [nI_lit, nI_leI]
    refine ⟨fun q => absurd q (by omega), fun _ => ⟨sr_k s, 341, sr_r54 s, fun c => ?_, fun c => ?_⟩⟩
    · simp (disch := omega) only [nI_eq] at c
      simp (disch := omega) only [hpK_rI, sr_k341 s, hpZ_rI, sr_z341 s, vpT, true_and, nI_clamp, hsI_hrI, forall_eq, an01, nI_add]
      refine ih (k + 1) _ (by omega) (fun i hi => ?_) K
      by_cases e : i = k
      · rw [e, fup_e, if_neg c]; rfl
      · rw [fup_n e]; exact hu i (by omega)
    · simp (disch := omega) only [nI_eq] at c
      simp (disch := omega) only [hpK_rI, sr_k341 s, hpZ_rI, sr_z341 s, vpT, true_and, nI_clamp, hsI_hrI, forall_eq, an11, nI_add]
      refine ih (k + 1) _ (by omega) (fun i hi => ?_) K
      by_cases e : i = k
      · rw [e, fup_e, if_pos c]; rfl
      · rw [fup_n e]; exact hu i (by omega)
theorem sl_41 (hd : 2 ≤ d) (s : SR h) {Qs : Nat → List Nat} {D : Nat} (v : VA L h Qs D) : ∀ m k u, k + m = 1000 → MkS L u → (∀ t, t < k → hpI h 354 (83 * t + 82) = 1 → ∀ c, c ≤ 20 → hpI h 354 (83 * t) = nI c → Mkd u (hpI h 354) (83 * t + 1) c) →
    (∀ u', MkS L u' → MkL u u' → (∀ t, t < 1000 → hpI h 354 (83 * t + 82) = 1 → ∀ c, c ≤ 20 → hpI h 354 (83 * t) = nI c → Mkd u' (hpI h 354) (83 * t + 1) c) → mx_SX mY_X12_sweepsLines d 84 [(0, .ref 320), (1, .int (nI 0))] [] (hrI h 341 u') Q) →
    mx_SX mY_X12_sweepsLines d 41 [(0, .ref 320), (1, .int (nI k))] [] (hrI h 341 u) Q := by
  intro m
  induction m with
  | zero =>
    intro k u hk hS hu K
    have e : k = 1000 := by omega
    subst e
    refine b_X12_sweepsLines_41 320 _ ?_
    simp (disch := omega) only [nI_lit, nI_leI]
    exact ⟨fun _ => K u hS (fun _ q => q) hu, fun q => absurd (by omega) q⟩
  | succ m ih =>
    intro k u hk hS hu K
    refine b_X12_sweepsLines_41 320 _ ?_
    simp (disch := omega) only [nI_lit, nI_leI]
    refine ⟨fun q => absurd q (by omega), fun _ => ⟨sr_k s, 354, sr_r71 s, sr_k354 s, ?_⟩⟩
    simp (disch := omega) only [hpZ_rI, sr_z354 s, pk_mul, nI_add, vpT, true_and, nI_clamp, hpI_rI, Nat.reduceEqDiff, if_false]
    refine ⟨fun c => ?_, fun c => ⟨by omega, ?_⟩⟩
    · refine b_X12_sweepsLines_76 320 _ ?_
      rw [nI_1]
      refine ih (k + 1) u (by omega) hS (fun t ht hl => ?_) K
      by_cases e : t = k
      · subst e; exact absurd hl c
      · exact hu t (by omega) hl
    · obtain ⟨n, n1, n2, n3⟩ := v.2.1 k (by omega) c
      refine mx_uV (k_X12_marksShell (by omega) s (Or.inl rfl) (show 83 * k + 21 ≤ 83000 by omega) n2 n1 n3 hS) ?_
      rintro _ ⟨u', rfl, w1, w2, w3⟩
      refine b_X12_sweepsLines_76 320 _ ?_
      rw [nI_1]
      refine ih (k + 1) u' (by omega) w1 (fun t ht hl c' hc' e' => ?_) fun u2 b1 b2 b3 => K u2 b1 (w2.tr b2) b3
      by_cases e : t = k
      · subst e
        rw [n2] at e'
        have : n = c' := (nI_eq (by omega) (by omega)).mp e'
        exact this ▸ w3
      · exact (hu t (by omega) hl c' hc' e').mono w2
theorem sl_98 (hd : 1 ≤ d) (s : SR h) {b : Nat} : ∀ (q : List Nat) (x : Int32) u, RQ (hpI h 351) x q → (∀ x ∈ q, ∃ i, hpI h 350 x = nI i ∧ i < 4400 ∧ L (nI i)) → MkS L u →
    (∀ u', MkS L u' → MkL u u' → (∀ x ∈ q, ∃ i, hpI h 350 x = nI i ∧ i < 4400 ∧ u' i = 1) → mx_SX mY_X12_sweepsLines d 84 [(0, .ref 320), (1, .int (nI (b + 1)))] [] (hrI h 341 u') Q) →
    mx_SX mY_X12_sweepsLines d 98 [(0, .ref 320), (1, .int (nI b)), (2, .int x)] [] (hrI h 341 u) Q := by
  intro q
  induction q with
  | nil =>
    intro x u hq hv hS K
    have e : x = -1 := hq
    refine b_X12_sweepsLines_98 320 _ _ ⟨fun _ => ?_, fun c => absurd e c⟩
    rw [nI_1]
    exact K u hS (fun _ q => q) fun x hx => absurd hx List.not_mem_nil
  | cons y q ih =>
    intro x u hq hv hS K
    obtain ⟨rfl, q2, q3⟩ := hq
    obtain ⟨i, i1, i2, i3⟩ := hv y List.mem_cons_self
    refine b_X12_sweepsLines_98 320 _ _ ⟨fun c => absurd c (fun c => (nI_neg1 (by omega)).mp c), fun _ => ⟨sr_k s, 350, sr_r64 s, sr_k350 s, ?_⟩⟩
    simp (disch := omega) only [hpZ_rI, sr_z350 s, vpT, true_and, nI_clamp, hpI_rI, Nat.reduceEqDiff, if_false, i1]
    refine ⟨hd, mx_xKV (k_X12_marks s i2) ⟨sr_k s, 351, sr_r65 s, sr_k351 s, ?_⟩⟩
    simp (disch := omega) only [hpZ_rI, sr_z351 s, vpT, true_and, nI_clamp, hpI_rI, Nat.reduceEqDiff, if_false]
    refine ih _ _ q3 (fun x hx => hv x (List.mem_cons_of_mem _ hx)) (hS.up i3) fun u' a1 a2 a3 => K u' a1 (MkL.up.tr a2) fun x hx => ?_
    rcases List.mem_cons.mp hx with rfl | hx
    · exact ⟨i, i1, i2, a2 i fup_e⟩
    · exact a3 x hx
theorem sl_84 (hd : 1 ≤ d) (s : SR h) {Qs : Nat → List Nat} {D : Nat} (v : VA L h Qs D) : ∀ m k u, k + m = 400 → MkS L u → (∀ b, b < k → ∀ x ∈ Qs b, ∃ i, hpI h 350 x = nI i ∧ i < 4400 ∧ u i = 1) →
    (∀ u', MkS L u' → MkL u u' → (∀ b, b < 400 → ∀ x ∈ Qs b, ∃ i, hpI h 350 x = nI i ∧ i < 4400 ∧ u' i = 1) → mx_SX mY_X12_sweepsLines d 131 [(0, .ref 320), (1, .int (nI 0))] [] (hrI h 341 u') Q) →
    mx_SX mY_X12_sweepsLines d 84 [(0, .ref 320), (1, .int (nI k))] [] (hrI h 341 u) Q := by
  intro m
  induction m with
  | zero =>
    intro k u hk hS hu K
    have e : k = 400 := by omega
    subst e
    refine b_X12_sweepsLines_84 320 _ ?_
    simp (disch := omega) only [nI_lit, nI_leI]
    exact ⟨fun _ => K u hS (fun _ q => q) hu, fun q => absurd (by omega) q⟩
  | succ m ih =>
    intro k u hk hS hu K
    obtain ⟨v1, v2⟩ := v.2.2.1 k (by omega)
    refine b_X12_sweepsLines_84 320 _ ?_
    simp (disch := omega) only [nI_lit, nI_leI]
    refine ⟨fun q => absurd q (by omega), fun _ => ⟨sr_k s, 347, sr_r61 s, sr_k347 s, ?_⟩⟩
    simp (disch := omega) only [hpZ_rI, sr_z347 s, vpT, true_and, nI_clamp, hpI_rI, Nat.reduceEqDiff, if_false]
    refine sl_98 hd s (Qs k) _ u v1 v2 hS fun u' a1 a2 a3 => ih (k + 1) u' (by omega) a1 (fun b hb x hx => ?_) fun u2 b1 b2 b3 => K u2 b1 (a2.tr b2) b3
    by_cases e : b = k
    · subst e; exact a3 x hx
    · obtain ⟨i, i1, i2, i3⟩ := hu b (by omega) x hx
      exact ⟨i, i1, i2, a2 i i3⟩
theorem sl_131 (hd : 2 ≤ d) (s : SR h) {Qs : Nat → List Nat} {D : Nat} (v : VA L h Qs D) : ∀ m k u, k + m = D → MkS L u → (∀ e, e < k → MW u (hpI h 361) (778 * e) ∧ ∀ c, c ≤ 20 → hpI h 361 (778 * e + 471) = nI c → Mkd u (hpI h 361) (778 * e + 471 + 1) c) →
    (∀ u', MkS L u' → MkL u u' → (∀ e, e < D → MW u' (hpI h 361) (778 * e) ∧ ∀ c, c ≤ 20 → hpI h 361 (778 * e + 471) = nI c → Mkd u' (hpI h 361) (778 * e + 471 + 1) c) → Q (.inl none) (hrI h 341 u')) →
    mx_SX mY_X12_sweepsLines d 131 [(0, .ref 320), (1, .int (nI k))] [] (hrI h 341 u) Q := by
  have hD := v.2.2.2.2.1
  intro m
  induction m with
  | zero =>
    intro k u hk hS hu K
    have e : k = D := by omega
    subst e
    refine b_X12_sweepsLines_131 320 _ ⟨sr_k s, ?_⟩
    simp (disch := omega) only [hpI_rI, Nat.reduceEqDiff, if_false, v.2.2.2.1, nI_leI]
    exact ⟨fun _ => K u hS (fun _ q => q) hu, fun q => absurd (by omega) q⟩
  | succ m ih =>
    intro k u hk hS hu K
    obtain ⟨v1, c, c1, c2, c3⟩ := v.2.2.2.2.2 k (by omega)
    refine b_X12_sweepsLines_131 320 _ ⟨sr_k s, ?_⟩
    simp (disch := omega) only [hpI_rI, Nat.reduceEqDiff, if_false, v.2.2.2.1, nI_leI]
    refine ⟨fun q => absurd q (by omega), fun _ => ⟨361, sr_r80 s, by omega, ?_⟩⟩
    simp only [nI_lit, pk_mul, nI_add]
    refine mx_uV (k_X12_marksWorld (by omega) s (Or.inr rfl) (show 778 * k + 471 ≤ 4668 by omega) v1 hS) ?_
    rintro _ ⟨u1, rfl, w1, w2, w3⟩
    refine ⟨sr_k s, 361, sr_r80 s, ?_⟩
    refine mx_uV (k_X12_marksShell (by omega) s (Or.inr rfl) (show 778 * k + 471 + 21 ≤ 4668 by omega) c2 c1 c3 w1) ?_
    rintro _ ⟨u2, rfl, z1, z2, z3⟩
    refine ih (k + 1) u2 (by omega) z1 (fun e he => ?_) fun u3 b1 b2 b3 => K u3 b1 ((w2.tr z2).tr b2) b3
    by_cases ek : e = k
    · subst ek
      refine ⟨w3.mono z2, fun c' hc' e' => ?_⟩
      rw [c2] at e'
      have : c = c' := (nI_eq (by omega) (by omega)).mp e'
      exact this ▸ z3
    · obtain ⟨y1, y2⟩ := hu e (by omega)
      exact ⟨y1.mono (w2.tr z2), fun c' hc' e' => (y2 c' hc' e').mono (w2.tr z2)⟩
theorem k_X12_sweepsLines (hd : 3 ≤ d) (s : SR h) {Qs : Nat → List Nat} {D : Nat} (v : VA L h Qs D) : mx_SM mY_X12_sweepsLines d [.ref 320] h (mx_KV (fun h' => ∃ u', h' = hrI h 341 u' ∧ MkS L u' ∧ u' 0 = 1 ∧ MA u' h Qs D) fun _ _ => False) := by
  refine b_X12_sweepsLines 320 ?_
  rw [← hrI_self (h := h) (a := 341)]
  refine sl_2 s 4400 0 _ rfl (fun i hi => absurd hi (by omega)) fun u1 a1 => ?_
  have S1 : MkS L u1 := fun i hi => by
    rw [a1 i hi]
    by_cases c : i = 0
    · rw [if_pos c]; exact Or.inr ⟨rfl, Or.inl c⟩
    · rw [if_neg c]; exact Or.inl rfl
  have z1 : u1 0 = 1 := a1 0 (by omega)
  refine b_X12_sweepsLines_2 320 _ ?_
  simp (disch := omega) only [nI_lit, nI_leI]
  refine ⟨fun _ => ⟨sr_k s, 342, sr_r56 s, by omega, ?_⟩, fun q => absurd (by omega) q⟩
  refine mx_uV (k_X12_marksWorld (by omega) s (Or.inl rfl) (show 0 + 471 ≤ 471 by omega) v.1 S1) ?_
  rintro _ ⟨u2, rfl, w1, w2, w3⟩
  refine sl_41 (by omega) s v 1000 0 u2 rfl w1 (fun t ht => absurd ht (by omega)) fun u3 b1 b2 b3 => ?_
  refine sl_84 (by omega) s v 400 0 u3 rfl b1 (fun t ht => absurd ht (by omega)) fun u4 c1 c2 c3 => ?_
  refine sl_131 (by omega) s v D 0 u4 (by omega) c1 (fun t ht => absurd ht (by omega)) fun u5 e1 e2 e3 => ?_
  refine Or.inl ⟨rfl, u5, by rw [hrI_self], e1, e2 _ (c2 _ (b2 _ (w2 _ z1))), w3.mono ((b2.tr c2).tr e2), fun s' h1 h2 c hc e => (b3 s' h1 h2 c hc e).mono (c2.tr e2), fun b hb x hx => ?_, e3⟩
  obtain ⟨i, i1, i2, i3⟩ := c3 b hb x hx
  exact ⟨i, i1, i2, e2 i i3⟩
end MXLS
