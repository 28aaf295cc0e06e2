/-! THE REFERENCE'S OPEN FILES: sweeping, the machine's side -/
section MXOP
variable {d : Nat} {h : mxH} {Q : mxRes → mxH → Prop} {L : Int32 → Prop}
/-- marks so far; what may be held -/
def MoS (L : Int32 → Prop) (u : Nat → Int32) : Prop := ∀ i, i < 4000 → u i = 0 ∨ (u i = 1 ∧ L (nI i))
def Vo (L : Int32 → Prop) (v : Int32) : Prop := v = -1 ∨ ∃ o, v = nI o ∧ o < 4000 ∧ L (nI o)
def Mo (u : Nat → Int32) (v : Int32) : Prop := ∀ o, v = nI o → o < 4000 → u o = 1
theorem MoS.up {u : Nat → Int32} {i : Nat} (m : MoS L u) (hl : L (nI i)) : MoS L (fup u i 1) := fun j hj => by
  by_cases c : j = i
  · rw [c, fup_e]; exact Or.inr ⟨rfl, hl⟩
  · rw [fup_n c]; exact m j hj
theorem Mo.mono {u u' : Nat → Int32} {v : Int32} (a : Mo u v) (m : MkL u u') : Mo u' v := fun o e ho => m o (a o e ho)
def VO (L : Int32 → Prop) (h : mxH) (V : Nat) : Prop := (∀ s, s < 1000 → hpI h 354 (83 * s + 82) = 1 → ∀ k, k < 10 → Vo L (hpI h 354 (83 * s + 36 + k))) ∧ (hpI h 320 69 = nI V ∧ V ≤ 8000 ∧ ∀ k, k < V → Vo L (hpI h 352 k))
def MO (u : Nat → Int32) (h : mxH) (V : Nat) : Prop := (∀ s, s < 1000 → hpI h 354 (83 * s + 82) = 1 → ∀ k, k < 10 → Mo u (hpI h 354 (83 * s + 36 + k))) ∧ ∀ k, k < V → Mo u (hpI h 352 k)
theorem so_2 (s : SR h) : ∀ m k u, k + m = 4000 → (∀ i, i < k → u i = 0) →
    (∀ u', (∀ i, i < 4000 → u' i = 0) → mx_SX mY_X12_sweepsOpen d 24 [(0, .ref 320), (1, .int (nI 0))] [] (hrI h 353 u') Q) →
    mx_SX mY_X12_sweepsOpen d 2 [(0, .ref 320), (1, .int (nI k))] [] (hrI h 353 u) Q := by
  intro m
  induction m with
  | zero =>
    intro k u hk hu K
    have e : k = 4000 := by omega
    subst e
    refine b_X12_sweepsOpen_2 320 _ ?_
    simp (disch := omega) only [nI_lit, nI_leI]
    exact ⟨fun _ => K u hu, fun q => absurd (by omega) q⟩
  | succ m ih =>
    intro k u hk hu K
    refine b_X12_sweepsOpen_2 320 _ ?_
    simp (disch := omega) only [nI_lit, nI_leI]
    refine ⟨fun q => absurd q (by omega), fun _ => ⟨sr_k s, 353, sr_r70 s, sr_k353 s, ?_⟩⟩
    simp (disch := omega) only [hpZ_rI, sr_z353 s, vpT, true_and, nI_clamp, hsI_hrI, forall_eq, an01, nI_add]
    refine ih (k + 1) _ (by omega) (fun i hi => ?_) K
    by_cases e : i = k
    · rw [e, fup_e]; rfl
    · rw [fup_n e]; exact hu i (by omega)
theorem so_33 (hd : 1 ≤ d) (s : SR h) {V t : Nat} (v : VO L h V) (ht : t < 1000) (hl : hpI h 354 (83 * t + 82) = 1) : ∀ m k u, k + m = 10 → MoS L u → (∀ j, j < k → Mo u (hpI h 354 (83 * t + 36 + j))) →
    (∀ u', MoS L u' → MkL u u' → (∀ j, j < 10 → Mo u' (hpI h 354 (83 * t + 36 + j))) → mx_SX mY_X12_sweepsOpen d 24 [(0, .ref 320), (1, .int (nI (t + 1)))] [] (hrI h 353 u') Q) →
    mx_SX mY_X12_sweepsOpen d 33 [(0, .ref 320), (1, .int (nI t)), (2, .int (nI k))] [] (hrI h 353 u) Q := by
  intro m
  induction m with
  | zero =>
    intro k u hk hS hu K
    have e : k = 10 := by omega
    subst e
    refine b_X12_sweepsOpen_33 320 _ _ ?_
    simp (disch := omega) only [nI_lit, nI_leI]
    refine ⟨fun _ => b_X12_sweepsOpen_83 320 _ ?_, fun q => absurd (by omega) q⟩
    rw [nI_1]
    exact K u hS (fun _ q => q) hu
  | succ m ih =>
    intro k u hk hS hu K
    refine b_X12_sweepsOpen_33 320 _ _ ?_
    simp (disch := omega) only [nI_lit, nI_leI]
    refine ⟨fun q => absurd q (by omega), fun _ => ⟨sr_k s, 354, sr_r71 s, sr_k354 s, ?_⟩⟩
    simp (disch := omega) only [hpZ_rI, sr_z354 s, pk_mul, nI_add, vpT, true_and, nI_clamp, hpI_rI, Nat.reduceEqDiff, if_false]
    refine ⟨fun c => absurd hl c, fun _ => ⟨hd, mx_xKI2 (k_X12_handle (h := hrI h 353 u) s ht (by omega)) ?_⟩⟩
    rw [hpI_rI, if_neg (by decide)]
    have fin : ∀ u', MoS L u' → MkL u u' → Mo u' (hpI h 354 (83 * t + 36 + k)) → mx_SX mY_X12_sweepsOpen d 77 [(0, .ref 320), (1, .int (nI t)), (2, .int (nI k))] [] (hrI h 353 u') Q := fun u' w1 w2 w3 => by
      refine b_X12_sweepsOpen_77 320 _ _ ?_
      rw [nI_1]
      refine ih (k + 1) u' (by omega) w1 (fun j hj => ?_) fun u2 y1 y2 y3 => K u2 y1 (w2.tr y2) y3
      by_cases e : j = k
      · rw [e]; exact w3
      · exact (hu j (by omega)).mono w2
    rcases v.1 t ht hl k (by omega) with q | ⟨o, q1, q2, q3⟩
    · refine ⟨fun _ => fin u hS (fun _ q => q) fun o e ho => absurd (e.symm.trans q) fun e => (nI_neg1 (by omega)).mp e, fun c => absurd q c⟩
    · rw [q1]
      refine ⟨fun c => absurd c fun c => (nI_neg1 (by omega)).mp c, fun _ => ⟨sr_k s, 353, sr_r70 s, mx_xKI2 (k_X12_handle (h := hrI h 353 u) s ht (by omega)) ?_⟩⟩
      rw [hpI_rI, if_neg (by decide), q1]
      simp (disch := omega) only [hpK_rI, sr_k353 s, hpZ_rI, sr_z353 s, vpT, true_and, nI_clamp, hsI_hrI, forall_eq, an11]
      refine fin _ (hS.up q3) MkL.up fun o' e ho' => ?_
      rw [q1] at e
      have : o = o' := (nI_eq (by omega) (by omega)).mp e
      rw [← this]; exact fup_e
theorem so_24 (hd : 1 ≤ d) (s : SR h) {V : Nat} (v : VO L h V) : ∀ m t u, t + m = 1000 → MoS L u → (∀ t', t' < t → hpI h 354 (83 * t' + 82) = 1 → ∀ j, j < 10 → Mo u (hpI h 354 (83 * t' + 36 + j))) →
    (∀ u', MoS L u' → MkL u u' → (∀ t', t' < 1000 → hpI h 354 (83 * t' + 82) = 1 → ∀ j, j < 10 → Mo u' (hpI h 354 (83 * t' + 36 + j))) → mx_SX mY_X12_sweepsOpen d 91 [(0, .ref 320), (1, .int (nI 0))] [] (hrI h 353 u') Q) →
    mx_SX mY_X12_sweepsOpen d 24 [(0, .ref 320), (1, .int (nI t))] [] (hrI h 353 u) Q := by
  intro m
  induction m with
  | zero =>
    intro t u hk hS hu K
    have e : t = 1000 := by omega
    subst e
    refine b_X12_sweepsOpen_24 320 _ ?_
    simp (disch := omega) only [nI_lit, nI_leI]
    exact ⟨fun _ => K u hS (fun _ q => q) hu, fun q => absurd (by omega) q⟩
  | succ m ih =>
    intro t u hk hS hu K
    refine b_X12_sweepsOpen_24 320 _ ?_
    simp (disch := omega) only [nI_lit, nI_leI]
    refine ⟨fun q => absurd q (by omega), fun _ => ?_⟩
    by_cases hl : hpI h 354 (83 * t + 82) = 1
    · refine so_33 hd s v (by omega) hl 10 0 u rfl hS (fun j hj => absurd hj (by omega)) fun u' w1 w2 w3 => ?_
      refine ih (t + 1) u' (by omega) w1 (fun t' ht' hl' j hj => ?_) fun u2 y1 y2 y3 => K u2 y1 (w2.tr y2) y3
      by_cases e : t' = t
      · rw [e]; exact w3 j hj
      · exact (hu t' (by omega) hl' j hj).mono w2
    · refine b_X12_sweepsOpen_33 320 _ _ ?_
      simp (disch := omega) only [nI_lit, nI_leI]
      refine ⟨fun q => absurd q (by omega), fun _ => ⟨sr_k s, 354, sr_r71 s, sr_k354 s, ?_⟩⟩
      simp (disch := omega) only [hpZ_rI, sr_z354 s, pk_mul, nI_add, vpT, true_and, nI_clamp, hpI_rI, Nat.reduceEqDiff, if_false]
      refine ⟨fun _ => b_X12_sweepsOpen_83 320 _ ?_, fun c => absurd c hl⟩
      rw [nI_1]
      refine ih (t + 1) u (by omega) hS (fun t' ht' hl' j hj => ?_) K
      by_cases e : t' = t
      · rw [e] at hl'; exact absurd hl' hl
      · exact hu t' (by omega) hl' j hj
theorem so_91 (s : SR h) {V : Nat} (v : VO L h V) : ∀ m k u, k + m = V → MoS L u → (∀ j, j < k → Mo u (hpI h 352 j)) →
    (∀ u', MoS L u' → MkL u u' → (∀ j, j < V → Mo u' (hpI h 352 j)) → mx_SX mY_X12_sweepsOpen d 129 [(0, .ref 320), (1, .int (nI 0))] [] (hrI h 353 u') Q) →
    mx_SX mY_X12_sweepsOpen d 91 [(0, .ref 320), (1, .int (nI k))] [] (hrI h 353 u) Q := by
  obtain ⟨-, v1, v2, v3⟩ := v
  intro m
  induction m with
  | zero =>
    intro k u hk hS hu K
    have e : k = V := by omega
    subst e
    refine b_X12_sweepsOpen_91 320 _ ⟨sr_k s, ?_⟩
    simp (disch := omega) only [hpI_rI, Nat.reduceEqDiff, if_false, v1, nI_leI]
    exact ⟨fun _ => K u hS (fun _ q => q) hu, fun q => absurd (by omega) q⟩
  | succ m ih =>
    intro k u hk hS hu K
    refine b_X12_sweepsOpen_91 320 _ ⟨sr_k s, ?_⟩
    simp (disch := omega) only [hpI_rI, Nat.reduceEqDiff, if_false, v1, nI_leI]
    refine ⟨fun q => absurd q (by omega), fun _ => ⟨352, sr_r68 s, sr_k352 s, ?_⟩⟩
    simp (disch := omega) only [hpZ_rI, sr_z352 s, vpT, true_and, nI_clamp, hpI_rI, Nat.reduceEqDiff, if_false]
    have fin : ∀ u', MoS L u' → MkL u u' → Mo u' (hpI h 352 k) → mx_SX mY_X12_sweepsOpen d 121 [(0, .ref 320), (1, .int (nI k))] [] (hrI h 353 u') Q := fun u' w1 w2 w3 => by
      refine b_X12_sweepsOpen_121 320 _ ?_
      rw [nI_1]
      refine ih (k + 1) u' (by omega) w1 (fun j hj => ?_) fun u2 y1 y2 y3 => K u2 y1 (w2.tr y2) y3
      by_cases e : j = k
      · rw [e]; exact w3
      · exact (hu j (by omega)).mono w2
    rcases v3 k (by omega) with q | ⟨o, q1, q2, q3⟩
    · refine ⟨fun _ => fin u hS (fun _ q => q) fun o e ho => absurd (e.symm.trans q) fun e => (nI_neg1 (by omega)).mp e, fun c => absurd q c⟩
    · rw [q1]
      refine ⟨fun c => absurd c fun c => (nI_neg1 (by omega)).mp c, fun _ => ⟨353, sr_r70 s, sr_k353 s, ?_⟩⟩
      simp (disch := omega) only [sr_z353 s, vpT, true_and, nI_clamp, nI_lit, hsI_hrI, forall_eq, an11]
      refine fin _ (hS.up q3) MkL.up fun o' e ho' => ?_
      rw [q1] at e
      have : o = o' := (nI_eq (by omega) (by omega)).mp e
      rw [← this]; exact fup_e
/-- marks u, kinds k -/
def opS (h : mxH) (u k : Nat → Int32) : mxH := hrI (hrI h 353 u) 344 k
theorem so_129 (s : SR h) {u : Nat → Int32} : ∀ m j k, j + m = 4000 → (∀ i, i < j → k i = if u i = 0 then 0 else hpI h 344 i) → (∀ i, j ≤ i → k i = hpI h 344 i) →
    (∀ k', (∀ i, i < 4000 → k' i = if u i = 0 then 0 else hpI h 344 i) → Q (.inl none) (opS h u k')) →
    mx_SX mY_X12_sweepsOpen d 129 [(0, .ref 320), (1, .int (nI j))] [] (opS h u k) Q := by
  intro m
  induction m with
  | zero =>
    intro j k hj h1 h2 K
    have e : j = 4000 := by omega
    subst e
    refine b_X12_sweepsOpen_129 320 _ ?_
    simp (disch := omega) only [nI_lit, nI_leI]
    exact ⟨fun _ => K k h1, fun q => absurd (by omega) q⟩
  | succ m ih =>
    intro j k hj h1 h2 K
    refine b_X12_sweepsOpen_129 320 _ ?_
    simp (disch := omega) only [nI_lit, nI_leI]
    refine ⟨fun q => absurd q (by omega), fun _ => ⟨sr_k s, 353, sr_r70 s, sr_k353 s, ?_⟩⟩
    have e353 : hpI (opS h u k) 353 = u := by rw [opS, hpI_rI, if_neg (by decide), hpI_rIs]
    rw [e353]
    simp (disch := omega) only [nI_clamp]
    refine ⟨by show vp_in _ (hpZ h 353); rw [sr_z353 s]; exact vp_in_nI (by omega) (by omega), fun c => ?_, fun c => ⟨344, sr_r58 s, sr_k344 s, by show vp_in _ (hpZ h 344); rw [sr_z344 s]; exact vp_in_nI (by omega) (by omega), ?_⟩⟩
    · refine b_X12_sweepsOpen_152 320 _ ?_
      rw [nI_1]
      refine ih (j + 1) k (by omega) (fun i hi => ?_) (fun i hi => h2 i (by omega)) K
      by_cases e : i = j
      · rw [e, if_neg (show ¬ u j = (0 : Int32) from c)]; exact h2 j (by omega)
      · exact h1 i (by omega)
    · rintro _ rfl
      refine b_X12_sweepsOpen_152 320 _ ?_
      rw [nI_1]
      have e : hsI (opS h u k) 344 j (nI 0) = opS h u (fup k j (nI 0)) := hsI_hrI
      rw [e]
      refine ih (j + 1) _ (by omega) (fun i hi => ?_) (fun i hi => ?_) K
      · by_cases e : i = j
        · rw [e, fup_e, if_pos (show u j = (0 : Int32) from c)]; rfl
        · rw [fup_n e]; exact h1 i (by omega)
      · rw [fup_n (by omega)]; exact h2 i (by omega)
theorem k_X12_sweepsOpen (hd : 2 ≤ d) (s : SR h) {V : Nat} (v : VO L h V) : mx_SM mY_X12_sweepsOpen d [.ref 320] h (mx_KV (fun h' => ∃ u k, h' = opS h u k ∧ MoS L u ∧ MO u h V ∧ ∀ i, i < 4000 → k i = if u i = 0 then 0 else hpI h 344 i) fun _ _ => False) := by
  refine b_X12_sweepsOpen 320 ?_
  rw [← hrI_self (h := h) (a := 353)]
  refine so_2 s 4000 0 _ rfl (fun i hi => absurd hi (by omega)) fun u1 a1 => ?_
  refine so_24 (L := L) (by omega) s v 1000 0 u1 rfl (fun i hi => Or.inl (a1 i hi)) (fun t ht => absurd ht (by omega)) fun u2 b1 b2 b3 => ?_
  refine so_91 (L := L) s v V 0 u2 (by omega) b1 (fun t ht => absurd ht (by omega)) fun u3 c1 c2 c3 => ?_
  have e : hrI h 353 u3 = opS h u3 (hpI h 344) := by
    show _ = hrI (hrI h 353 u3) 344 (hpI h 344)
    rw [show hpI h 344 = hpI (hrI h 353 u3) 344 by rw [hpI_rI, if_neg (by decide)], hrI_self]
  rw [e]
  refine so_129 s 4000 0 _ rfl (fun i hi => absurd hi (by omega)) (fun i _ => rfl) fun k' k1 => ?_
  refine Or.inl ⟨rfl, u3, k', by rw [hrI_self], c1, ⟨fun t ht hl j hj => (b3 t ht hl j hj).mono c2, c3⟩, k1⟩
end MXOP
