/-! THE REFERENCE: variables, functions, files by name -/
section MXTB
variable {d : Nat} {h0 h : mxH} {w : spW} {G : List spE} {V : List (Option (Option Nat))} {P : List spX} {N : spN} {n m xs : Nat} {Q : mxRes → mxH → Prop}
def ixI (o : Option Nat) : Int32 := match o with
  | some i => nI i
  | none => -1
theorem tbF_some {β : Type} {l : List (Int64 × β)} {k : Int64} {i : Nat} (hi : i < l.length) (h1 : l[i].1 = k) (h2 : ∀ j (hj : j < l.length), j < i → l[j].1 ≠ k) : tbF l k = some i := by
  unfold tbF
  rw [List.findIdx?_eq_some_iff_getElem]
  exact ⟨hi, by simp [h1], fun j hj => by simp [h2 j (by omega) hj]⟩
theorem tbF_none {β : Type} {l : List (Int64 × β)} {k : Int64} (h : ∀ j (hj : j < l.length), l[j].1 ≠ k) : tbF l k = none := by
  unfold tbF
  rw [List.findIdx?_eq_none_iff]
  intro x hx
  obtain ⟨j, hj, rfl⟩ := List.getElem_of_mem hx
  simp [h j hj]
theorem tbF_at {β : Type} {l : List (Int64 × β)} {k : Int64} {i : Nat} (h : tbF l k = some i) : ∃ hi : i < l.length, l[i].1 = k := by
  unfold tbF at h
  rw [List.findIdx?_eq_some_iff_getElem] at h
  obtain ⟨h1, h2, -⟩ := h
  exact ⟨h1, by simpa using h2⟩
theorem vo_3 (hd : 1 ≤ d) (sr : SR h) {s : Nat} (hs : s < 1000) {β : Type} {l : List (Int64 × β)} {k : Int64} (h1 : hpI h 354 (83 * s) = nI l.length) (h2 : l.length ≤ 20) (h3 : ∀ j (hj : j < l.length), hpL h 355 (34 * s + j) = l[j].1) : ∀ m j, j + m = l.length → (∀ i (hi : i < l.length), i < j → l[i].1 ≠ k) →
    mx_SX mY_X12_variableOf d 3 [(0, .ref 320), (1, .int (nI s)), (2, .long k), (4, .int (nI j))] [] h (mx_xct (.inl (some (.int (ixI (tbF l k))))) h) := by
  intro m
  induction m with
  | zero =>
    intro j hj hl
    refine b_X12_variableOf_3 320 _ _ _ ⟨hd, sr_k sr, mx_xKI2 (k_X12_of (j := 0) sr (by omega)) ⟨fun _ => ?_, fun c => absurd ?_ c⟩⟩
    · rw [tbF_none (fun i hi => hl i hi (by omega))]; exact ⟨rfl, rfl⟩
    · rw [Nat.add_zero, h1]; exact nI_le (by omega) (by omega)
  | succ m ih =>
    intro j hj hl
    refine b_X12_variableOf_3 320 _ _ _ ⟨hd, sr_k sr, mx_xKI2 (k_X12_of (j := 0) sr (by omega)) ⟨fun c => absurd c ?_, fun _ => ⟨sr_k sr, mx_xKL2 (k_X12_nameOf sr (by omega)) ⟨fun c => ?_, fun c => ?_⟩⟩⟩⟩
    · rw [Nat.add_zero, h1]; exact nI_ge (by omega) (by omega)
    · rw [h3 j (by omega), lg_cmp_eq] at c
      rw [nI_1]
      exact ih (j + 1) (by omega) (fun i hi h => by
        by_cases e : i = j
        · subst e; exact c
        · exact hl i hi (by omega))
    · rw [h3 j (by omega), lg_cmp_eq] at c
      rw [tbF_some (by omega) c hl]
      exact ⟨rfl, rfl⟩
theorem k_X12_variableOf (hd : 1 ≤ d) {s : Nat} {S : spS} {js : List Nat} (r : RG h0 h w ((s, S, js) :: G) V P N n m xs) {k : Int64} : mx_SM mY_X12_variableOf d [.ref 320, .int (nI s), .long k] h (mx_xct (.inl (some (.int (ixI (tbF (fV S.1) k))))) h) := by
  obtain ⟨hs, rf, -⟩ := r.own
  refine b_X12_variableOf 320 _ _ (vo_3 hd r.sr hs (l := fV S.1) rf.1.1 rf.1.2.1 (fun j hj => (rf.1.2.2 j hj).1) _ 0 (Nat.zero_add _) (fun i hi h => absurd h (by omega)))
theorem fo_3 (hd : 1 ≤ d) (sr : SR h) {s : Nat} (hs : s < 1000) {β : Type} {l : List (Int64 × β)} {k : Int64} (h1 : hpI h 354 (83 * s + 21) = nI l.length) (h2 : l.length ≤ 10) (h3 : ∀ j (hj : j < l.length), hpL h 355 (34 * s + (20 + j)) = l[j].1) : ∀ m j, j + m = l.length → (∀ i (hi : i < l.length), i < j → l[i].1 ≠ k) →
    mx_SX mY_X12_functionOf d 3 [(0, .ref 320), (1, .int (nI s)), (2, .long k), (4, .int (nI j))] [] h (mx_xct (.inl (some (.int (ixI (tbF l k))))) h) := by
  intro m
  induction m with
  | zero =>
    intro j hj hl
    refine b_X12_functionOf_3 320 _ _ _ ⟨hd, sr_k sr, mx_xKI2 (k_X12_of (j := 21) sr (by omega)) ⟨fun _ => ?_, fun c => absurd ?_ c⟩⟩
    · rw [tbF_none (fun i hi => hl i hi (by omega))]; exact ⟨rfl, rfl⟩
    · rw [h1]; exact nI_le (by omega) (by omega)
  | succ m ih =>
    intro j hj hl
    refine b_X12_functionOf_3 320 _ _ _ ⟨hd, sr_k sr, mx_xKI2 (k_X12_of (j := 21) sr (by omega)) ⟨fun c => absurd c ?_, fun _ => ⟨sr_k sr, ?_⟩⟩⟩
    · rw [h1]; exact nI_ge (by omega) (by omega)
    · rw [show (20 : Int32) + nI j = nI (20 + j) from nI_add 20 j]
      refine mx_xKL2 (k_X12_nameOf sr (by omega)) ⟨fun c => ?_, fun c => ?_⟩
      · rw [h3 j (by omega), lg_cmp_eq] at c
        rw [nI_1]
        exact ih (j + 1) (by omega) (fun i hi h => by
          by_cases e : i = j
          · subst e; exact c
          · exact hl i hi (by omega))
      · rw [h3 j (by omega), lg_cmp_eq] at c
        rw [tbF_some (by omega) c hl]
        exact ⟨rfl, rfl⟩
theorem k_X12_functionOf (hd : 1 ≤ d) {s : Nat} {S : spS} {js : List Nat} (r : RG h0 h w ((s, S, js) :: G) V P N n m xs) {k : Int64} : mx_SM mY_X12_functionOf d [.ref 320, .int (nI s), .long k] h (mx_xct (.inl (some (.int (ixI (tbF (fU S.1) k))))) h) := by
  obtain ⟨hs, rf, -⟩ := r.own
  refine b_X12_functionOf 320 _ _ (fo_3 hd r.sr hs (l := fU S.1) rf.2.1.1 rf.2.1.2.1 (fun j hj => (rf.2.1.2.2 j hj).1) _ 0 (Nat.zero_add _) (fun i hi h => absurd h (by omega)))
theorem ff_2 (sr : SR h) {k : Int64} {β : Type} {l : List (Int64 × β)} (h1 : hpI h 342 0 = nI l.length) (h2 : l.length ≤ 8) (h3 : ∀ j (hj : j < l.length), hpL h 343 j = l[j].1) : ∀ m j, j + m = l.length → (∀ i (hi : i < l.length), i < j → l[i].1 ≠ k) →
    mx_SX mY_X12_fileOf d 2 [(0, .ref 320), (1, .long k), (3, .int (nI j))] [] h (mx_xct (.inl (some (.int (ixI (tbF l k))))) h) := by
  intro m
  induction m with
  | zero =>
    intro j hj hl
    refine b_X12_fileOf_2 320 _ _ ⟨sr_k sr, 342, sr_r56 sr, sr_k342 sr, by rw [sr_z342 sr]; exact vp_in_nI (n := 0) (by omega) (by omega), fun _ => ?_, fun c => absurd ?_ c⟩
    · rw [tbF_none (fun i hi => hl i hi (by omega))]; exact ⟨rfl, rfl⟩
    · rw [cl0, h1]; exact nI_le (by omega) (by omega)
  | succ m ih =>
    intro j hj hl
    refine b_X12_fileOf_2 320 _ _ ⟨sr_k sr, 342, sr_r56 sr, sr_k342 sr, by rw [sr_z342 sr]; exact vp_in_nI (n := 0) (by omega) (by omega), fun c => absurd c ?_, fun _ => ⟨343, sr_r57 sr, sr_k343 sr, by rw [sr_z343 sr]; exact vp_in_nI (by omega) (by omega), fun c => ?_, fun c => ?_⟩⟩
    · rw [cl0, h1]; exact nI_ge (by omega) (by omega)
    · rw [nI_clamp (by omega), h3 j (by omega), lg_cmp_eq] at c
      rw [nI_1]
      exact ih (j + 1) (by omega) (fun i hi h => by
        by_cases e : i = j
        · subst e; exact c
        · exact hl i hi (by omega))
    · rw [nI_clamp (by omega), h3 j (by omega), lg_cmp_eq] at c
      rw [tbF_some (by omega) c hl]
      exact ⟨rfl, rfl⟩
theorem k_X12_fileOf (r : RG h0 h w G V P N n m xs) {k : Int64} : mx_SM mY_X12_fileOf d [.ref 320, .long k] h (mx_xct (.inl (some (.int (ixI (tbF (wF w) k))))) h) := by
  have hw := r.rw1
  exact b_X12_fileOf 320 _ (ff_2 r.sr (l := wF w) hw.1.1 hw.1.2.1 (fun j hj => (hw.1.2.2 j hj).1) _ 0 (Nat.zero_add _) (fun i hi h => absurd h (by omega)))
theorem ixI_some {i : Nat} (hi : i < 2 ^ 31) : ¬ ixI (some i) = -1 := fun c => (nI_neg1 hi).mp c
/-- one more file -/
theorem RG.mkf (r : RG h0 h w G V P N n m xs) {k : Int64} (hl : (wF w).length < 8) : RG h0 (hsI (hsL (hsI h 342 0 (nI ((wF w).length + 1))) 343 (wF w).length k) 342 (1 + 41 * (wF w).length) 0) (uF w (wF w ++ [(k, [])])) G V P N n m xs := by
  have fk : ∀ j, j ≠ 0 → j ≠ 1 + 41 * (wF w).length → fup (fup (hpI h 342) 0 (nI ((wF w).length + 1))) (1 + 41 * (wF w).length) 0 j = hpI h 342 j := fun j j1 j2 => by rw [fup_n j2, fup_n j1]
  have f0 : fup (fup (hpI h 342) 0 (nI ((wF w).length + 1))) (1 + 41 * (wF w).length) 0 0 = nI ((wF w).length + 1) := by rw [fup_n (by omega), fup_e]
  have hw1 := r.rw1
  have := r.world (w' := uF w (wF w ++ [(k, [])])) (f := fup (fup (hpI h 342) 0 (nI ((wF w).length + 1))) (1 + 41 * (wF w).length) 0) (g := fup (hpL h 343) (wF w).length k) rfl rfl rfl rfl rfl rfl (by show _ ≤ (wF w ++ [(k, [])]).length; rw [List.length_append]; omega) (fun ln hw _ _ => by
    obtain ⟨⟨a1, a2, a3⟩, b, ⟨c1, c2, c3⟩, ⟨d1, d2, d3⟩⟩ := hw
    have ll : (wF w ++ [(k, ([] : List spL))]).length = (wF w).length + 1 := by rw [List.length_append]; rfl
    refine ⟨⟨by rw [f0]; show _ = nI (wF w ++ [(k, [])]).length; rw [ll], by show (wF w ++ [(k, [])]).length ≤ 8; rw [ll]; omega, fun i hi => ?_⟩, fun i i1 i2 => ?_, ⟨by rw [fk 329 (by omega) (by omega)]; exact c1, c2, fun k hk => by rw [fk _ (by omega) (by omega)]; exact c3 k hk⟩, ⟨by rw [fk 370 (by omega) (by omega)]; exact d1, d2, fun k hk => by rw [fk _ (by omega) (by omega)]; exact d3 k hk⟩⟩
    · have hi' : i < (wF w ++ [(k, [])]).length := hi
      show _ = (wF w ++ [(k, [])])[i].1 ∧ _ = nI (wF w ++ [(k, [])])[i].2.length ∧ (wF w ++ [(k, [])])[i].2.length ≤ 40 ∧ RLs ln _ _ (wF w ++ [(k, [])])[i].2
      by_cases e : i = (wF w).length
      · subst e
        rw [List.getElem_append_right (Nat.le_refl _)]
        simp only [Nat.sub_self, List.getElem_cons_zero]
        exact ⟨fup_e, fup_e, Nat.zero_le _, fun k hk => absurd hk (Nat.not_lt_zero _)⟩
      · have il : i < (wF w).length := by rw [ll] at hi'; omega
        rw [List.getElem_append_left il]
        obtain ⟨e1, e2, e3, e4⟩ := a3 i il
        refine ⟨by rw [fup_n e]; exact e1, by rw [fk _ (by omega) (by omega)]; exact e2, e3, fun k hk => ?_⟩
        have : k < 40 := Nat.lt_of_lt_of_le hk e3
        rw [fk _ (by omega) (by omega)]; exact e4 k hk
    · have i1' : (wF w).length + 1 ≤ i := by rw [← ll]; exact i1
      obtain ⟨l2, e1, e2, e3⟩ := b i (by omega) i2
      exact ⟨l2, by rw [fk _ (by omega) (by omega)]; exact e1, e2, fun k hk => by rw [fk _ (by omega) (by omega)]; exact e3 k hk⟩) (fun L hL _ _ => by
    obtain ⟨b1, b2, b3⟩ := hw1.cnt
    obtain ⟨a, b, c'⟩ := hL
    refine ⟨fun j hj k hk => ?_, fun k hk => ?_, fun k hk => ?_⟩
    · by_cases e : j = (wF w).length
      · rw [e, fup_e] at hk; exact absurd hk (Nat.not_lt_zero _)
      · obtain ⟨y, y1, y2⟩ := b1 j hj
        rw [fk _ (by omega) (by omega)] at hk
        have hk2 : k < y := by rw [y1, nI_clamp (by omega)] at hk; exact hk
        rw [fk _ (by omega) (by omega)]
        exact a j hj k hk
    · rw [fk _ (by omega) (by omega)] at hk; rw [fk _ (by omega) (by omega)]; exact b k hk
    · rw [fk _ (by omega) (by omega)] at hk; rw [fk _ (by omega) (by omega)]; exact c' k hk)
  have e : hsI (hsL (hsI h 342 0 (nI ((wF w).length + 1))) 343 (wF w).length k) 342 (1 + 41 * (wF w).length) 0 = hrL (hsI (hsI h 342 0 (nI ((wF w).length + 1))) 342 (1 + 41 * (wF w).length) 0) 343 (fup (hpL h 343) (wF w).length k) := rfl
  have e2 : hsI (hsI h 342 0 (nI ((wF w).length + 1))) 342 (1 + 41 * (wF w).length) 0 = hrI h 342 (fup (fup (hpI h 342) 0 (nI ((wF w).length + 1))) (1 + 41 * (wF w).length) 0) := hsI_hrI
  rw [e, e2]
  exact this
theorem k_X12_makes (hd : 1 ≤ d) (r : RG h0 h w G V P N n m xs) {k : Int64} : mx_SM mY_X12_makes d [.ref 320, .long k] h (mx_KI (fun v h1 => match mkF w k with
      | none => v = -1 ∧ RG h0 h1 w G V P N n m xs
      | some (i, w1) => v = nI i ∧ i < (wF w1).length ∧ i < 8 ∧ RG h0 h1 w1 G V P N n m xs ∧ hpI h1 354 = hpI h 354 ∧ hpI h1 352 = hpI h 352) fun _ _ => False) := by
  have s := r.sr
  have hw := r.rw1
  have I2 : ∀ b, b ≠ 342 → ∀ {i j : Nat} {v : Int32} {v2 : Int64}, hpI (hsL (hsI h 342 i v) 343 j v2) b = hpI h b := fun b hb i j v v2 => by
    show hpI (hsI h 342 i v) b = _
    exact hpI_sIo hb
  refine b_X12_makes 320 _ ⟨hd, sr_k s, mx_xKI2 (k_X12_fileOf r) ?_⟩
  unfold mkF
  cases e : tbF (wF w) k with
  | some i =>
    obtain ⟨hi, -⟩ := tbF_at e
    have := hw.1.2.1
    refine ⟨fun _ => Or.inl ⟨_, rfl, rfl, hi, by omega, r, rfl, rfl⟩, fun c => absurd c (ixI_some (by omega))⟩
  | none =>
    refine ⟨fun c => absurd rfl c, fun _ => ⟨sr_k s, 342, sr_r56 s, sr_k342 s, by rw [sr_z342 s]; exact vp_in_nI (n := 0) (by omega) (by omega), ?_⟩⟩
    rw [cl0, hw.1.1]
    have h8 := hw.1.2.1
    refine ⟨fun c => ?_, fun c => ?_⟩
    · have lt : (wF w).length < 8 := by
        rcases Nat.lt_or_ge (wF w).length 8 with g | g
        · exact g
        · have : (wF w).length = 8 := by omega
          rw [this] at c; exact absurd rfl c
      rintro _ rfl
      refine ⟨343, sr_r57 s, sr_k343 s, by show vp_in _ (hpZ h 343); rw [sr_z343 s]; exact vp_in_nI lt (by omega), ?_⟩
      rintro _ rfl
      refine ⟨342, sr_r56 s, sr_k342 s, ?_⟩
      simp (disch := omega) only [nI_lit, pk_mul, nI_add, nI_clamp]
      refine ⟨by show vp_in _ (hpZ h 342); rw [sr_z342 s]; exact vp_in_nI (by omega) (by omega), ?_⟩
      rintro _ rfl
      refine Or.inl ⟨_, rfl, ?_⟩
      have h9 : ¬ 8 ≤ (wF w).length := by omega
      simp only [if_neg h9]
      refine ⟨by trivial, ?_, lt, r.mkf lt, ?_, ?_⟩
      · show _ < (wF w ++ [(k, [])]).length
        rw [List.length_append]; simp
      · rw [hpI_sIo (by decide)]; exact I2 354 (by decide)
      · rw [hpI_sIo (by decide)]; exact I2 352 (by decide)
    · have : (wF w).length = 8 := (nI_eq (b := 8) (by omega) (by omega)).mp c
      refine Or.inl ⟨_, rfl, ?_⟩
      have h9 : 8 ≤ (wF w).length := by omega
      simp only [if_pos h9]
      exact ⟨rfl, r⟩
end MXTB
