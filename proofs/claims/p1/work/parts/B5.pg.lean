/-! THE CODE IN THE CLASS'S CELLS: what Program answers -/
section MXPG2
variable {h : mxH} {D : pmC} {g d c i q : Nat}
/-- a Program's place: 289 or 304 -/
def PBr : List (Nat × Nat) := [(0, 1), (1, 2), (2, 3), (4, 4), (5, 5), (6, 6), (7, 7), (8, 8), (9, 9), (10, 10), (12, 11), (13, 12), (15, 13), (16, 14)]
def PB (h : mxH) (g : Nat) : Prop := hpK h g = 7 ∧ (∀ t ∈ PBr, hpR h g t.1 = some (g + t.2)) ∧ (∀ j, 1 ≤ j → j ≤ 3 → hpK h (g + j) = 14 ∧ hpZ h (g + j) = 2801) ∧ ∀ j, 4 ≤ j → j ≤ 14 → hpK h (g + j) = (if j = 6 ∨ j = 12 ∨ j = 14 then 15 else 14) ∧ hpZ h (g + j) = 700
theorem SC.pb (s : SC h) (hg : g = 289 ∨ g = 304) : PB h g := by
  rcases hg with rfl | rfl
  · refine ⟨sc_k289 s, fun t ht => ?_, fun j h1 h2 => ?_, fun j h1 h2 => ?_⟩
    · have : ∀ t ∈ PBr, (289, t.1, 289 + t.2) ∈ scF := by decide
      exact s.2.2.1 _ (this t ht)
    · have : ∀ j, 1 ≤ j → j ≤ 3 → (289 + j, 14, 2801) ∈ scO := by
        intro j h1 h2
        have : j = 1 ∨ j = 2 ∨ j = 3 := by omega
        rcases this with rfl | rfl | rfl <;> decide
      exact s.2.1 _ (this j h1 h2)
    · have : ∀ j, 4 ≤ j → j ≤ 14 → (289 + j, (if j = 6 ∨ j = 12 ∨ j = 14 then 15 else 14), 700) ∈ scO := by
        intro j h1 h2
        have : j = 4 ∨ j = 5 ∨ j = 6 ∨ j = 7 ∨ j = 8 ∨ j = 9 ∨ j = 10 ∨ j = 11 ∨ j = 12 ∨ j = 13 ∨ j = 14 := by omega
        rcases this with rfl | rfl | rfl | rfl | rfl | rfl | rfl | rfl | rfl | rfl | rfl <;> decide
      exact s.2.1 _ (this j h1 h2)
  · refine ⟨sc_k304 s, fun t ht => ?_, fun j h1 h2 => ?_, fun j h1 h2 => ?_⟩
    · have : ∀ t ∈ PBr, (304, t.1, 304 + t.2) ∈ scF := by decide
      exact s.2.2.1 _ (this t ht)
    · have : ∀ j, 1 ≤ j → j ≤ 3 → (304 + j, 14, 2801) ∈ scO := by
        intro j h1 h2
        have : j = 1 ∨ j = 2 ∨ j = 3 := by omega
        rcases this with rfl | rfl | rfl <;> decide
      exact s.2.1 _ (this j h1 h2)
    · have : ∀ j, 4 ≤ j → j ≤ 14 → (304 + j, (if j = 6 ∨ j = 12 ∨ j = 14 then 15 else 14), 700) ∈ scO := by
        intro j h1 h2
        have : j = 4 ∨ j = 5 ∨ j = 6 ∨ j = 7 ∨ j = 8 ∨ j = 9 ∨ j = 10 ∨ j = 11 ∨ j = 12 ∨ j = 13 ∨ j = 14 := by omega
        rcases this with rfl | rfl | rfl | rfl | rfl | rfl | rfl | rfl | rfl | rfl | rfl <;> decide
      exact s.2.1 _ (this j h1 h2)
/-- the rows hold the code: nc commands, na arguments; the first argument, redirection of a command -/
def PD (D : pmC) (I : Nat → Nat → Int32) (L : Nat → Nat → Int64) (g : Nat) (nc na : Nat) (fa fd : Nat → Nat) : Prop :=
  (kZ D ≤ 2801 ∧ I g 3 = nI (kZ D) ∧ ∀ p, p < kZ D → I (g + 1) p = nI (kSt D p) ∧ kSt D p ≤ 21 ∧ I (g + 2) p = nI (kOp D p) ∧ kOp D p < 2 ^ 31 ∧ I (g + 3) p = nI (kTg D p) ∧ kTg D p < 2 ^ 31) ∧
  (nc ≤ 700 ∧ I g 11 = nI nc ∧ ∀ c, c < nc → I (g + 4) c = kKd D c ∧ I (g + 5) c = kOf D c ∧ L (g + 6) c = kNm D c) ∧
  (na ≤ 700 ∧ I g 14 = nI na ∧ ∀ c, c < nc → I (g + 8) c = nI (kAr D c).length ∧ fa c + (kAr D c).length ≤ na ∧ (kAr D c ≠ [] → I (g + 7) c = nI (fa c)) ∧ ∀ i (hi : i < (kAr D c).length), I (g + 11) (fa c + i) = nI (kAr D c)[i].1 ∧ (kAr D c)[i].1 ≤ 2 ∧ L (g + 12) (fa c + i) = (kAr D c)[i].2) ∧
  (∀ c, c < nc → I (g + 10) c = nI (kRd D c).length ∧ fd c + (kRd D c).length ≤ 700 ∧ (kRd D c ≠ [] → I (g + 9) c = nI (fd c)) ∧ ∀ i (hi : i < (kRd D c).length), I (g + 13) (fd c + i) = nI (10 * (kRd D c)[i].1 + (kRd D c)[i].2.1) ∧ (kRd D c)[i].1 ≤ 4 ∧ (kRd D c)[i].2.1 < 10 ∧ L (g + 14) (fd c + i) = (kRd D c)[i].2.2) ∧
  ∀ p, p < kZ D → kSt D p = 1 ∨ kSt D p = 2 ∨ kSt D p = 3 ∨ kSt D p = 4 ∨ kSt D p = 5 → kOp D p < nc
variable {nc na : Nat} {fa fd : Nat → Nat}
theorem p_isPlace (b : PB h g) (s : PD D (hpI h) (hpL h) g nc na fa fd) (hq : q < kZ D) : mx_SM mY_X7_isPlace d [.ref g, .int (nI q)] h (mx_xct (.inl (some (.int 1))) h) := by
  obtain ⟨⟨s1, s2, s3⟩, -⟩ := s
  refine b_X7_isPlace g (nI q) ⟨fun c => absurd c (nI_pos (by omega)), fun _ => ⟨b.1, ?_⟩⟩
  rw [s2]
  exact ⟨fun c => absurd c (nI_ge hq (by omega)), fun _ => ⟨fun c => absurd c (show ¬ nI 2801 ≤ nI q from nI_ge (by omega) (by omega)), fun _ => ⟨rfl, rfl⟩⟩⟩
theorem p_isCommand (b : PB h g) (s : PD D (hpI h) (hpL h) g nc na fa fd) (hc : c < nc) : mx_SM mY_X7_isCommand d [.ref g, .int (nI c)] h (mx_xct (.inl (some (.int 1))) h) := by
  obtain ⟨-, ⟨s1, s2, s3⟩, -⟩ := s
  refine b_X7_isCommand g (nI c) ⟨fun c => absurd c (nI_pos (by omega)), fun _ => ⟨b.1, ?_⟩⟩
  rw [s2]
  exact ⟨fun e => absurd e (nI_ge hc (by omega)), fun _ => ⟨fun e => absurd e (show ¬ nI 700 ≤ nI c from nI_ge (by omega) (by omega)), fun _ => ⟨rfl, rfl⟩⟩⟩
theorem p_end (b : PB h g) (s : PD D (hpI h) (hpL h) g nc na fa fd) (hz : 0 < kZ D) : mx_SM mY_X7_end d [.ref g] h (mx_xct (.inl (some (.int (nI (kZ D - 1))))) h) := by
  obtain ⟨⟨s1, s2, s3⟩, -⟩ := s
  refine b_X7_end g ⟨b.1, ?_⟩
  rw [s2]
  obtain ⟨m, e⟩ : ∃ m, kZ D = m + 1 := ⟨kZ D - 1, by omega⟩
  rw [e, nI_pred]
  exact ⟨rfl, rfl⟩
theorem p_stepAt (hd : 1 ≤ d) (b : PB h g) (s : PD D (hpI h) (hpL h) g nc na fa fd) (hq : q < kZ D) : mx_SM mY_X7_stepAt d [.ref g, .int (nI q)] h (mx_xct (.inl (some (.int (nI (kSt D q))))) h) := by
  have e := (s.1.2.2 q hq).1
  have lz := s.1.1
  refine b_X7_stepAt g (nI q) ⟨hd, b.1, mx_xKI2 (p_isPlace b s hq) ⟨fun c => absurd c (by decide), fun _ => ⟨b.1, g + 1, b.2.1 (0, 1) (by decide), (b.2.2.1 1 (by decide) (by decide)).1, by rw [(b.2.2.1 1 (by decide) (by decide)).2]; exact vp_in_nI (by omega) (by omega), ?_⟩⟩⟩
  rw [nI_clamp (by omega), e]
  exact ⟨rfl, rfl⟩
theorem p_operandAt (hd : 1 ≤ d) (b : PB h g) (s : PD D (hpI h) (hpL h) g nc na fa fd) (hq : q < kZ D) : mx_SM mY_X7_operandAt d [.ref g, .int (nI q)] h (mx_xct (.inl (some (.int (nI (kOp D q))))) h) := by
  have e := (s.1.2.2 q hq).2.2.1
  have lz := s.1.1
  refine b_X7_operandAt g (nI q) ⟨hd, b.1, mx_xKI2 (p_isPlace b s hq) ⟨fun c => absurd c (by decide), fun _ => ⟨b.1, g + 2, b.2.1 (1, 2) (by decide), (b.2.2.1 2 (by decide) (by decide)).1, by rw [(b.2.2.1 2 (by decide) (by decide)).2]; exact vp_in_nI (by omega) (by omega), ?_⟩⟩⟩
  rw [nI_clamp (by omega), e]
  exact ⟨rfl, rfl⟩
theorem p_targetAt (hd : 1 ≤ d) (b : PB h g) (s : PD D (hpI h) (hpL h) g nc na fa fd) (hq : q < kZ D) : mx_SM mY_X7_targetAt d [.ref g, .int (nI q)] h (mx_xct (.inl (some (.int (nI (kTg D q))))) h) := by
  have e := (s.1.2.2 q hq).2.2.2.2.1
  have lz := s.1.1
  refine b_X7_targetAt g (nI q) ⟨hd, b.1, mx_xKI2 (p_isPlace b s hq) ⟨fun c => absurd c (by decide), fun _ => ⟨b.1, g + 3, b.2.1 (2, 3) (by decide), (b.2.2.1 3 (by decide) (by decide)).1, by rw [(b.2.2.1 3 (by decide) (by decide)).2]; exact vp_in_nI (by omega) (by omega), ?_⟩⟩⟩
  rw [nI_clamp (by omega), e]
  exact ⟨rfl, rfl⟩
theorem p_kindOf (hd : 1 ≤ d) (b : PB h g) (s : PD D (hpI h) (hpL h) g nc na fa fd) (hc : c < nc) : mx_SM mY_X7_kindOf d [.ref g, .int (nI c)] h (mx_xct (.inl (some (.int (kKd D c)))) h) := by
  have e := (s.2.1.2.2 c hc).1
  have lc := s.2.1.1
  refine b_X7_kindOf g (nI c) ⟨hd, b.1, mx_xKI2 (p_isCommand b s hc) ⟨fun c => absurd c (by decide), fun _ => ⟨b.1, g + 4, b.2.1 (4, 4) (by decide), (b.2.2.2 4 (by decide) (by decide)).1, by rw [(b.2.2.2 4 (by decide) (by decide)).2]; exact vp_in_nI (by omega) (by omega), ?_⟩⟩⟩
  rw [nI_clamp (by omega), e]
  exact ⟨rfl, rfl⟩
theorem p_offsetOf (hd : 1 ≤ d) (b : PB h g) (s : PD D (hpI h) (hpL h) g nc na fa fd) (hc : c < nc) : mx_SM mY_X7_offsetOf d [.ref g, .int (nI c)] h (mx_xct (.inl (some (.int (kOf D c)))) h) := by
  have e := (s.2.1.2.2 c hc).2.1
  have lc := s.2.1.1
  refine b_X7_offsetOf g (nI c) ⟨hd, b.1, mx_xKI2 (p_isCommand b s hc) ⟨fun c => absurd c (by decide), fun _ => ⟨b.1, g + 5, b.2.1 (5, 5) (by decide), (b.2.2.2 5 (by decide) (by decide)).1, by rw [(b.2.2.2 5 (by decide) (by decide)).2]; exact vp_in_nI (by omega) (by omega), ?_⟩⟩⟩
  rw [nI_clamp (by omega), e]
  exact ⟨rfl, rfl⟩
theorem p_nameOf (hd : 1 ≤ d) (b : PB h g) (s : PD D (hpI h) (hpL h) g nc na fa fd) (hc : c < nc) : mx_SM mY_X7_nameOf d [.ref g, .int (nI c)] h (mx_xct (.inl (some (.long (kNm D c)))) h) := by
  have e := (s.2.1.2.2 c hc).2.2
  have lc := s.2.1.1
  refine b_X7_nameOf g (nI c) ⟨hd, b.1, mx_xKI2 (p_isCommand b s hc) ⟨fun c => absurd c (by decide), fun _ => ⟨b.1, g + 6, b.2.1 (6, 6) (by decide), (b.2.2.2 6 (by decide) (by decide)).1, by rw [(b.2.2.2 6 (by decide) (by decide)).2]; exact vp_in_nI (by omega) (by omega), ?_⟩⟩⟩
  rw [nI_clamp (by omega), e]
  exact ⟨rfl, rfl⟩
theorem p_argumentsOf (hd : 1 ≤ d) (b : PB h g) (s : PD D (hpI h) (hpL h) g nc na fa fd) (hc : c < nc) : mx_SM mY_X7_argumentsOf d [.ref g, .int (nI c)] h (mx_xct (.inl (some (.int (nI (kAr D c).length)))) h) := by
  have e := (s.2.2.1.2.2 c hc).1
  have lc := s.2.1.1
  refine b_X7_argumentsOf g (nI c) ⟨hd, b.1, mx_xKI2 (p_isCommand b s hc) ⟨fun c => absurd c (by decide), fun _ => ⟨b.1, g + 8, b.2.1 (8, 8) (by decide), (b.2.2.2 8 (by decide) (by decide)).1, by rw [(b.2.2.2 8 (by decide) (by decide)).2]; exact vp_in_nI (by omega) (by omega), ?_⟩⟩⟩
  rw [nI_clamp (by omega), e]
  exact ⟨rfl, rfl⟩
theorem p_redirectionsOf (hd : 1 ≤ d) (b : PB h g) (s : PD D (hpI h) (hpL h) g nc na fa fd) (hc : c < nc) : mx_SM mY_X7_redirectionsOf d [.ref g, .int (nI c)] h (mx_xct (.inl (some (.int (nI (kRd D c).length)))) h) := by
  have e := (s.2.2.2.1 c hc).1
  have lc := s.2.1.1
  refine b_X7_redirectionsOf g (nI c) ⟨hd, b.1, mx_xKI2 (p_isCommand b s hc) ⟨fun c => absurd c (by decide), fun _ => ⟨b.1, g + 10, b.2.1 (10, 10) (by decide), (b.2.2.2 10 (by decide) (by decide)).1, by rw [(b.2.2.2 10 (by decide) (by decide)).2]; exact vp_in_nI (by omega) (by omega), ?_⟩⟩⟩
  rw [nI_clamp (by omega), e]
  exact ⟨rfl, rfl⟩
theorem p_argumentAt (hd : 1 ≤ d) (b : PB h g) (s : PD D (hpI h) (hpL h) g nc na fa fd) (hc : c < nc) (hi : i < (kAr D c).length) : mx_SM mY_X7_argumentAt d [.ref g, .int (nI c), .int (nI i)] h (mx_xct (.inl (some (.int (nI (fa c + i))))) h) := by
  obtain ⟨e1, e2, e3, -⟩ := s.2.2.1.2.2 c hc
  have lc := s.2.1.1
  have ln := s.2.2.1.1
  have e3 := e3 (fun e => by rw [e] at hi; exact absurd hi (Nat.not_lt_zero _))
  refine b_X7_argumentAt g (nI c) (nI i) ⟨hd, b.1, mx_xKI2 (p_isCommand b s hc) ⟨fun c => absurd c (by decide), fun _ => ⟨fun c => absurd c (nI_pos (by omega)), fun _ => ⟨b.1, g + 8, b.2.1 (8, 8) (by decide), (b.2.2.2 8 (by decide) (by decide)).1, by rw [(b.2.2.2 8 (by decide) (by decide)).2]; exact vp_in_nI (by omega) (by omega), ?_⟩⟩⟩⟩
  rw [nI_clamp (by omega), e1]
  refine ⟨fun _ => ⟨g + 7, b.2.1 (7, 7) (by decide), (b.2.2.2 7 (by decide) (by decide)).1, by rw [(b.2.2.2 7 (by decide) (by decide)).2]; exact vp_in_nI (by omega) (by omega), ?_⟩, fun c => absurd (nI_lt hi (by omega)) c⟩
  rw [e3, nI_add]
  exact ⟨rfl, rfl⟩
theorem p_argumentAt_no (hd : 1 ≤ d) (b : PB h g) (s : PD D (hpI h) (hpL h) g nc na fa fd) (hc : c < nc) (hi : (kAr D c).length ≤ i) (hi2 : i < 2 ^ 31) : mx_SM mY_X7_argumentAt d [.ref g, .int (nI c), .int (nI i)] h (mx_xct (.inl (some (.int (-1)))) h) := by
  obtain ⟨e1, e2, -, -⟩ := s.2.2.1.2.2 c hc
  have lc := s.2.1.1
  refine b_X7_argumentAt g (nI c) (nI i) ⟨hd, b.1, mx_xKI2 (p_isCommand b s hc) ⟨fun c => absurd c (by decide), fun _ => ⟨fun c => absurd c (nI_pos (by omega)), fun _ => ⟨b.1, g + 8, b.2.1 (8, 8) (by decide), (b.2.2.2 8 (by decide) (by decide)).1, by rw [(b.2.2.2 8 (by decide) (by decide)).2]; exact vp_in_nI (by omega) (by omega), ?_⟩⟩⟩⟩
  rw [nI_clamp (by omega), e1]
  exact ⟨fun e => absurd ((nI_ltI hi2 (by omega)).mp e) (by omega), fun _ => ⟨rfl, rfl⟩⟩
theorem p_redirectionAt (hd : 1 ≤ d) (b : PB h g) (s : PD D (hpI h) (hpL h) g nc na fa fd) (hc : c < nc) (hi : i < (kRd D c).length) : mx_SM mY_X7_redirectionAt d [.ref g, .int (nI c), .int (nI i)] h (mx_xct (.inl (some (.int (nI (fd c + i))))) h) := by
  obtain ⟨e1, e2, e3, -⟩ := s.2.2.2.1 c hc
  have lc := s.2.1.1
  have ln := s.2.2.1.1
  have e3 := e3 (fun e => by rw [e] at hi; exact absurd hi (Nat.not_lt_zero _))
  refine b_X7_redirectionAt g (nI c) (nI i) ⟨hd, b.1, mx_xKI2 (p_isCommand b s hc) ⟨fun c => absurd c (by decide), fun _ => ⟨fun c => absurd c (nI_pos (by omega)), fun _ => ⟨b.1, g + 10, b.2.1 (10, 10) (by decide), (b.2.2.2 10 (by decide) (by decide)).1, by rw [(b.2.2.2 10 (by decide) (by decide)).2]; exact vp_in_nI (by omega) (by omega), ?_⟩⟩⟩⟩
  rw [nI_clamp (by omega), e1]
  refine ⟨fun _ => ⟨g + 9, b.2.1 (9, 9) (by decide), (b.2.2.2 9 (by decide) (by decide)).1, by rw [(b.2.2.2 9 (by decide) (by decide)).2]; exact vp_in_nI (by omega) (by omega), ?_⟩, fun c => absurd (nI_lt hi (by omega)) c⟩
  rw [e3, nI_add]
  exact ⟨rfl, rfl⟩
theorem p_redirectionAt_no (hd : 1 ≤ d) (b : PB h g) (s : PD D (hpI h) (hpL h) g nc na fa fd) (hc : c < nc) (hi : (kRd D c).length ≤ i) (hi2 : i < 2 ^ 31) : mx_SM mY_X7_redirectionAt d [.ref g, .int (nI c), .int (nI i)] h (mx_xct (.inl (some (.int (-1)))) h) := by
  obtain ⟨e1, e2, -, -⟩ := s.2.2.2.1 c hc
  have lc := s.2.1.1
  refine b_X7_redirectionAt g (nI c) (nI i) ⟨hd, b.1, mx_xKI2 (p_isCommand b s hc) ⟨fun c => absurd c (by decide), fun _ => ⟨fun c => absurd c (nI_pos (by omega)), fun _ => ⟨b.1, g + 10, b.2.1 (10, 10) (by decide), (b.2.2.2 10 (by decide) (by decide)).1, by rw [(b.2.2.2 10 (by decide) (by decide)).2]; exact vp_in_nI (by omega) (by omega), ?_⟩⟩⟩⟩
  rw [nI_clamp (by omega), e1]
  exact ⟨fun e => absurd ((nI_ltI hi2 (by omega)).mp e) (by omega), fun _ => ⟨rfl, rfl⟩⟩
theorem p_argumentKind (b : PB h g) (s : PD D (hpI h) (hpL h) g nc na fa fd) (hc : c < nc) (hi : i < (kAr D c).length) : mx_SM mY_X7_argumentKind d [.ref g, .int (nI (fa c + i))] h (mx_xct (.inl (some (.int (nI (kAr D c)[i].1)))) h) := by
  obtain ⟨e1, e2, -, e4⟩ := s.2.2.1.2.2 c hc
  have e4 := (e4 i hi).1
  have ln := s.2.2.1.1
  refine b_X7_argumentKind g (nI (fa c + i)) ⟨fun c => absurd c (nI_pos (by omega)), fun _ => ⟨b.1, ?_⟩⟩
  rw [s.2.2.1.2.1]
  refine ⟨fun e => absurd e (nI_ge (by omega) (by omega)), fun _ => ⟨fun e => absurd e (show ¬ nI 700 ≤ nI (fa c + i) from nI_ge (by omega) (by omega)), fun _ => ⟨g + 11, b.2.1 (12, 11) (by decide), (b.2.2.2 11 (by decide) (by decide)).1, by rw [(b.2.2.2 11 (by decide) (by decide)).2]; exact vp_in_nI (by omega) (by omega), ?_⟩⟩⟩
  rw [nI_clamp (by omega), e4]
  exact ⟨rfl, rfl⟩
theorem p_argumentName (b : PB h g) (s : PD D (hpI h) (hpL h) g nc na fa fd) (hc : c < nc) (hi : i < (kAr D c).length) : mx_SM mY_X7_argumentName d [.ref g, .int (nI (fa c + i))] h (mx_xct (.inl (some (.long ((kAr D c)[i].2)))) h) := by
  obtain ⟨e1, e2, -, e4⟩ := s.2.2.1.2.2 c hc
  have e4 := (e4 i hi).2.2
  have ln := s.2.2.1.1
  refine b_X7_argumentName g (nI (fa c + i)) ⟨fun c => absurd c (nI_pos (by omega)), fun _ => ⟨b.1, ?_⟩⟩
  rw [s.2.2.1.2.1]
  refine ⟨fun e => absurd e (nI_ge (by omega) (by omega)), fun _ => ⟨fun e => absurd e (show ¬ nI 700 ≤ nI (fa c + i) from nI_ge (by omega) (by omega)), fun _ => ⟨g + 12, b.2.1 (13, 12) (by decide), (b.2.2.2 12 (by decide) (by decide)).1, by rw [(b.2.2.2 12 (by decide) (by decide)).2]; exact vp_in_nI (by omega) (by omega), ?_⟩⟩⟩
  rw [nI_clamp (by omega), e4]
  exact ⟨rfl, rfl⟩
end MXPG2
