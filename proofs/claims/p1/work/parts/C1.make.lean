/-! Lines.make -/
section MXMK
variable {h h1 h2 : mxH} {d n x st : Nat}
abbrev pLN : Nat → Prop := fun b => 131 ≤ b ∧ b ≤ 134
/-- what make leaves -/
def MkD (h h1 : mxH) (n : Nat) (v : Int32) (l : spL) : Prop := ExI pLN h h1 ∧ CU h1 (n + 1) ∧ CLn h1 v l ∧ ∀ u l', CLn h u l' → CLn h1 u l'
theorem mk_fin {i j r : Nat} {l : spL} (c : CU h n) (e : ExI pLN h h1) (h3 : hpI h 131 3 = nI i) (i1 : 1 ≤ i) (ij : i ≤ j) (hj : j < 3200) (hu : hpI h 134 j = 0) (hb : ∀ k, i ≤ k → k < j → hpI h 134 k = 1)
    (l1 : 1 ≤ l.length) (l2 : l.length ≤ 80) (hl : ∀ k (hk : k < l.length), hpI h x (st + k) = l[k] ∧ isB l[k])
    (e1 : hpI h1 131 3 = nI (j + 1)) (e1' : hpI h1 131 4 = nI r) (r1 : r ≤ 3200) (r2 : j < r) (r3 : ∀ r0, hpI h 131 4 = nI r0 → r0 ≤ 3200 → r0 ≤ r)
    (e4 : hpI h1 134 = fup (hpI h 134) j 1) (e3 : hpI h1 133 = fup (hpI h 133) j (nI l.length)) (e2 : hpI h1 132 = va_cpy (hpI h x) (hpI h 132) st (80 * j) l.length) : MkD h h1 n (nI j) l := by
  obtain ⟨z, i', g3, g0, hji, g4, ⟨r0, g5, g6, g7⟩, g8, L, g9, g10⟩ := c
  have r0r := r3 r0 g5 g6
  have ii : i' = i := (nI_eq (by omega) (by omega)).mp (g3.symm.trans h3)
  subst ii
  refine ⟨e, ⟨by rw [e3, fup_n (by omega)]; exact z, j + 1, e1, by omega, by omega, fun k k1 k2 => ?_, ⟨r, e1', r1, fun k k1 hk => ?_⟩, fun k k1 => ?_, j :: L, by rw [List.length_cons]; omega, fun k k1 k2 hk => ?_⟩, ⟨j, rfl, hj, Or.inr (by rw [e4, fup_e]), l2, by rw [e3, fup_e], fun k hk => ?_⟩, fun u l' hl' => ?_⟩
  · rw [e4]
    by_cases c : k = j
    · rw [c, fup_e]
    · rw [fup_n c]
      rcases Nat.lt_or_ge k i' with g | g
      · exact g4 k k1 g
      · exact hb k g (by omega)
  · rw [e4] at hk
    by_cases c : k = j
    · rw [c]; exact r2
    · rw [fup_n c] at hk
      have := g7 k k1 hk
      omega
  · rw [e4]
    by_cases c : k = j
    · rw [c, fup_e]; exact Or.inr rfl
    · rw [fup_n c]; exact g8 k k1
  · rw [e4] at hk
    by_cases c : k = j
    · rw [c]; exact List.mem_cons_self
    · rw [fup_n c] at hk
      exact List.mem_cons_of_mem _ (g10 k k1 k2 hk)
  · rw [e2, pk_cpy_in (by omega) (by omega), show st + (80 * j + k - 80 * j) = st + k by omega]
    exact hl k hk
  · obtain ⟨i2, q1, q2, q3, q4, q5, q6⟩ := hl'
    have ne : i2 ≠ j := fun c => by
      rcases q3 with q3 | q3
      · omega
      · rw [c, hu] at q3; exact absurd q3 (by decide)
    refine ⟨i2, q1, q2, ?_, q4, by rw [e3, fup_n ne]; exact q5, fun k hk => ?_⟩
    · rcases q3 with q3 | q3
      · exact Or.inl q3
      · exact Or.inr (by rw [e4, fup_n ne]; exact q3)
    · rw [e2, pk_cpy_out (by omega)]
      exact q6 k hk
theorem k_X3_make_c (hd : 1 ≤ d) (s : SC h) {l : spL} (c : CU h n) (hn : n < 3199) (hx : hpK h x = 13) (hx2 : hpZ h x < 2 ^ 31) (hz : st + l.length ≤ hpZ h x) (l1 : 1 ≤ l.length) (l2 : l.length ≤ 80) (hl : ∀ k (hk : k < l.length), hpI h x (st + k) = l[k] ∧ isB l[k]) :
    mx_SX mY_X3_make d 41 [(0, .ref 131), (1, .ref x), (2, .int (nI st)), (4, .int (nI l.length))] [] h (fun r h1 => ∃ v, r = .inl (some (.int v)) ∧ MkD h h1 n v l) := by
  obtain ⟨i, j, h3, i1, ij, hj, hu, hb⟩ := c.free hn
  have i32 : i < 2 ^ 31 := by omega
  refine k_X3_make_41 hj (j - i) i h (by omega) s h3 hu hb ?_
  have x1 : ExI pLN h (hrI h 131 (fup (hpI h 131) 3 (nI j))) := ExI.rf.rI (by decide)
  have sH := s.fp x1.fp
  have nx1 : x ≠ 131 := mx_neK hx (sc_k131 s) (by decide)
  have nx3 : x ≠ 133 := mx_neK hx (sc_k133 s) (by decide)
  have nx4 : x ≠ 134 := mx_neK hx (sc_k134 s) (by decide)
  obtain ⟨H, hH⟩ : ∃ H, H = hrI h 131 (fup (hpI h 131) 3 (nI j)) := ⟨_, rfl⟩
  have e1 : hpI H 131 = fup (hpI h 131) 3 (nI j) := by rw [hH]; exact hpI_rIs
  have e2 : hpI H 132 = hpI h 132 := by rw [hH]; rfl
  have e3 : hpI H 133 = hpI h 133 := by rw [hH]; rfl
  have e4 : hpI H 134 = hpI h 134 := by rw [hH]; rfl
  have ex : hpI H x = hpI h x := by rw [hH, hpI_rI, if_neg nx1]
  have kx : hpK H x = 13 := by rw [hH]; exact hx
  have zx : hpZ H x = hpZ h x := by rw [hH]; rfl
  rw [← hH] at x1 sH ⊢
  have f3 : hpI H 131 3 = nI j := by rw [e1, fup_e]
  refine b_X3_make_76 131 x (nI st) (nI l.length) ⟨sc_k131 sH, ?_⟩
  rw [f3, show (80 : Int32) = nI 80 from rfl, pk_mul, nI_clamp (show j < 2 ^ 31 by omega), nI_clamp (show j * 80 < 2 ^ 31 by omega), nI_clamp (show l.length < 2 ^ 31 by omega), nI_clamp (show st < 2 ^ 31 by omega), show ((1 : Int32) &&& 1) = 1 from rfl]
  refine ⟨fun c => absurd ((nI_ltI (b := 1) (by omega) (by omega)).mp c) (by omega), fun _ => ⟨fun _ => ⟨134, sc_r131_2 sH, sc_k134 sH, by rw [sc_z134 sH]; exact vp_in_nI hj (by omega), ?_⟩, fun c => absurd (show nI j < nI 3200 from nI_lt hj (by omega)) c⟩⟩
  rintro _ rfl
  refine ⟨133, sc_r131_1 sH, sc_k133 sH, by show vp_in _ (hpZ H 133); rw [sc_z133 sH]; exact vp_in_nI hj (by omega), ?_⟩
  rintro _ rfl
  have x2 : ExI pLN h (hsI (hsI H 134 j 1) 133 j (nI l.length)) := (x1.I (by decide)).I (by decide)
  obtain ⟨Ha, hHa⟩ : ∃ Ha, Ha = hsI (hsI H 134 j 1) 133 j (nI l.length) := ⟨_, rfl⟩
  have a1 : hpI Ha 131 = hpI H 131 := by rw [hHa]; rfl
  have a2 : hpI Ha 132 = hpI h 132 := by rw [hHa, ← e2]; rfl
  have a3 : hpI Ha 133 = fup (hpI h 133) j (nI l.length) := by rw [hHa, ← e3]; rfl
  have a4 : hpI Ha 134 = fup (hpI h 134) j 1 := by rw [hHa, ← e4]; rfl
  have ax : hpI Ha x = hpI h x := by
    rw [hHa, ← ex]
    funext k
    rw [hpI_sIn nx3, hpI_sIn nx4]
  have az : hpZ Ha x = hpZ h x := by rw [hHa, ← zx]; rfl
  have ak : hpK Ha x = 13 := by rw [hHa]; exact kx
  rw [← hHa] at x2 ⊢
  have sA := s.fp x2.fp
  rw [ax]
  refine ⟨132, sc_r131_0 sA, ak, sc_k132 sA, nI_pos (by omega), nI_pos (by omega), nI_pos (by omega), by rw [az]; exact hz, by rw [sc_z132 sA]; omega, fun k hk => ?_, hd, ?_⟩
  · rw [(hl k hk).1, ← (hl k hk).2]
    exact pk_fb _
  rw [a2]
  rintro _ rfl
  rw [show j * 80 = 80 * j from Nat.mul_comm _ _]
  have x3 : ExI pLN h (hrI Ha 132 (va_cpy (hpI h x) (hpI h 132) st (80 * j) l.length)) := x2.rI (by decide)
  obtain ⟨Hb, hHb⟩ : ∃ Hb, Hb = hrI Ha 132 (va_cpy (hpI h x) (hpI h 132) st (80 * j) l.length) := ⟨_, rfl⟩
  have b1 : hpI Hb 131 = hpI H 131 := by rw [hHb, ← a1]; rfl
  have b2 : hpI Hb 132 = va_cpy (hpI h x) (hpI h 132) st (80 * j) l.length := by rw [hHb]; exact hpI_rIs
  have b3 : hpI Hb 133 = fup (hpI h 133) j (nI l.length) := by rw [hHb, ← a3]; rfl
  have b4 : hpI Hb 134 = fup (hpI h 134) j 1 := by rw [hHb, ← a4]; rfl
  rw [← hHb] at x3 ⊢
  rw [b1, f3, nI_1]
  rintro _ rfl
  have x4 : ExI pLN h (hsI Hb 131 3 (nI (j + 1))) := x3.I (by decide)
  have q3 : hpI (hsI Hb 131 3 (nI (j + 1))) 131 3 = nI (j + 1) := by rw [hpI_sI, if_pos rfl, if_pos rfl]
  have q4 : hpI (hsI Hb 131 3 (nI (j + 1))) 131 4 = hpI h 131 4 := by rw [hpI_sI, if_pos rfl, if_neg (by decide), b1, e1, fup_n (by decide)]
  obtain ⟨r0, g5, g6, g7⟩ : ∃ r, hpI h 131 4 = nI r ∧ r ≤ 3200 ∧ ∀ j, 1 ≤ j → hpI h 134 j = 1 → j < r := c.2.choose_spec.2.2.2.2.1
  rw [q3, q4, g5]
  refine ⟨fun c' => ⟨nI j, rfl, ?_⟩, fun c' => ?_⟩
  · have := (nI_leI (by omega) (by omega)).mp c'
    exact mk_fin c x4 h3 i1 ij hj hu hb l1 l2 hl q3 (q4.trans g5) g6 (by omega) (fun r r1 r2 => by rw [g5] at r1; have := (nI_eq (by omega) (by omega)).mp r1; omega) b4 b3 b2
  · have r0j : r0 < j + 1 := by
      rcases Nat.lt_or_ge r0 (j + 1) with g | g
      · exact g
      · exact absurd (nI_le g (by omega)) c'
    rintro _ rfl
    refine ⟨nI j, rfl, ?_⟩
    exact mk_fin (r := j + 1) c (x4.I (by decide)) h3 i1 ij hj hu hb l1 l2 hl (by rw [hpI_sI, if_pos rfl, if_neg (by decide)]; exact q3) (by rw [hpI_sI, if_pos rfl, if_pos rfl]) (by omega) (by omega) (fun r r1 r2 => by rw [g5] at r1; have := (nI_eq (by omega) (by omega)).mp r1; omega) b4 b3 b2
/-- Lines.make: a line of these bytes, cut to its first 80 -/
theorem k_X3_make (hd : 1 ≤ d) (s : SC h) {l : spL} (c : CU h n) (hn : n < 3199) (hx : hpK h x = 13) (hx2 : hpZ h x < 2 ^ 31) (hz : st + l.length ≤ hpZ h x) (hl : ∀ k (hk : k < l.length), hpI h x (st + k) = l[k] ∧ isB l[k]) :
    mx_SM mY_X3_make d [.ref 131, .ref x, .int (nI st), .int (nI l.length)] h (fun r h1 => ∃ v, r = .inl (some (.int v)) ∧ MkD h h1 n v (l.take 80)) := by
  have ez : nI (hpZ h x) = nI (hpZ h x) := rfl
  refine b_X3_make 131 x (nI st) (nI l.length) ⟨fun c1 => ?_, fun c1 => ?_⟩
  · have l80 : 80 ≤ l.length := (nI_leI (a := 80) (by omega) (by omega)).mp c1
    have lt : (l.take 80).length = 80 := by rw [List.length_take]; omega
    refine ⟨fun c => absurd c (by decide), fun _ => ⟨fun c => absurd c (nI_pos (by omega)), fun _ => ⟨hx, fun c => absurd c (show ¬ nI (hpZ h x) < nI 80 from fun c => absurd ((nI_ltI (by omega) (by omega)).mp c) (by omega)), fun _ => ?_⟩⟩⟩
    rw [show (80 : Int32) = nI 80 from rfl, nI_sb (by omega)]
    refine ⟨fun _ => ?_, fun c => absurd (nI_le (by omega) (by omega)) c⟩
    have k := k_X3_make_c (d := d) (x := x) (st := st) (l := l.take 80) hd s c hn hx hx2 (by omega) (by omega) (by omega) (fun k hk => by rw [List.getElem_take]; exact hl k (by omega))
    rw [lt] at k
    exact k
  · have l80 : l.length < 80 := by
      rcases Nat.lt_or_ge l.length 80 with g | g
      · exact g
      · exact absurd (show nI 80 ≤ nI l.length from nI_le g (by omega)) c1
    have lt : l.take 80 = l := List.take_of_length_le (by omega)
    rw [lt]
    by_cases l0 : l.length = 0
    · rw [l0]
      refine ⟨fun _ => ⟨0, rfl, ExI.rf, ?_, ⟨0, rfl, by omega, Or.inl rfl, by omega, by rw [l0]; exact c.1, fun k hk => absurd hk (by omega)⟩, fun _ _ q => q⟩, fun c => absurd (by decide) c⟩
      obtain ⟨z, i', g3, g0, g0', g4, g5, g8, L, g9, g10⟩ := c
      exact ⟨z, i', g3, g0, g0', g4, g5, g8, L, by omega, g10⟩
    · refine ⟨fun c => absurd c (fun c => absurd ((nI_leI (b := 0) (by omega) (by omega)).mp c) (by omega)), fun _ => ⟨fun c => absurd c (nI_pos (by omega)), fun _ => ⟨hx, fun c => absurd c (fun c => absurd ((nI_ltI (by omega) (by omega)).mp c) (by omega)), fun _ => ?_⟩⟩⟩
      rw [nI_sb (by omega)]
      exact ⟨fun _ => k_X3_make_c hd s c hn hx hx2 hz (by omega) (by omega) hl, fun c => absurd (nI_le (by omega) (by omega)) c⟩
end MXMK
