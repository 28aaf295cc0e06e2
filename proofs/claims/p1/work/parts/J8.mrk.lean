/-! marks of lines: forgetMarks, markAll -/
section MXJ8
variable {h h1 h2 : mxH} {d n j k r : Nat} {L M : List Nat} {f : Nat → Int32}
theorem sc_lnat (s : SC h) : ln_at h 131 132 133 134 := ⟨sc_k131 s, sc_r131_0 s, sc_r131_1 s, sc_r131_2 s, sc_k132 s, sc_z132 s, sc_k133 s, sc_z133 s, sc_k134 s, sc_z134 s⟩
/-- all marks are forgotten; that of the empty line may stay -/
def FgD (h h1 : mxH) : Prop := ExL (fun b => b = 131 ∨ b = 134) (fun _ => False) h h1 ∧ hpI h1 131 = fup (hpI h 131) 3 1 ∧ (∀ j, 1 ≤ j → hpI h1 134 j ≠ 1) ∧ ∀ j, j < 3200 → hpI h1 134 j = 0 ∨ hpI h1 134 j = 1
theorem fg_2 (s : SC h) (e4 : hpI h 131 4 = nI r) (r1 : r ≤ 3200) (u1 : ∀ j, 1 ≤ j → hpI h 134 j = 1 → j < r) (u2 : ∀ j, j < 3200 → hpI h 134 j = 0 ∨ hpI h 134 j = 1) : ∀ q i (h' : mxH), i + q = r → ExL (fun b => b = 134) (fun _ => False) h h' → (∀ j, hpI h' 134 j = if j < i then 0 else hpI h 134 j) →
    mx_SX mY_X3_forgetMarks d 2 [(0, .ref 131), (1, .int (nI i))] [] h' (fun x h1 => x = .inl none ∧ FgD h h1) := by
  intro q
  induction q with
  | zero =>
    intro i h' hi e c
    obtain rfl : i = r := by omega
    have s' := s.fp e.fp
    have i131 : hpI h' 131 = hpI h 131 := e.2.2.2.2.2.2.1 131 (by decide)
    refine b_X3_forgetMarks_2 131 _ ⟨sc_k131 s', ?_⟩
    rw [i131, e4]
    refine ⟨fun _ => ?_, fun c => absurd (nI_le (Nat.le_refl i) (by omega)) c⟩
    intro h1 e1
    obtain ⟨x1, y1⟩ := xs_I e1
    refine ⟨rfl, (e.wk (fun b hb => Or.inr hb) (fun b hb => hb)).tr (x1.wk (fun b hb => Or.inl hb) (fun b hb => hb)), by rw [y1, i131], fun j hj => ?_, fun j hj => ?_⟩
    · rw [x1.2.2.2.2.2.2.1 134 (by decide), c]
      by_cases l : j < i
      · rw [if_pos l]; decide
      · rw [if_neg l]; exact fun z => l (u1 j hj z)
    · rw [x1.2.2.2.2.2.2.1 134 (by decide), c]
      by_cases l : j < i
      · rw [if_pos l]; exact Or.inl rfl
      · rw [if_neg l]; exact u2 j hj
  | succ q ih =>
    intro i h' hi e c
    have s' := s.fp e.fp
    have i131 : hpI h' 131 = hpI h 131 := e.2.2.2.2.2.2.1 131 (by decide)
    refine b_X3_forgetMarks_2 131 _ ⟨sc_k131 s', ?_⟩
    rw [i131, e4]
    refine ⟨fun z => absurd z (nI_ge (by omega) (by omega)), fun _ => ⟨fun z => absurd z (show ¬ nI 3200 ≤ nI i from nI_ge (by omega) (by omega)), fun _ => ⟨134, sc_r131_2 s', sc_k134 s', by rw [sc_z134 s']; exact vp_in_nI (by omega) (by decide), ?_⟩⟩⟩
    intro h3 e3
    rw [nI_clamp (show i < 2 ^ 31 by omega)] at e3
    obtain ⟨x3, y3⟩ := xs_I e3
    rw [nI_1]
    refine ih (i + 1) h3 (by omega) (e.tr x3) (fun j => ?_)
    rw [y3]
    by_cases l : j = i
    · rw [l, fup_e, if_pos (by omega)]; rfl
    · rw [fup_n l, c]
      by_cases l2 : j < i
      · rw [if_pos l2, if_pos (by omega)]
      · rw [if_neg l2, if_neg (by omega)]
theorem k_X3_forgetMarks (s : SC h) (cu : CU h n) : mx_SM mY_X3_forgetMarks d [.ref 131] h (fun x h1 => x = .inl none ∧ FgD h h1) := by
  obtain ⟨-, i, -, -, -, -, ⟨r, e4, r1, u1⟩, u2, -⟩ := cu
  exact b_X3_forgetMarks 131 (fg_2 s e4 r1 u1 u2 r 0 h (by omega) ExL.rf (fun j => by rw [if_neg (Nat.not_lt_zero _)]))
/-- the lines L were marked -/
def MkLn (h h1 : mxH) (L : List Nat) : Prop := ExL (fun b => b = 134) (fun _ => False) h h1 ∧ ∀ j, hpI h1 134 j = if j ∈ L then 1 else hpI h 134 j
theorem MkLn.rf : MkLn h h [] := ⟨ExL.rf, fun j => by rw [if_neg List.not_mem_nil]⟩
theorem MkLn.tr (a : MkLn h h1 L) (b : MkLn h1 h2 M) : MkLn h h2 (L ++ M) := by
  refine ⟨a.1.tr b.1, fun j => ?_⟩
  rw [b.2, a.2]
  by_cases c : j ∈ M
  · rw [if_pos c, if_pos (List.mem_append_right _ c)]
  · rw [if_neg c]
    by_cases c2 : j ∈ L
    · rw [if_pos c2, if_pos (List.mem_append_left _ c2)]
    · rw [if_neg c2, if_neg (fun z => (List.mem_append.mp z).elim c2 c)]
theorem mk_one {i : Nat} (hi : i < 3200) : MkLn h (ln_mark h 134 (nI i)) [i] := by
  unfold ln_mark
  rw [if_neg (nI_pos (by omega)), if_neg (show ¬ (3200 : Int32) ≤ nI i from nI_ge (b := 3200) hi (by omega)), nI_clamp (by omega)]
  refine ⟨ExL.rf.I rfl, fun j => ?_⟩
  rw [hpI_sIs]
  by_cases c : j = i
  · rw [c, fup_e, if_pos (List.mem_singleton.mpr rfl)]
  · rw [fup_n c, if_neg (fun z => c (List.mem_singleton.mp z))]
/-- the places from j on, m of them, name lines: those are marked -/
theorem mk_row : ∀ m j (h : mxH), (∀ k, k < m → ∃ i, f (j + k) = nI i ∧ i < 3200) → ∃ L : List Nat, L.length ≤ m ∧ MkLn h (ln_marks 134 f m j h) L ∧ (∀ i ∈ L, i < 3200 ∧ ∃ k, k < m ∧ f (j + k) = nI i) ∧ ∀ k, k < m → ∃ i, f (j + k) = nI i ∧ i ∈ L
  | 0, j, h, _ => ⟨[], Nat.le_refl _, MkLn.rf, fun i hi => absurd hi List.not_mem_nil, fun k hk => absurd hk (Nat.not_lt_zero _)⟩
  | m + 1, j, h, c => by
    obtain ⟨i, e, hi⟩ := c 0 (Nat.succ_pos _)
    rw [Nat.add_zero] at e
    obtain ⟨L, l1, l2, l3, l4⟩ := mk_row m (j + 1) (ln_mark h 134 (nI i)) (fun k hk => by rw [show j + 1 + k = j + (k + 1) by omega]; exact c (k + 1) (by omega))
    refine ⟨[i] ++ L, by rw [List.length_append]; show 1 + L.length ≤ _; omega, by rw [ln_marks, e]; exact (mk_one hi).tr l2, fun i' hm => ?_, fun k hk => ?_⟩
    · rcases List.mem_append.mp hm with hm | hm
      · rw [List.mem_singleton.mp hm]
        exact ⟨hi, 0, Nat.succ_pos _, by rw [Nat.add_zero]; exact e⟩
      · obtain ⟨t1, k, t2, t3⟩ := l3 i' hm
        exact ⟨t1, k + 1, by omega, by rw [← t3, show j + 1 + k = j + (k + 1) by omega]⟩
    · rcases k with _ | k
      · exact ⟨i, by rw [Nat.add_zero]; exact e, List.mem_append_left _ (List.mem_singleton.mpr rfl)⟩
      · obtain ⟨i', t1, t2⟩ := l4 k (by omega)
        exact ⟨i', by rw [show j + (k + 1) = j + 1 + k by omega]; exact t1, List.mem_append_right _ t2⟩
/-- Lines.markAll -/
theorem c_markAll (hd : 1 ≤ d) (s : SC h) {a st m : Nat} (hk : hpK h a = 14) (hz : st + m ≤ hpZ h a) (hz2 : hpZ h a < 2 ^ 31) (c : ∀ k, k < m → ∃ i, hpI h a (st + k) = nI i ∧ i < 3200) : mx_SM mY_X3_markAll d [.ref 131, .ref a, .int (nI st), .int (nI m)] h (fun x h1 => x = .inl none ∧ ∃ L : List Nat, L.length ≤ m ∧ MkLn h h1 L ∧ (∀ i ∈ L, i < 3200 ∧ ∃ k, k < m ∧ hpI h a (st + k) = nI i) ∧ ∀ k, k < m → ∃ i, hpI h a (st + k) = nI i ∧ i ∈ L) := by
  refine (k_X3_markAll hd (sc_lnat s) hk hz hz2).mono ?_
  rintro x h1 ⟨rfl, rfl⟩
  exact ⟨rfl, mk_row m st h c⟩
end MXJ8
