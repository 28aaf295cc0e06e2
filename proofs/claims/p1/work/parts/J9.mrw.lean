/-! World.markLines -/
section MXJ9
variable {h h1 h2 : mxH} {d n j k r W s nv : Nat} {L M : List Nat} {w : spW} {ln : Int32 → spL → Prop}
theorem MkLn.I (a : MkLn h h1 L) {b : Nat} (hb : b ≠ 134) : hpI h1 b = hpI h b := a.1.2.2.2.2.2.2.1 b hb
/-- the lines that the first m files name are in L -/
def NMf (f3 : Nat → Int32) (w : spW) (m : Nat) (L : List Nat) : Prop := ∀ i (hi : i < (wF w).length), i < m → ∀ k, k < (wF w)[i].2.length → ∃ j, f3 (40 * i + k) = nI j ∧ j ∈ L
def NMr (f : Nat → Int32) (m : Nat) (L : List Nat) : Prop := ∀ k, k < m → ∃ j, f k = nI j ∧ j ∈ L
theorem NMr.app {f : Nat → Int32} {m : Nat} (a : NMr f m L) (h : ∀ i ∈ L, i ∈ M) : NMr f m M := fun k hk => by
  obtain ⟨j, e, hj⟩ := a k hk
  exact ⟨j, e, h j hj⟩
theorem NMf.app {f : Nat → Int32} {m : Nat} (a : NMf f w m L) (h : ∀ i ∈ L, i ∈ M) : NMf f w m M := fun i hi him k hk => by
  obtain ⟨j, e, hj⟩ := a i hi him k hk
  exact ⟨j, e, h j hj⟩
/-- what marking a world does -/
def MkW (h h1 : mxH) (W : Nat) (w : spW) (nv : Nat) (ln : Int32 → spL → Prop) : Prop := ∃ L : List Nat, L.length ≤ 480 ∧ MkLn h h1 L ∧ (∀ i ∈ L, i < 3200 ∧ ∃ l, ln (nI i) l) ∧ NMf (hpI h (W + 3)) w (wF w).length L ∧ NMr (hpI h (W + 4)) (wI w).length L ∧ NMr (hpI h (W + 5)) (wP w).length L ∧ NMr (hpI h (W + 9)) nv L
theorem x_markLines_2 (hd : 3 ≤ d) (sc : SC h) (wb : WB h W) (hW : 134 < W) (hl : ∀ v l, ln v l → ∃ i, v = nI i ∧ i < 3200) (cw : CW ln (hpI h W) (hpI h (W + 2)) (hpI h (W + 3)) (hpI h (W + 4)) (hpI h (W + 5)) (hpI h (W + 19)) (hpL h (W + 1)) s w)
    (v1 : hpI h (W + 7) 2 = nI nv) (v2 : nv ≤ 20) (v3 : ∀ k, k < nv → ∃ l, ln (hpI h (W + 9) k) l) : ∀ q i (h' : mxH) (L : List Nat), i + q = (wF w).length → MkLn h h' L → L.length ≤ 40 * i → (∀ i ∈ L, i < 3200 ∧ ∃ l, ln (nI i) l) → NMf (hpI h (W + 3)) w i L →
    mx_SX mY_X10_markLines d 2 [(0, .ref W), (1, .ref 131), (2, .int (nI i))] [] h' (fun x h1 => x = .inl none ∧ MkW h h1 W w nv ln) := by
  obtain ⟨⟨a1, a2, a3⟩, ⟨b1, b2, b3⟩, ⟨c1, c2, c3⟩, -, -⟩ := cw
  have of : ∀ {v l}, ln v l → ∀ {i}, v = nI i → i < 3200 → i < 3200 ∧ ∃ l, ln (nI i) l := fun {v l} q {i} e hi => ⟨hi, l, by rw [← e]; exact q⟩
  intro q
  induction q with
  | zero =>
    intro i h' L hi mk hL l3 nf
    obtain rfl : i = (wF w).length := by omega
    have s' := sc.fp mk.1.fp
    have wb' := wb.fp mk.1.fp
    refine b_X10_markLines_2 W 131 _ ⟨wb'.k0, ?_⟩
    rw [mk.I (show W ≠ 134 by omega), a1]
    refine ⟨fun _ => ?_, fun c => absurd (nI_le (Nat.le_refl _) (by omega)) c⟩
    refine ⟨W + 4, wb'.r4, by omega, sc_k131 s', ?_⟩
    rw [b1]
    have p4 : ∀ k, k < (wI w).length → ∃ i, hpI h' (W + 4) (0 + k) = nI i ∧ i < 3200 := fun k hk => by
      rw [mk.I (by omega)]
      exact hl _ _ (b3 k hk)
    refine (c_markAll (d := d - 1) (st := 0) (by omega) s' wb'.k4 (by rw [wb'.z4]; omega) (by rw [wb'.z4]; decide) p4).mono ?_
    rintro x h1 ⟨rfl, L1, m1, m2, m3, m4⟩
    have s1 := s'.fp m2.1.fp
    have wb1 := wb'.fp m2.1.fp
    refine Or.inl ⟨rfl, wb1.k0, W + 5, wb1.r6, sc_k131 s1, ?_⟩
    have mk1 := mk.tr m2
    rw [mk1.I (show W ≠ 134 by omega), c1]
    have p5 : ∀ k, k < (wP w).length → ∃ i, hpI h1 (W + 5) (0 + k) = nI i ∧ i < 3200 := fun k hk => by
      rw [mk1.I (by omega)]
      exact hl _ _ (c3 k hk)
    refine (c_markAll (d := d - 1) (st := 0) (by omega) s1 wb1.k5 (by rw [wb1.z5]; omega) (by rw [wb1.z5]; decide) p5).mono ?_
    rintro x h2 ⟨rfl, L2, n1, n2, n3, n4⟩
    have s2 := s1.fp n2.1.fp
    have wb2 := wb1.fp n2.1.fp
    have mk2 := mk1.tr n2
    refine Or.inl ⟨rfl, wb2.k0, W + 6, wb2.r8, wb2.sb.k0, W + 6 + 1, wb2.sb.r0_0, wb2.sb.k1, ?_⟩
    refine b_X9_markLines (W + 6 + 1) 131 ⟨wb2.sb.k1, W + 6 + 3, wb2.sb.r1_1, by omega, sc_k131 s2, ?_⟩
    rw [mk2.I (show W + 6 + 1 ≠ 134 by omega), show hpI h (W + 6 + 1) 2 = nI nv from v1]
    have p9 : ∀ k, k < nv → ∃ i, hpI h2 (W + 6 + 3) (0 + k) = nI i ∧ i < 3200 := fun k hk => by
      rw [mk2.I (by omega), Nat.zero_add]
      obtain ⟨l, q⟩ := v3 k hk
      exact hl _ _ q
    refine (c_markAll (d := d - 1 - 1) (st := 0) (by omega) s2 wb2.sb.k3 (by rw [wb2.sb.z3]; omega) (by rw [wb2.sb.z3]; decide) p9).mono ?_
    rintro x h3 ⟨rfl, L3, o1, o2, o3, o4⟩
    have mk3 := mk2.tr o2
    refine Or.inl ⟨rfl, Or.inl ⟨rfl, rfl, L ++ L1 ++ L2 ++ L3, ?_, mk3, fun i hi => ?_, nf.app (fun i hi => List.mem_append_left _ (List.mem_append_left _ (List.mem_append_left _ hi))), ?_, ?_, ?_⟩⟩
    · rw [List.length_append, List.length_append, List.length_append]; omega
    · rcases List.mem_append.mp hi with hi | hi
      · rcases List.mem_append.mp hi with hi | hi
        · rcases List.mem_append.mp hi with hi | hi
          · exact l3 i hi
          · obtain ⟨t1, k, t2, t3⟩ := m3 i hi
            rw [mk.I (by omega)] at t3
            exact of (b3 k t2) t3 t1
        · obtain ⟨t1, k, t2, t3⟩ := n3 i hi
          rw [mk1.I (by omega)] at t3
          exact of (c3 k t2) t3 t1
      · obtain ⟨t1, k, t2, t3⟩ := o3 i hi
        rw [mk2.I (by omega), Nat.zero_add] at t3
        obtain ⟨l, q⟩ := v3 k t2
        exact of q t3 t1
    · intro k hk
      obtain ⟨j, e, hj⟩ := m4 k hk
      rw [mk.I (by omega), Nat.zero_add] at e
      exact ⟨j, e, List.mem_append_left _ (List.mem_append_left _ (List.mem_append_right _ hj))⟩
    · intro k hk
      obtain ⟨j, e, hj⟩ := n4 k hk
      rw [mk1.I (by omega), Nat.zero_add] at e
      exact ⟨j, e, List.mem_append_left _ (List.mem_append_right _ hj)⟩
    · intro k hk
      obtain ⟨j, e, hj⟩ := o4 k hk
      rw [mk2.I (by omega), Nat.zero_add] at e
      exact ⟨j, e, List.mem_append_right _ hj⟩
  | succ q ih =>
    intro i h' L hi mk hL l3 nf
    have hi' : i < (wF w).length := by omega
    obtain ⟨-, e2, e3, e4⟩ := a3 i hi'
    have s' := sc.fp mk.1.fp
    have wb' := wb.fp mk.1.fp
    refine b_X10_markLines_2 W 131 _ ⟨wb'.k0, ?_⟩
    rw [mk.I (show W ≠ 134 by omega), a1]
    refine ⟨fun c => absurd c (nI_ge hi' (by omega)), fun _ => ⟨W + 3, wb'.r2, by omega, mx_xKI2 (k_X10_fileLength wb' (by omega)) ⟨sc_k131 s', ?_⟩⟩⟩
    rw [mk.I (show W + 2 ≠ 134 by omega), e2, show (40 : Int32) = nI 40 from rfl, pk_mul]
    have p3 : ∀ k, k < (wF w)[i].2.length → ∃ j, hpI h' (W + 3) (i * 40 + k) = nI j ∧ j < 3200 := fun k hk => by
      rw [mk.I (by omega), show i * 40 + k = 40 * i + k by omega]
      exact hl _ _ (e4 k hk)
    refine (c_markAll (d := d - 1) (by omega) s' wb'.k3 (by rw [wb'.z3]; omega) (by rw [wb'.z3]; decide) p3).mono ?_
    rintro x h1 ⟨rfl, L1, m1, m2, m3, m4⟩
    refine Or.inl ⟨rfl, ?_⟩
    rw [nI_1]
    refine ih (i + 1) h1 (L ++ L1) (by omega) (mk.tr m2) (by rw [List.length_append]; omega) (fun i' hi' => ?_) (fun i' hi2 hlt k hk => ?_)
    · rcases List.mem_append.mp hi' with c | c
      · exact l3 i' c
      · obtain ⟨t1, k, t2, t3⟩ := m3 i' c
        rw [mk.I (by omega), show i * 40 + k = 40 * i + k by omega] at t3
        exact of (e4 k t2) t3 t1
    · by_cases c : i' = i
      · subst c
        obtain ⟨j, e, hj⟩ := m4 k hk
        rw [mk.I (by omega), show i' * 40 + k = 40 * i' + k by omega] at e
        exact ⟨j, e, List.mem_append_right _ hj⟩
      · obtain ⟨j, e, hj⟩ := nf i' hi2 (by omega) k hk
        exact ⟨j, e, List.mem_append_left _ hj⟩
theorem x_markLines (hd : 3 ≤ d) (sc : SC h) (wb : WB h W) (hW : 134 < W) (hl : ∀ v l, ln v l → ∃ i, v = nI i ∧ i < 3200) (cw : CW ln (hpI h W) (hpI h (W + 2)) (hpI h (W + 3)) (hpI h (W + 4)) (hpI h (W + 5)) (hpI h (W + 19)) (hpL h (W + 1)) s w)
    (v1 : hpI h (W + 7) 2 = nI nv) (v2 : nv ≤ 20) (v3 : ∀ k, k < nv → ∃ l, ln (hpI h (W + 9) k) l) : mx_SM mY_X10_markLines d [.ref W, .ref 131] h (fun x h1 => x = .inl none ∧ MkW h h1 W w nv ln) :=
  b_X10_markLines W 131 (x_markLines_2 hd sc wb hW hl cw v1 v2 v3 (wF w).length 0 h [] (Nat.zero_add _) MkLn.rf (Nat.zero_le _) (fun i hi => absurd hi List.not_mem_nil) (fun i _ hlt => absurd hlt (Nat.not_lt_zero _)))
end MXJ9
