/-! A redirection's number; the leaves of World -/
section MXWL
variable {h : mxH} {D : pmC} {g d c i q W : Nat} {nc na : Nat} {fa fd : Nat → Nat}
theorem nI_div {a b : Nat} (ha : a < 2 ^ 31) (hb : b < 2 ^ 31) : nI a / nI b = nI (a / b) := by
  unfold nI
  apply Int32.toInt_inj.mp
  rw [Int32.toInt_div]
  have e1 : (Int32.ofNat a).toInt = a := by
    rw [Int32.toInt_ofNat']
    simp [Int.bmod]; omega
  have e2 : (Int32.ofNat b).toInt = b := by
    rw [Int32.toInt_ofNat']
    simp [Int.bmod]; omega
  have le : a / b ≤ a := Nat.div_le_self a b
  rw [e1, e2, Int.tdiv_eq_ediv_of_nonneg (by omega), ← Int.natCast_ediv]
  generalize a / b = q at le
  rw [Int32.toInt_ofNat']
theorem nI_sb {a b : Nat} (h : b ≤ a) : nI a - nI b = nI (a - b) := by
  obtain ⟨k, rfl⟩ : ∃ k, a = k + b := ⟨a - b, by omega⟩
  rw [← nI_add, Int32.add_sub_cancel, Nat.add_sub_cancel]
theorem p_rdAt (b : PB h g) (s : PD D (hpI h) (hpL h) g nc na fa fd) (hc : c < nc) (hi : i < (kRd D c).length) : fd c + i < 700 ∧ hpI h (g + 13) (fd c + i) = nI (10 * (kRd D c)[i].1 + (kRd D c)[i].2.1) ∧ (kRd D c)[i].1 ≤ 4 ∧ (kRd D c)[i].2.1 < 10 ∧ hpL h (g + 14) (fd c + i) = (kRd D c)[i].2.2 := by
  obtain ⟨-, e2, -, e4⟩ := s.2.2.2.1 c hc
  exact ⟨by omega, e4 i hi⟩
theorem p_redirectionKind (b : PB h g) (s : PD D (hpI h) (hpL h) g nc na fa fd) (hc : c < nc) (hi : i < (kRd D c).length) : mx_SM mY_X7_redirectionKind d [.ref g, .int (nI (fd c + i))] h (mx_xct (.inl (some (.int (nI (kRd D c)[i].1)))) h) := by
  obtain ⟨l7, e1, e2, e3, -⟩ := p_rdAt b s hc hi
  refine b_X7_redirectionKind g (nI (fd c + i)) ⟨fun e => absurd e (nI_pos (by omega)), fun _ => ⟨fun e => absurd e (show ¬ nI 700 ≤ nI (fd c + i) from nI_ge (by omega) (by omega)), fun _ => ⟨b.1, g + 13, b.2.1 (15, 13) (by decide), (b.2.2.2 13 (by decide) (by decide)).1, by rw [(b.2.2.2 13 (by decide) (by decide)).2]; exact vp_in_nI l7 (by omega), ?_⟩⟩⟩
  rw [nI_clamp (by omega), e1, show (10 : Int32) = nI 10 from rfl, nI_div (by omega) (by omega), show (10 * (kRd D c)[i].1 + (kRd D c)[i].2.1) / 10 = (kRd D c)[i].1 by omega]
  exact ⟨rfl, rfl⟩
theorem p_redirectedHandle (b : PB h g) (s : PD D (hpI h) (hpL h) g nc na fa fd) (hc : c < nc) (hi : i < (kRd D c).length) : mx_SM mY_X7_redirectedHandle d [.ref g, .int (nI (fd c + i))] h (mx_xct (.inl (some (.int (nI (kRd D c)[i].2.1)))) h) := by
  obtain ⟨l7, e1, e2, e3, -⟩ := p_rdAt b s hc hi
  refine b_X7_redirectedHandle g (nI (fd c + i)) ⟨fun e => absurd e (nI_pos (by omega)), fun _ => ⟨fun e => absurd e (show ¬ nI 700 ≤ nI (fd c + i) from nI_ge (by omega) (by omega)), fun _ => ⟨b.1, g + 13, b.2.1 (15, 13) (by decide), (b.2.2.2 13 (by decide) (by decide)).1, by rw [(b.2.2.2 13 (by decide) (by decide)).2]; exact vp_in_nI l7 (by omega), ?_⟩⟩⟩
  rw [nI_clamp (by omega), e1, show (10 : Int32) = nI 10 from rfl, nI_div (by omega) (by omega), pk_mul, nI_sb (by omega), show 10 * (kRd D c)[i].1 + (kRd D c)[i].2.1 - (10 * (kRd D c)[i].1 + (kRd D c)[i].2.1) / 10 * 10 = (kRd D c)[i].2.1 by omega]
  exact ⟨rfl, rfl⟩
theorem p_redirectionName (b : PB h g) (s : PD D (hpI h) (hpL h) g nc na fa fd) (hc : c < nc) (hi : i < (kRd D c).length) : mx_SM mY_X7_redirectionName d [.ref g, .int (nI (fd c + i))] h (mx_xct (.inl (some (.long ((kRd D c)[i].2.2)))) h) := by
  obtain ⟨l7, -, -, -, e1⟩ := p_rdAt b s hc hi
  refine b_X7_redirectionName g (nI (fd c + i)) ⟨fun e => absurd e (nI_pos (by omega)), fun _ => ⟨fun e => absurd e (show ¬ nI 700 ≤ nI (fd c + i) from nI_ge (by omega) (by omega)), fun _ => ⟨b.1, g + 14, b.2.1 (16, 14) (by decide), (b.2.2.2 14 (by decide) (by decide)).1, by rw [(b.2.2.2 14 (by decide) (by decide)).2]; exact vp_in_nI l7 (by omega), ?_⟩⟩⟩
  rw [nI_clamp (by omega), e1]
  exact ⟨rfl, rfl⟩
/-- the place of a name in a row of names -/
theorem ix_tbF {β : Type} {f : Nat → Int64} {k : Int64} {l : List (Int64 × β)} (hf : ∀ i (hi : i < l.length), f i = l[i].1) : mx_ix f k l.length 0 = ixI (tbF l k) := by
  rcases mx_ix_spec f k l.length 0 with ⟨i, -, i2, i3, i4, i5⟩ | ⟨i1, i2⟩
  · rw [i5, tbF_some (i := i) (by omega) (by rw [← hf i (by omega)]; exact i3) (fun j hj hji => by rw [← hf j hj]; exact i4 j (Nat.zero_le _) hji)]
    rfl
  · rw [i2, tbF_none (fun j hj => by rw [← hf j hj]; exact i1 j (Nat.zero_le _) (by omega))]
    rfl
theorem k_X10_findFile_2 {n : Nat} {k : Int64} (s : WB h W) (hn : hpI h W 3 = nI n) (hz : n ≤ 8) : ∀ m j, j + m = n → mx_SX mY_X10_findFile d 2 [(0, .ref W), (1, .long k), (3, .int (nI j))] [] h (mx_xct (.inl (some (.int (mx_ix (hpL h (W + 1)) k m j)))) h) := by
  intro m
  induction m with
  | zero =>
    intro j hj
    refine b_X10_findFile_2 W k (nI j) ⟨s.k0, fun _ => ⟨rfl, rfl⟩, fun c => absurd ?_ c⟩
    rw [hn]; exact nI_le (by omega) (by omega)
  | succ m ih =>
    intro j hj
    refine b_X10_findFile_2 W k (nI j) ⟨s.k0, fun c => absurd c ?_, fun _ => ⟨fun c => absurd c (show ¬ nI 8 ≤ nI j from nI_ge (by omega) (by omega)), fun _ => ⟨W + 1, s.r0, s.k1, by rw [s.z1]; exact vp_in_nI (by omega) (by omega), ?_, ?_⟩⟩⟩
    · rw [hn]; exact nI_ge (by omega) (by omega)
    · intro c
      rw [nI_clamp (by omega), lg_cmp_eq] at c
      rw [nI_1, mx_ix, if_neg c]
      exact ih (j + 1) (by omega)
    · intro c
      rw [nI_clamp (by omega), lg_cmp_eq] at c
      rw [mx_ix, if_pos c]
      exact ⟨rfl, rfl⟩
theorem k_X10_findFile {n : Nat} {k : Int64} (s : WB h W) (hn : hpI h W 3 = nI n) (hz : n ≤ 8) : mx_SM mY_X10_findFile d [.ref W, .long k] h (mx_xct (.inl (some (.int (mx_ix (hpL h (W + 1)) k n 0)))) h) :=
  b_X10_findFile W k (k_X10_findFile_2 s hn hz n 0 (Nat.zero_add n))
/-- findOrMake: found, no room, made -/
theorem k_X10_findOrMake_old (hd : 1 ≤ d) {n j : Nat} {k : Int64} (s : WB h W) (hn : hpI h W 3 = nI n) (hz : n ≤ 8) (e : mx_ix (hpL h (W + 1)) k n 0 = nI j) (hj : j < 8) : mx_SM mY_X10_findOrMake d [.ref W, .long k] h (mx_xct (.inl (some (.int (nI j)))) h) := by
  refine b_X10_findOrMake W k ⟨hd, s.k0, mx_xKI2 (k_X10_findFile s hn hz) ?_⟩
  rw [e]
  exact ⟨fun _ => ⟨rfl, rfl⟩, fun c => absurd (nI_pos' (by omega)) c⟩
theorem k_X10_findOrMake_no (hd : 1 ≤ d) {k : Int64} (s : WB h W) (hn : hpI h W 3 = nI 8) (e : mx_ix (hpL h (W + 1)) k 8 0 = -1) : mx_SM mY_X10_findOrMake d [.ref W, .long k] h (mx_xct (.inl (some (.int (-1)))) h) := by
  refine b_X10_findOrMake W k ⟨hd, s.k0, mx_xKI2 (k_X10_findFile s hn (Nat.le_refl _)) ?_⟩
  rw [e]
  refine ⟨fun c => absurd c (by decide), fun _ => ⟨s.k0, ?_⟩⟩
  rw [hn]
  exact ⟨fun c => absurd c (by decide), fun _ => ⟨fun _ => ⟨rfl, rfl⟩, fun c => absurd (by decide) c⟩⟩
def wo_make (h : mxH) (W n : Nat) (k : Int64) : mxH := hsI (hsI (hsL h (W + 1) n k) (W + 2) n 0) W 3 (nI (n + 1))
theorem k_X10_findOrMake_new (hd : 1 ≤ d) {n : Nat} {k : Int64} (s : WB h W) (hn : hpI h W 3 = nI n) (hz : n < 8) (e : mx_ix (hpL h (W + 1)) k n 0 = -1) : mx_SM mY_X10_findOrMake d [.ref W, .long k] h (mx_xct (.inl (some (.int (nI n)))) (wo_make h W n k)) := by
  have en : (nI n).toNatClampNeg = n := nI_clamp (by omega)
  refine b_X10_findOrMake W k ⟨hd, s.k0, mx_xKI2 (k_X10_findFile s hn (by omega)) ?_⟩
  rw [e]
  refine ⟨fun c => absurd c (by decide), fun _ => ⟨s.k0, ?_⟩⟩
  rw [hn]
  refine ⟨fun c => absurd c (nI_pos (by omega)), fun _ => ⟨fun c => absurd c (show ¬ nI 8 ≤ nI n from nI_ge (by omega) (by omega)), fun _ => ⟨W + 1, s.r0, s.k1, by rw [s.z1]; exact vp_in_nI hz (by omega), ?_⟩⟩⟩
  rw [en]
  rintro _ rfl
  refine ⟨W + 2, s.r1, s.k2, by show vp_in _ (hpZ h (W + 2)); rw [s.z2]; exact vp_in_nI hz (by omega), ?_⟩
  rintro _ rfl _ rfl
  have e9 : hpI (hsI (hsL h (W + 1) n k) (W + 2) n 0) W 3 + 1 = nI (n + 1) := by
    rw [hpI_sIn (by omega)]
    show hpI h W 3 + 1 = _
    rw [hn, nI_1]
  rw [e9]
  exact ⟨rfl, rfl⟩
theorem k_X10_loseLines {j : Nat} (s : WB h W) (hj : j < 8) : mx_SM mY_X10_loseLines d [.ref W, .int (nI j)] h (mx_xct (.inl none) (hsI h (W + 2) j 0)) := by
  refine b_X10_loseLines W (nI j) ⟨fun c => absurd c (nI_pos (by omega)), fun _ => ⟨fun c => absurd c (show ¬ nI 8 ≤ nI j from nI_ge (by omega) (by omega)), fun _ => ⟨s.k0, W + 2, s.r1, s.k2, by rw [s.z2]; exact vp_in_nI hj (by omega), ?_⟩⟩⟩
  rw [nI_clamp (by omega)]
  rintro _ rfl
  exact ⟨rfl, rfl⟩
theorem k_X10_fileLength {j : Nat} (s : WB h W) (hj : j < 8) : mx_SM mY_X10_fileLength d [.ref W, .int (nI j)] h (mx_xct (.inl (some (.int (hpI h (W + 2) j)))) h) := by
  refine b_X10_fileLength W (nI j) ⟨fun c => absurd c (nI_pos (by omega)), fun _ => ⟨fun c => absurd c (show ¬ nI 8 ≤ nI j from nI_ge (by omega) (by omega)), fun _ => ⟨s.k0, W + 2, s.r1, s.k2, by rw [s.z2]; exact vp_in_nI hj (by omega), ?_⟩⟩⟩
  rw [nI_clamp (by omega)]
  exact ⟨rfl, rfl⟩
theorem k_X10_lineAt {j p n : Nat} (s : WB h W) (hj : j < 8) (hn : hpI h (W + 2) j = nI n) (hz : n ≤ 40) (hp : p ≤ 40) : mx_SM mY_X10_lineAt d [.ref W, .int (nI j), .int (nI p)] h (mx_xct (.inl (some (.int (if p < n then hpI h (W + 3) (40 * j + p) else -1)))) h) := by
  refine b_X10_lineAt W (nI j) (nI p) ⟨fun c => absurd c (nI_pos (by omega)), fun _ => ⟨fun c => absurd c (show ¬ nI 8 ≤ nI j from nI_ge (by omega) (by omega)), fun _ => ⟨fun c => absurd c (nI_pos (by omega)), fun _ => ⟨s.k0, W + 2, s.r1, s.k2, by rw [s.z2]; exact vp_in_nI hj (by omega), ?_⟩⟩⟩⟩
  rw [nI_clamp (by omega), hn]
  refine ⟨fun c => ?_, fun c => ⟨fun _ => ⟨W + 3, s.r2, s.k3, ?_⟩, fun c' => absurd ?_ c'⟩⟩
  · rw [if_neg (by have := (nI_leI (by omega) (by omega)).mp c; omega)]
    exact ⟨rfl, rfl⟩
  · have c1 : p < n := by
      rcases Nat.lt_or_ge p n with x | x
      · exact x
      · exact absurd (nI_le x (by omega)) c
    rw [show (40 : Int32) = nI 40 from rfl, pk_mul, nI_add, s.z3]
    refine ⟨vp_in_nI (by omega) (by omega), ?_⟩
    rw [nI_clamp (by omega), if_pos c1, show j * 40 + p = 40 * j + p by omega]
    exact ⟨rfl, rfl⟩
  · have c1 : p < n := by
      rcases Nat.lt_or_ge p n with x | x
      · exact x
      · exact absurd (nI_le x (by omega)) c
    exact (show nI p < nI 40 from nI_lt (by omega) (by omega))
end MXWL
