/-! Table.copyFrom; a shell's jobs -/
section MXJO
variable {h h' h1 h2 : mxH} {d n x j : Nat}
/-- only rows of ints at p, of longs at q differ -/
def ExL (p q : Nat → Prop) (h h1 : mxH) : Prop := hpN h1 = hpN h ∧ hpC h1 = hpC h ∧ hpS h1 = hpS h ∧ hpK h1 = hpK h ∧ hpZ h1 = hpZ h ∧ hpR h1 = hpR h ∧ (∀ b, ¬ p b → hpI h1 b = hpI h b) ∧ ∀ b, ¬ q b → hpL h1 b = hpL h b
variable {p q : Nat → Prop}
theorem ExL.rf : ExL p q h h := ⟨rfl, rfl, rfl, rfl, rfl, rfl, fun _ _ => rfl, fun _ _ => rfl⟩
theorem ExL.I {a k : Nat} {v : Int32} (e : ExL p q h h1) (ha : p a) : ExL p q h (hsI h1 a k v) := ⟨e.1, e.2.1, e.2.2.1, e.2.2.2.1, e.2.2.2.2.1, e.2.2.2.2.2.1, fun b hb => by
  have : b ≠ a := fun c => hb (by rw [c]; exact ha)
  rw [← e.2.2.2.2.2.2.1 b hb]
  funext k
  rw [hpI_sIn this], e.2.2.2.2.2.2.2⟩
theorem ExL.L {a k : Nat} {v : Int64} (e : ExL p q h h1) (ha : q a) : ExL p q h (hsL h1 a k v) := ⟨e.1, e.2.1, e.2.2.1, e.2.2.2.1, e.2.2.2.2.1, e.2.2.2.2.2.1, e.2.2.2.2.2.2.1, fun b hb => by
  have : ¬ b = a := fun c => hb (by rw [c]; exact ha)
  rw [← e.2.2.2.2.2.2.2 b hb]
  show (if b = a then _ else hpL h1 b) = _
  rw [if_neg this]⟩
theorem ExL.tr (e : ExL p q h h1) (f : ExL p q h1 h2) : ExL p q h h2 := ⟨f.1.trans e.1, f.2.1.trans e.2.1, f.2.2.1.trans e.2.2.1, f.2.2.2.1.trans e.2.2.2.1, f.2.2.2.2.1.trans e.2.2.2.2.1, f.2.2.2.2.2.1.trans e.2.2.2.2.2.1, fun b hb => (f.2.2.2.2.2.2.1 b hb).trans (e.2.2.2.2.2.2.1 b hb), fun b hb => (f.2.2.2.2.2.2.2 b hb).trans (e.2.2.2.2.2.2.2 b hb)⟩
theorem ExL.fp (e : ExL p q h h1) : FP h h1 :=
  ⟨Nat.le_of_eq e.1.symm, fun a _ => ⟨by rw [e.2.2.2.1], by rw [e.2.2.2.2.1], fun k _ => by rw [e.2.2.2.2.2.1]⟩⟩
theorem ExL.wk {p' q' : Nat → Prop} (e : ExL p q h h1) (hp : ∀ b, p b → p' b) (hq : ∀ b, q b → q' b) : ExL p' q' h h1 := ⟨e.1, e.2.1, e.2.2.1, e.2.2.2.1, e.2.2.2.2.1, e.2.2.2.2.2.1, fun b hb => e.2.2.2.2.2.2.1 b (fun c => hb (hp b c)), fun b hb => e.2.2.2.2.2.2.2 b (fun c => hb (hq b c))⟩
/-- the names and values of table t1 stand in table t0 -/
def CpT (h h1 : mxH) (t na va na1 va1 n : Nat) : Prop := ExL (fun b => b = t ∨ b = va) (fun b => b = na) h h1 ∧ hpI h1 t 2 = nI n ∧ ∀ k, k < n → hpL h1 na k = hpL h na1 k ∧ hpI h1 va k = hpI h va1 k
theorem k_X9_copyFrom_7 {t na va t1 na1 va1 n0 n : Nat} (a : tb_at h t na va n0) (b : tb_at h t1 na1 va1 n) (n1 : t1 ≠ t) (n2 : na1 ≠ na) (n3 : va1 ≠ va) (hz : hpZ h na1 = hpZ h na) : ∀ m j (h' : mxH), j + m = n → CpT h h' t na va na1 va1 j →
    mx_SX mY_X9_copyFrom d 7 [(0, .ref t), (1, .ref t1), (2, .int (nI j))] [] h' (fun r h1 => r = .inl none ∧ CpT h h1 t na va na1 va1 n) := by
  obtain ⟨a1, a2, a3, a4, a5, a6, a7, a8, a9⟩ := a
  obtain ⟨b1, b2, b3, b4, b5, b6, b7, b8, b9⟩ := b
  have k1 : t1 ≠ va := mx_neK b1 a5 (by decide)
  have k2 : va1 ≠ t := mx_neK b5 a1 (by decide)
  have k3 : t ≠ va := mx_neK a1 a5 (by decide)
  have k4 : va1 ≠ na := mx_neK b5 a4 (by decide)
  intro m
  induction m with
  | zero =>
    intro j h' e c
    have c2 : hpI h' t1 = hpI h t1 := c.1.2.2.2.2.2.2.1 t1 (fun c => c.elim n1 k1)
    refine b_X9_copyFrom_7 t t1 (nI j) ⟨by rw [c.1.2.2.2.1]; exact b1, fun _ => ⟨rfl, by rw [show n = j by omega]; exact c⟩, fun c' => absurd ?_ c'⟩
    rw [c2, b8]; exact nI_le (by omega) (by omega)
  | succ m ih =>
    intro j h' e c
    have c2 : hpI h' t1 = hpI h t1 := c.1.2.2.2.2.2.2.1 t1 (fun c => c.elim n1 k1)
    have c3 : hpI h' va1 = hpI h va1 := c.1.2.2.2.2.2.2.1 va1 (fun c => c.elim k2 n3)
    have c4 : hpL h' na1 = hpL h na1 := c.1.2.2.2.2.2.2.2 na1 n2
    have eK : hpK h' = hpK h := c.1.2.2.2.1
    have eZ : hpZ h' = hpZ h := c.1.2.2.2.2.1
    have eR : hpR h' = hpR h := c.1.2.2.2.2.2.1
    refine b_X9_copyFrom_7 t t1 (nI j) ⟨by rw [eK]; exact b1, fun c' => absurd c' ?_, fun _ => ⟨by rw [eK]; exact a1, na, by rw [eR]; exact a2, by rw [eK]; exact a4, fun c' => absurd c' ?_, fun _ => ⟨na1, by rw [eR]; exact b2, by rw [eK]; exact b4, fun c' => absurd c' ?_, fun _ => ⟨by rw [eZ]; exact vp_in_nI (by omega) b7, by rw [eZ]; exact vp_in_nI (by omega) a7, ?_⟩⟩⟩⟩
    · rw [c2, b8]; exact nI_ge (by omega) (by omega)
    · rw [eZ]; exact nI_ge (by omega) a7
    · rw [eZ]; exact nI_ge (by omega) b7
    rw [nI_clamp (by omega), c4]
    rintro _ rfl
    refine ⟨va, by show hpR h' t 1 = _; rw [eR]; exact a3, va1, by show hpR h' t1 1 = _; rw [eR]; exact b3, by show hpK h' va1 = _; rw [eK]; exact b5, by show vp_in _ (hpZ h' va1); rw [eZ]; exact vp_in_nI (by omega) (by omega), by show hpK h' va = _; rw [eK]; exact a5, by show vp_in _ (hpZ h' va); rw [eZ]; exact vp_in_nI (by omega) (by omega), ?_⟩
    have c3' : hpI (hsL h' na j (hpL h na1 j)) va1 = hpI h va1 := c3
    rw [c3']
    rintro _ rfl
    have c5 : hpI (hsI (hsL h' na j (hpL h na1 j)) va j (hpI h va1 j)) t 2 = nI j := by rw [hpI_sIn k3]; exact c.2.1
    rw [c5, nI_1]
    rintro _ rfl
    refine ih (j + 1) _ (by omega) ⟨((c.1.L rfl).I (Or.inr rfl)).I (Or.inl rfl), by rw [hpI_sI, if_pos rfl, if_pos rfl], fun k hk => ?_⟩
    have eL : hpL (hsI (hsI (hsL h' na j (hpL h na1 j)) va j (hpI h va1 j)) t 2 (nI (j + 1))) na = fup (hpL h' na) j (hpL h na1 j) := by
      show (if na = na then fup (hpL h' na) j (hpL h na1 j) else hpL h' na) = _
      rw [if_pos rfl]
    have eI : hpI (hsI (hsI (hsL h' na j (hpL h na1 j)) va j (hpI h va1 j)) t 2 (nI (j + 1))) va = fup (hpI h' va) j (hpI h va1 j) := by
      funext k
      rw [hpI_sIn k3.symm, hpI_sI, if_pos rfl]; rfl
    rw [eL, eI]
    by_cases ek : k = j
    · rw [ek, fup_e, fup_e]; exact ⟨rfl, rfl⟩
    · rw [fup_n ek, fup_n ek]; exact c.2.2 k (by omega)
theorem k_X9_copyFrom {t na va t1 na1 va1 n0 n : Nat} (a : tb_at h t na va n0) (b : tb_at h t1 na1 va1 n) (n1 : t1 ≠ t) (n2 : na1 ≠ na) (n3 : va1 ≠ va) (hz : hpZ h na1 = hpZ h na) : mx_SM mY_X9_copyFrom d [.ref t, .ref t1] h (fun r h1 => r = .inl none ∧ CpT h h1 t na va na1 va1 n) := by
  refine b_X9_copyFrom t t1 ⟨a.1, ?_⟩
  rintro _ rfl
  exact k_X9_copyFrom_7 a b n1 n2 n3 hz n 0 _ (Nat.zero_add n) ⟨ExL.rf.I (Or.inl rfl), by rw [hpI_sI, if_pos rfl, if_pos rfl]; rfl, fun k hk => absurd hk (Nat.not_lt_zero _)⟩
theorem k_X8_isWaiting (s : SB h x) (hn : hpI h x 14 = nI n) (hz : n ≤ 8) (hj : j < n) : mx_SM mY_X8_isWaiting d [.ref x, .int (nI j)] h (mx_xct (.inl (some (.int (if hpR h (x + 10) j = none then 0 else 1)))) h) := by
  refine b_X8_isWaiting x (nI j) ⟨fun c => absurd c (nI_pos (by omega)), fun _ => ⟨s.k0, ?_⟩⟩
  rw [hn, nI_clamp (by omega)]
  refine ⟨fun c => absurd c (nI_ge hj (by omega)), fun _ => ⟨fun c => absurd c (show ¬ nI 8 ≤ nI j from nI_ge (by omega) (by omega)), fun _ => ⟨x + 10, s.r0_15, s.k10, by rw [s.z10]; exact vp_in_nI (by omega) (by omega), fun e => ?_, fun b e => ?_⟩⟩⟩
  · rw [if_pos e]; exact ⟨rfl, rfl⟩
  · rw [if_neg (by rw [e]; exact fun c => nomatch c)]; exact ⟨rfl, rfl⟩
theorem k_X8_firstWaiting_2 (hd : 1 ≤ d) (s : SB h x) (hn : hpI h x 14 = nI n) (hz : n ≤ 8) : ∀ m j, j + m = n → (∀ k, k < j → hpR h (x + 10) k = none) →
    mx_SX mY_X8_firstWaiting d 2 [(0, .ref x), (1, .int (nI j))] [] h (fun r h1 => h1 = h ∧ ∃ v, r = .inl (some (.int v)) ∧ ((∃ i, i < n ∧ (∀ k, k < i → hpR h (x + 10) k = none) ∧ hpR h (x + 10) i ≠ none ∧ v = nI i) ∨ ((∀ k, k < n → hpR h (x + 10) k = none) ∧ v = -1))) := by
  intro m
  induction m with
  | zero =>
    intro j e c
    refine b_X8_firstWaiting_2 x (nI j) ⟨s.k0, fun _ => ⟨rfl, _, rfl, Or.inr ⟨fun k hk => c k (by omega), rfl⟩⟩, fun c' => absurd ?_ c'⟩
    rw [hn]; exact nI_le (by omega) (by omega)
  | succ m ih =>
    intro j e c
    refine b_X8_firstWaiting_2 x (nI j) ⟨s.k0, fun c' => absurd c' ?_, fun _ => ⟨hd, mx_xKI2 (k_X8_isWaiting s hn hz (by omega)) ?_⟩⟩
    · rw [hn]; exact nI_ge (by omega) (by omega)
    · by_cases g : hpR h (x + 10) j = none
      · rw [if_pos g]
        refine ⟨fun _ => ?_, fun c' => absurd rfl c'⟩
        rw [nI_1]
        refine ih (j + 1) (by omega) (fun k hk => ?_)
        by_cases ek : k = j
        · rw [ek]; exact g
        · exact c k (by omega)
      · rw [if_neg g]
        exact ⟨fun c' => absurd c' (by decide), fun _ => ⟨rfl, _, rfl, Or.inl ⟨j, by omega, c, g, rfl⟩⟩⟩
theorem k_X8_firstWaiting (hd : 1 ≤ d) (s : SB h x) (hn : hpI h x 14 = nI n) (hz : n ≤ 8) :
    mx_SM mY_X8_firstWaiting d [.ref x] h (fun r h1 => h1 = h ∧ ∃ v, r = .inl (some (.int v)) ∧ ((∃ i, i < n ∧ (∀ k, k < i → hpR h (x + 10) k = none) ∧ hpR h (x + 10) i ≠ none ∧ v = nI i) ∨ ((∀ k, k < n → hpR h (x + 10) k = none) ∧ v = -1))) :=
  b_X8_firstWaiting x (k_X8_firstWaiting_2 hd s hn hz n 0 (Nat.zero_add n) (fun k hk => absurd hk (Nat.not_lt_zero _)))
theorem k_X8_takeJob (hd : 1 ≤ d) (s : SB h x) (hn : hpI h x 14 = nI n) (hz : n ≤ 8) (hj : j < n) {y : Nat} (hy : hpR h (x + 10) j = some y) (hyn : y < hpN h) : mx_SM mY_X8_takeJob d [.ref x, .int (nI j)] h (mx_xct (.inl (some (va_rf (some y)))) (hsR h (x + 10) j none)) := by
  refine b_X8_takeJob x (nI j) ⟨hd, s.k0, mx_xKI2 (k_X8_isWaiting s hn hz hj) ?_⟩
  rw [hy]
  refine ⟨fun _ => ⟨s.k0, x + 10, s.r0_15, s.k10, by rw [s.z10]; exact vp_in_nI (by omega) (by omega), ?_⟩, fun c => absurd c (by rw [if_neg (fun c => nomatch c)]; decide)⟩
  rw [nI_clamp (by omega), hy]
  rintro _ rfl
  exact ⟨fun b e => by rw [← Option.some.inj e]; exact hyn, rfl, rfl⟩
theorem k_X8_startOfJob (s : SB h x) (hj : j < 8) : mx_SM mY_X8_startOfJob d [.ref x, .int (nI j)] h (mx_xct (.inl (some (.int (hpI h (x + 11) j)))) h) := by
  refine b_X8_startOfJob x (nI j) ⟨fun c => absurd c (nI_pos (by omega)), fun _ => ⟨fun c => absurd c (show ¬ nI 8 ≤ nI j from nI_ge hj (by omega)), fun _ => ⟨s.k0, x + 11, s.r0_16, s.k11, by rw [s.z11]; exact vp_in_nI hj (by omega), ?_⟩⟩⟩
  rw [nI_clamp (by omega)]
  exact ⟨rfl, rfl⟩
theorem k_X8_keepJobStatus (s : SB h x) (hj : j < 8) {v : Int32} : mx_SM mY_X8_keepJobStatus d [.ref x, .int (nI j), .int v] h (mx_xct (.inl none) (hsI h (x + 12) j v)) := by
  refine b_X8_keepJobStatus x (nI j) v ⟨fun c => absurd c (nI_pos (by omega)), fun _ => ⟨fun c => absurd c (show ¬ nI 8 ≤ nI j from nI_ge hj (by omega)), fun _ => ⟨s.k0, x + 12, s.r0_17, s.k12, by rw [s.z12]; exact vp_in_nI hj (by omega), ?_⟩⟩⟩
  rw [nI_clamp (by omega)]
  rintro _ rfl
  exact ⟨rfl, rfl⟩
theorem k_X8_addJob_no (s : SB h x) (hn : hpI h x 14 = nI 8) {y : Nat} {v : Int32} : mx_SM mY_X8_addJob d [.ref x, .ref y, .int v] h (mx_xct (.inl (some (.int 0))) h) := by
  refine b_X8_addJob x y v ⟨s.k0, ?_⟩
  rw [hn]
  exact ⟨fun c => absurd c (by decide), fun _ => ⟨fun c => absurd c (by decide), fun _ => ⟨rfl, rfl⟩⟩⟩
theorem k_X8_addJob (s : SB h x) (hn : hpI h x 14 = nI n) (hz : n < 8) {y : Nat} (hy : hpK h y = 8) {v : Int32} : mx_SM mY_X8_addJob d [.ref x, .ref y, .int v] h (mx_xct (.inl (some (.int 1))) (hsI (hsI (hsI (hsR h (x + 10) n (some y)) (x + 11) n v) (x + 12) n (-1)) x 14 (nI (n + 1)))) := by
  have s' : ∀ (z : Option Nat), SB (hsR h (x + 10) n z) x := fun z => s.fp (FP.rf.R (by rw [s.k10]; exact List.not_mem_nil))
  refine b_X8_addJob x y v ⟨s.k0, ?_⟩
  rw [hn]
  refine ⟨fun c => absurd c (nI_pos (by omega)), fun _ => ⟨fun _ => ⟨x + 10, s.r0_15, s.k10, by rw [s.z10]; exact vp_in_nI hz (by omega), hy, ?_⟩, fun c => absurd (show nI n < nI 8 from nI_lt hz (by omega)) c⟩⟩
  rw [nI_clamp (by omega)]
  rintro _ rfl
  have g1 : hpI (hsR h (x + 10) n (some y)) x 14 = nI n := hn
  rw [g1, nI_clamp (by omega)]
  refine ⟨x + 11, (s' (some y)).r0_16, s.k11, by show vp_in _ (hpZ h (x + 11)); rw [s.z11]; exact vp_in_nI hz (by omega), ?_⟩
  rintro _ rfl
  have g2 : hpI (hsI (hsR h (x + 10) n (some y)) (x + 11) n v) x 14 = nI n := by rw [hpI_sIn (by omega)]; exact hn
  rw [g2, nI_clamp (by omega)]
  refine ⟨x + 12, (s' (some y)).r0_17, s.k12, by show vp_in _ (hpZ h (x + 12)); rw [s.z12]; exact vp_in_nI hz (by omega), ?_⟩
  rintro _ rfl
  have g3 : hpI (hsI (hsI (hsR h (x + 10) n (some y)) (x + 11) n v) (x + 12) n (-1)) x 14 = nI n := by rw [hpI_sIn (by omega)]; exact g2
  rw [g3, nI_1]
  rintro _ rfl
  exact ⟨rfl, rfl⟩
end MXJO
