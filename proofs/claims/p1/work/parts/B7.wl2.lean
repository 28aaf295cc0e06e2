/-! World's leaves that write: rows of the world's cells -/
section MXW2
variable {h : mxH} {d W : Nat}
/-- the row of files' lines when positions n to p of file j are made empty -/
def padF (f : Nat → Int32) (j n p : Nat) : Nat → Int32 := fun k => if 40 * j + n ≤ k ∧ k < 40 * j + p then 0 else f k
theorem padF_nil {f : Nat → Int32} {j n p : Nat} (hp : p ≤ n) : padF f j n p = f := by
  funext k
  unfold padF
  rw [if_neg (by omega)]
theorem padF_fup {f : Nat → Int32} {j n q : Nat} (hq : n ≤ q) : fup (padF f j n q) (40 * j + q) 0 = padF f j n (q + 1) := by
  funext k
  unfold fup padF
  by_cases c1 : k = 40 * j + q
  · rw [if_pos c1, if_pos (by omega)]
  · rw [if_neg c1]
    by_cases c2 : 40 * j + n ≤ k ∧ k < 40 * j + q
    · rw [if_pos c2, if_pos (by omega)]
    · rw [if_neg c2, if_neg (by omega)]
theorem k_X10_putLine_60 {j p n : Nat} {v : Int32} (s : WB h W) (hj : j < 8) (hn : hpI h (W + 2) j = nI n) (hz : n ≤ 40) (hp : p < 40) {f : Nat → Int32} (hf : hpI h (W + 3) = f) :
    mx_SX mY_X10_putLine d 60 [(0, .ref W), (1, .int (nI j)), (2, .int (nI p)), (3, .int v)] [] h (mx_xct (.inl (some (.int 1))) (hrI (hrI h (W + 3) (fup f (40 * j + p) v)) (W + 2) (if p < n then hpI h (W + 2) else fup (hpI h (W + 2)) j (nI (p + 1))))) := by
  subst hf
  refine b_X10_putLine_60 W (nI j) (nI p) v ⟨s.k0, W + 3, s.r2, s.k3, ?_⟩
  rw [show (40 : Int32) = nI 40 from rfl, pk_mul, nI_add, s.z3]
  refine ⟨vp_in_nI (by omega) (by omega), ?_⟩
  rw [nI_clamp (by omega), nI_clamp (by omega), show j * 40 + p = 40 * j + p by omega]
  rintro _ rfl
  refine ⟨W + 2, s.r1, s.k2, by show vp_in _ (hpZ h (W + 2)); rw [s.z2]; exact vp_in_nI hj (by omega), ?_⟩
  have e : hpI (hsI h (W + 3) (40 * j + p) v) (W + 2) = hpI h (W + 2) := by
    funext k; rw [hpI_sIn (by omega)]
  rw [e, hn]
  refine ⟨fun c => ?_, fun c => ?_⟩
  · rw [if_pos ((nI_ltI (by omega) (by omega)).mp c), ← e]
    refine ⟨rfl, ?_⟩
    show _ = hrI (hsI h (W + 3) (40 * j + p) v) (W + 2) _
    rw [hrI_self]
  · rw [if_neg (fun c' => c (nI_lt c' (by omega)))]
    rintro _ rfl
    refine ⟨rfl, ?_⟩
    rw [nI_1]
    show hrI (hsI h (W + 3) (40 * j + p) v) (W + 2) (fup (hpI (hsI h (W + 3) (40 * j + p) v) (W + 2)) j (nI (p + 1))) = _
    rw [e]
    rfl
/-- the heap of World.putLine: file j of n lines, position p -/
def wo_put (h : mxH) (W j n p : Nat) (v : Int32) : mxH := hrI (hrI h (W + 3) (fup (padF (hpI h (W + 3)) j n p) (40 * j + p) v)) (W + 2) (if p < n then hpI h (W + 2) else fup (hpI h (W + 2)) j (nI (p + 1)))
theorem k_X10_putLine_30 {j p n : Nat} {v : Int32} (s : WB h W) (hj : j < 8) (hn : hpI h (W + 2) j = nI n) (hz : n ≤ 40) (hp : p < 40) : ∀ m q, n ≤ q → (q + m = p ∨ (m = 0 ∧ p ≤ q ∧ q = n)) →
    mx_SX mY_X10_putLine d 30 [(0, .ref W), (1, .int (nI j)), (2, .int (nI p)), (3, .int v), (4, .int (nI q))] [] (hrI h (W + 3) (padF (hpI h (W + 3)) j n q)) (mx_xct (.inl (some (.int 1))) (wo_put h W j n p v)) := by
  have fp : ∀ F, FP h (hrI h (W + 3) F) := fun F => FP.rf.rI
  have en : ∀ F, hpI (hrI h (W + 3) F) (W + 2) = hpI h (W + 2) := fun F => by rw [hpI_rI, if_neg (by omega)]
  intro m
  induction m with
  | zero =>
    intro q hq e
    have s' := s.fp (fp (padF (hpI h (W + 3)) j n q))
    refine b_X10_putLine_30 W (nI j) (nI p) v (nI q) ⟨fun c => absurd c (nI_pos (by omega)), fun _ => ⟨fun _ => ?_, fun c => absurd (nI_le (by omega) (by omega)) c⟩⟩
    have k := k_X10_putLine_60 (d := d) (v := v) s' hj (by rw [en]; exact hn) hz hp (f := padF (hpI h (W + 3)) j n q) hpI_rIs
    refine k.mono fun r h1 x => ⟨x.1, x.2.trans ?_⟩
    rw [en, hrI_hrI]
    unfold wo_put
    rcases e with e | ⟨-, e1, e2⟩
    · rw [show q = p by omega]
    · rw [e2, padF_nil (Nat.le_refl _), padF_nil (by omega)]
  | succ m ih =>
    intro q hq e
    have s' := s.fp (fp (padF (hpI h (W + 3)) j n q))
    refine b_X10_putLine_30 W (nI j) (nI p) v (nI q) ⟨fun c => absurd c (nI_pos (by omega)), fun _ => ⟨fun c => absurd c (nI_ge (by omega) (by omega)), fun _ => ⟨s'.k0, W + 3, s'.r2, s'.k3, ?_⟩⟩⟩
    rw [show (40 : Int32) = nI 40 from rfl, pk_mul, nI_add, s'.z3]
    refine ⟨vp_in_nI (by omega) (by omega), ?_⟩
    rw [nI_clamp (by omega), show j * 40 + q = 40 * j + q by omega]
    rintro _ rfl
    rw [hsI_hrI, padF_fup hq, nI_1]
    exact ih (q + 1) (by omega) (Or.inl (by omega))
theorem k_X10_putLine {j p n : Nat} {v : Int32} (s : WB h W) (hj : j < 8) (hn : hpI h (W + 2) j = nI n) (hz : n ≤ 40) (hp : p < 40) : mx_SM mY_X10_putLine d [.ref W, .int (nI j), .int (nI p), .int v] h (mx_xct (.inl (some (.int 1))) (wo_put h W j n p v)) := by
  refine b_X10_putLine W (nI j) (nI p) v ⟨fun c => absurd c (nI_pos (by omega)), fun _ => ⟨fun c => absurd c (show ¬ nI 8 ≤ nI j from nI_ge (by omega) (by omega)), fun _ => ⟨fun c => absurd c (nI_pos (by omega)), fun _ => ⟨fun _ => ⟨s.k0, W + 2, s.r1, s.k2, by rw [s.z2]; exact vp_in_nI hj (by omega), ?_⟩, fun c => absurd (show nI p < nI 40 from nI_lt hp (by omega)) c⟩⟩⟩⟩
  rw [nI_clamp (by omega), hn]
  have k := k_X10_putLine_30 (d := d) (v := v) s hj hn hz hp (p - n) n (Nat.le_refl _) (by omega)
  rw [padF_nil (Nat.le_refl _), hrI_self] at k
  exact k
theorem k_X10_addInput {n : Nat} {v : Int32} (s : WB h W) (hn : hpI h W 5 = nI n) (hz : n < 40) : mx_SM mY_X10_addInput d [.ref W, .int v] h (mx_xct (.inl none) (hsI (hsI h (W + 4) n v) W 5 (nI (n + 1)))) := by
  refine b_X10_addInput W v ⟨s.k0, ?_⟩
  rw [hn]
  refine ⟨fun c => absurd c (nI_pos (by omega)), fun _ => ⟨fun c => absurd c (show ¬ nI 40 ≤ nI n from nI_ge hz (by omega)), fun _ => ⟨W + 4, s.r4, s.k4, by rw [s.z4]; exact vp_in_nI hz (by omega), ?_⟩⟩⟩
  rw [nI_clamp (by omega)]
  rintro _ rfl _ rfl
  rw [hpI_sIn (by omega), hn, nI_1]
  exact ⟨rfl, rfl⟩
theorem k_X10_addOutput {n : Nat} {v : Int32} (s : WB h W) (hn : hpI h W 7 = nI n) (hz : n < 100) : mx_SM mY_X10_addOutput d [.ref W, .int v] h (mx_xct (.inl (some (.int 1))) (hsI (hsI h (W + 5) n v) W 7 (nI (n + 1)))) := by
  refine b_X10_addOutput W v ⟨s.k0, ?_⟩
  rw [hn]
  refine ⟨fun c => absurd c (nI_pos (by omega)), fun _ => ⟨fun _ => ⟨W + 5, s.r6, s.k5, by rw [s.z5]; exact vp_in_nI hz (by omega), ?_⟩, fun c => absurd (show nI n < nI 100 from nI_lt hz (by omega)) c⟩⟩
  rw [nI_clamp (by omega)]
  rintro _ rfl _ rfl
  rw [hpI_sIn (by omega), hn, nI_1]
  exact ⟨rfl, rfl⟩
theorem k_X10_addOutput_no {n : Nat} {v : Int32} (s : WB h W) (hn : hpI h W 7 = nI n) (hz : n = 100) : mx_SM mY_X10_addOutput d [.ref W, .int v] h (mx_xct (.inl (some (.int 0))) h) := by
  subst hz
  refine b_X10_addOutput W v ⟨s.k0, ?_⟩
  rw [hn]
  exact ⟨fun c => absurd c (by decide), fun _ => ⟨fun c => absurd c (by decide), fun _ => ⟨rfl, rfl⟩⟩⟩
theorem k_X10_takeInput_no (s : WB h W) (hn : hpI h W 5 = 0) : mx_SM mY_X10_takeInput d [.ref W] h (mx_xct (.inl (some (.int (-1)))) h) := by
  refine b_X10_takeInput W ⟨s.k0, ?_⟩
  rw [hn]
  exact ⟨fun _ => ⟨rfl, rfl⟩, fun c => absurd (by decide) c⟩
theorem k_X10_takeInput (hd : 1 ≤ d) {n : Nat} (s : WB h W) (hn : hpI h W 5 = nI (n + 1)) (hz : n < 40) : mx_SM mY_X10_takeInput d [.ref W] h (mx_xct (.inl (some (.int (hpI h (W + 4) 0)))) (hsI (hrI h (W + 4) (va_cpy (hpI h (W + 4)) (hpI h (W + 4)) 1 0 n)) W 5 (nI n))) := by
  have e1 : (1 : Int32).toNatClampNeg = 1 := rfl
  have e0 : (0 : Int32).toNatClampNeg = 0 := rfl
  refine b_X10_takeInput W ⟨s.k0, ?_⟩
  rw [hn, nI_pred, e1, e0, nI_clamp (show n < 2 ^ 31 by omega)]
  refine ⟨fun c => absurd c (show ¬ nI (n + 1) ≤ nI 0 from nI_ge (by omega) (by omega)), fun _ => ⟨fun _ => ⟨W + 4, s.r4, s.k4, by rw [s.z4]; exact vp_in_nI (n := 0) (by omega) (by omega), nI_pos (by omega), by rw [s.z4]; omega, by rw [s.z4]; omega, hd, ?_⟩, fun c => absurd (show nI (n + 1) ≤ nI 40 from nI_le (by omega) (by omega)) c⟩⟩
  rintro _ rfl _ rfl
  rw [hpI_rI, if_neg (show ¬ W = W + 4 by omega), hn, nI_pred]
  exact ⟨rfl, rfl⟩
/-- the heap of World.addRecord -/
def wo_rec (h : mxH) (W n : Nat) (a b c : Int32) : mxH := hsI (hrI h (W + 19) (fup (fup (fup (hpI h (W + 19)) (3 * (n % 60)) a) (3 * (n % 60) + 1) b) (3 * (n % 60) + 2) c)) W 10 (nI (n + 1))
theorem k_X10_addRecord {n : Nat} {a b c : Int32} (s : WB h W) (hn : hpI h W 10 = nI n) (hz : n < 2 ^ 31) : mx_SM mY_X10_addRecord d [.ref W, .int a, .int b, .int c] h (mx_xct (.inl none) (wo_rec h W n a b c)) := by
  have hm : n % 60 < 60 := Nat.mod_lt _ (by omega)
  have e3 : (nI n - nI n / (60 : Int32) * (60 : Int32)) * (3 : Int32) = nI (3 * (n % 60)) := by
    rw [show (60 : Int32) = nI 60 from rfl, nI_div hz (by omega), pk_mul, nI_sb (by omega), show (3 : Int32) = nI 3 from rfl, pk_mul]
    congr 1; omega
  refine b_X10_addRecord W a b c ⟨s.k0, ?_⟩
  rw [hn, e3, show nI (3 * (n % 60)) + (1 : Int32) = nI (3 * (n % 60) + 1) from nI_add _ 1, show nI (3 * (n % 60)) + (2 : Int32) = nI (3 * (n % 60) + 2) from nI_add _ 2, nI_clamp (show 3 * (n % 60) < 2 ^ 31 by omega), nI_clamp (show 3 * (n % 60) + 1 < 2 ^ 31 by omega), nI_clamp (show 3 * (n % 60) + 2 < 2 ^ 31 by omega)]
  refine ⟨fun c => absurd c (nI_pos (by omega)), fun _ => ⟨W + 19, s.r9, s.k19, by rw [s.z19]; exact vp_in_nI (by omega) (by omega), ?_⟩⟩
  rintro _ rfl
  refine ⟨W + 19, s.r9, s.k19, by show vp_in _ (hpZ h (W + 19)); rw [s.z19]; exact vp_in_nI (by omega) (by omega), ?_⟩
  rintro _ rfl
  refine ⟨W + 19, s.r9, s.k19, by show vp_in _ (hpZ h (W + 19)); rw [s.z19]; exact vp_in_nI (by omega) (by omega), ?_⟩
  rintro _ rfl _ rfl
  have e : ∀ (x y z : Int32) (i j k : Nat), hsI (hsI (hsI h (W + 19) i x) (W + 19) j y) (W + 19) k z = hrI h (W + 19) (fup (fup (fup (hpI h (W + 19)) i x) j y) k z) := fun x y z i j k => by
    show hsI (hsI (hrI h (W + 19) (fup (hpI h (W + 19)) i x)) (W + 19) j y) (W + 19) k z = _
    rw [hsI_hrI, hsI_hrI]
  rw [e, hpI_rI, if_neg (show ¬ W = W + 19 by omega), hn, nI_1]
  exact ⟨rfl, rfl⟩
end MXW2
