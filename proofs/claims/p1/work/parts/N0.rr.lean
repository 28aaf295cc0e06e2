/-! THE REFERENCE: run and load behind the class's first call (p1) -/
section MXN0
variable {g h h' h0 h1 h2 T : mxH} {d n k a j : Nat} {x y : Int32} {z : Int64}
/-- what holds all over the run of no script -/
def Rn (h1 h : mxH) : Prop := RWr h1 h ∧ hpI h 320 0 = 0 ∧ hpI h 320 50 = -1 ∧ (hpI h 354 33 = 0 ∧ hpI h 354 47 = 0 ∧ hpI h 354 49 = 0) ∧ (∀ j, j < 10 → hpI h 354 (36 + j) = 0 ∨ hpI h 354 (36 + j) = -1) ∧ hpI h 356 2 = 0 ∧ (∀ p, p < 400 → hpI h 349 p = 0) ∧ hpL h 355 33 = 0
theorem Rn.sI {v : Int32} (r : Rn h1 h) (n0 : 320 ≠ a) (n1 : 354 ≠ a) (n2 : 356 ≠ a) (n3 : 349 ≠ a) : Rn h1 (hsI h a k v) := by
  obtain ⟨a1, a2, a3, ⟨a4, a5, a6⟩, a7, a8, a9, a10⟩ := r
  refine ⟨a1.sI, by rw [hpI_sIn n0]; exact a2, by rw [hpI_sIn n0]; exact a3, ⟨by rw [hpI_sIn n1]; exact a4, by rw [hpI_sIn n1]; exact a5, by rw [hpI_sIn n1]; exact a6⟩, fun j hj => by rw [hpI_sIn n1]; exact a7 j hj, by rw [hpI_sIn n2]; exact a8, fun p hp => by rw [hpI_sIn n3]; exact a9 p hp, a10⟩
theorem Rn.s320 {v : Int32} (r : Rn h1 h) (k0 : 0 ≠ k) (k5 : 50 ≠ k) : Rn h1 (hsI h 320 k v) := by
  obtain ⟨a1, a2, a3, ⟨a4, a5, a6⟩, a7, a8, a9, a10⟩ := r
  refine ⟨a1.sI, ?_, ?_, ⟨by rw [hpI_sIn (by decide)]; exact a4, by rw [hpI_sIn (by decide)]; exact a5, by rw [hpI_sIn (by decide)]; exact a6⟩, fun j hj => by rw [hpI_sIn (by decide)]; exact a7 j hj, by rw [hpI_sIn (by decide)]; exact a8, fun p hp => by rw [hpI_sIn (by decide)]; exact a9 p hp, a10⟩
  · rw [m_e320]; unfold fup; rw [if_neg k0]; exact a2
  · rw [m_e320]; unfold fup; rw [if_neg k5]; exact a3
theorem m_e354 {v : Int32} : hpI (hsI h 354 k v) 354 = fup (hpI h 354) k v := by
  show hpI (hrI h 354 (fup (hpI h 354) k v)) 354 = _
  rw [hpI_rI, if_pos rfl]
theorem fup_z {f : Nat → Int32} (e : f j = 0) : fup f k 0 j = 0 := by
  unfold fup
  by_cases c : j = k
  · rw [if_pos c]
  · rw [if_neg c]; exact e
theorem Rn.s354 (r : Rn h1 h) (hk : k < 36 ∨ 46 ≤ k) : Rn h1 (hsI h 354 k 0) := by
  obtain ⟨a1, a2, a3, ⟨a4, a5, a6⟩, a7, a8, a9, a10⟩ := r
  refine ⟨a1.sI, by rw [hpI_sIn (by decide)]; exact a2, by rw [hpI_sIn (by decide)]; exact a3, ⟨by rw [m_e354]; exact fup_z a4, by rw [m_e354]; exact fup_z a5, by rw [m_e354]; exact fup_z a6⟩, fun j hj => ?_, by rw [hpI_sIn (by decide)]; exact a8, fun p hp => by rw [hpI_sIn (by decide)]; exact a9 p hp, a10⟩
  rw [m_e354]; unfold fup; rw [if_neg (by omega)]; exact a7 j hj
theorem Rn.s356 (r : Rn h1 h) : Rn h1 (hsI h 356 k 0) := by
  obtain ⟨a1, a2, a3, ⟨a4, a5, a6⟩, a7, a8, a9, a10⟩ := r
  refine ⟨a1.sI, by rw [hpI_sIn (by decide)]; exact a2, by rw [hpI_sIn (by decide)]; exact a3, ⟨by rw [hpI_sIn (by decide)]; exact a4, by rw [hpI_sIn (by decide)]; exact a5, by rw [hpI_sIn (by decide)]; exact a6⟩, fun j hj => by rw [hpI_sIn (by decide)]; exact a7 j hj, ?_, fun p hp => by rw [hpI_sIn (by decide)]; exact a9 p hp, a10⟩
  rw [show hpI (hsI h 356 k 0) 356 = fup (hpI h 356) k 0 by show hpI (hrI h 356 _) 356 = _; rw [hpI_rI, if_pos rfl]]
  exact fup_z a8
/-- a shell's number is set to 0 -/
theorem n_sets (s : SR h) {i j : Nat} (hb : 83 * i + j < 83000) : mx_SM mY_X12_sets d [.ref 320, .int (nI i), .int (nI j), .int (0 : Int32)] h (mx_xct (.inl none) (hsI h 354 (83 * i + j) 0)) := k_X12_sets s hb
theorem n_of (s : SR h) {j : Nat} (hb : j < 83) {v : Int32} (e : hpI h 354 j = v) : mx_SM mY_X12_of d [.ref 320, .int (nI 0), .int (nI j)] h (mx_xct (.inl (some (.int v))) h) := by
  have := k_X12_of (d := d) (i := 0) (j := j) s (by omega)
  rw [show 83 * 0 + j = j by omega, e] at this
  exact this
theorem n_isStopped (s : SR h) (e : hpI h 356 2 = 0) : mx_SM mY_X12_isStoppedNow d [.ref 320] h (mx_xct (.inl (some (.int 0))) h) := by
  refine b_X12_isStoppedNow 320 ⟨sr_k s, 356, sr_r73 s, sr_k356 s, by rw [sr_z356 s]; exact vp_in_nI (n := 2) (by decide) (by decide), fun _ => ⟨rfl, rfl⟩, fun c => ?_⟩
  rw [show (2 : Int32).toNatClampNeg = 2 from rfl, e] at c
  exact absurd c (by decide)
theorem n_runsJobs (hd : 1 ≤ d) (s : SR h) (e : hpI h 354 49 = 0) : mx_SM mY_X12_runsJobs d [.ref 320, .int (0 : Int32)] h (mx_xct (.inl none) h) :=
  b_X12_runsJobs 320 _ (b_X12_runsJobs_2 320 _ _ ⟨hd, sr_k s, mx_xKI2 (n_of (j := 49) s (by decide) e) ⟨fun _ => ⟨rfl, rfl⟩, fun c => absurd (by decide) c⟩⟩)
theorem n_finishes (hd : 2 ≤ d) (o : OkH g h1) (r : Rn h1 h) : mx_SM mY_X12_finishes d [.ref 320, .int (0 : Int32)] h (mx_KV (Rn h1) fun _ _ => False) := by
  have s := r.1.sr o.sr
  refine b_X12_finishes 320 _ ⟨by omega, sr_k s, mx_xKI2 (n_of (j := 47) s (by decide) r.2.2.2.1.2.1) ⟨sr_k s, mx_xKV (n_sets (i := 0) (j := 46) s (by decide)) ?_⟩⟩
  have r1 := r.s354 (k := 83 * 0 + 46) (by decide)
  have s1 := r1.1.sr o.sr
  refine ⟨sr_k s1, mx_xKV (n_sets (i := 0) (j := 48) s1 (by decide)) ?_⟩
  have r2 := r1.s354 (k := 83 * 0 + 48) (by decide)
  have s2 := r2.1.sr o.sr
  have nm := k_X12_nameOf (d := d - 1) (i := 0) (j := 33) s2 (by decide)
  rw [show 34 * 0 + 33 = 33 from rfl, r2.2.2.2.2.2.2.2] at nm
  refine ⟨sr_k s2, mx_xKL2 nm ⟨fun _ => b_X12_finishes_129 320 _ ⟨by omega, sr_k s2, mx_xKV (n_runsJobs (by omega) s2 r2.2.2.2.1.2.2) (Or.inl ⟨rfl, r2⟩)⟩, fun c => absurd (by decide) c⟩⟩
theorem n_runsScript (hd : 1 ≤ d) (o : OkH g h1) (r : Rn h1 h) : mx_SM mY_X12_runsScript d [.ref 320, .int (0 : Int32), .int (-1 : Int32)] h (mx_KV (Rn h1) fun _ _ => False) := by
  have s := r.1.sr o.sr
  refine b_X12_runsScript 320 _ _ ⟨fun _ => b_X12_runsScript_15 320 _ _ ⟨hd, sr_k s, mx_xKV (n_sets (i := 0) (j := 33) s (by decide)) ?_⟩, fun c => absurd rfl c⟩
  have r1 := r.s354 (k := 83 * 0 + 33) (by decide)
  exact b_X12_runsScript_23 320 _ _ ⟨fun c => absurd rfl c, fun _ => b_X12_runsScript_39 320 _ _ ⟨fun _ => Or.inl ⟨rfl, r1⟩, fun c => absurd rfl c⟩⟩
theorem n_198 (hd : 2 ≤ d) (o : OkH g h1) {X : String → mxH → Prop} : ∀ m j h, j + m = 400 → Rn h1 h → mx_SX mY_X12_run d 198 [(0, .ref 320), (1, .int (nI j))] [] h (mx_KI (RZ0 g h1 0) X) := by
  intro m
  induction m with
  | zero =>
    intro j h hj r
    have : j = 400 := by omega
    subst this
    have s := r.1.sr o.sr
    have st := k_X12_statusOf_raw (d := d - 1) (by omega) s (s := 0) (by decide)
    rw [show 83 * 0 + 33 = 33 from rfl, r.2.2.2.1.1] at st
    exact b_X12_run_198 320 _ ⟨fun _ => ⟨by omega, sr_k s, mx_xKI2 st (Or.inl ⟨_, rfl, rfl, r.1.po o r.2.1⟩)⟩, fun c => absurd (show nI 400 ≤ nI 400 from nI_le (Nat.le_refl _) (by omega)) c⟩
  | succ m ih =>
    intro j h hj r
    have s := r.1.sr o.sr
    have e : hpI h 349 (nI j).toNatClampNeg = 0 := by rw [nI_clamp (by omega)]; exact r.2.2.2.2.2.2.1 j (by omega)
    refine b_X12_run_198 320 _ ⟨fun c => absurd c (show ¬ nI 400 ≤ nI j from nI_ge (by omega) (by omega)), fun _ => ⟨sr_k s, 349, sr_r63 s, sr_k349 s, by rw [sr_z349 s]; exact vp_in_nI (by omega) (by omega), fun _ => b_X12_run_219 320 _ ?_, fun c => absurd e c⟩⟩
    rw [nI_1]
    exact ih (j + 1) h (by omega) r
theorem n_175 (hd : 2 ≤ d) (o : OkH g h1) {X : String → mxH → Prop} : ∀ m j h, 1 ≤ j → j + m = 1000 → Rn h1 h → mx_SX mY_X12_run d 175 [(0, .ref 320), (1, .int (nI j))] [] h (mx_KI (RZ0 g h1 0) X) := by
  intro m
  induction m with
  | zero =>
    intro j h _ hj r
    have : j = 1000 := by omega
    subst this
    exact b_X12_run_175 320 _ ⟨fun _ => n_198 hd o 400 0 h rfl r, fun c => absurd (show nI 1000 ≤ nI 1000 from nI_le (Nat.le_refl _) (by omega)) c⟩
  | succ m ih =>
    intro j h h1j hj r
    have s := r.1.sr o.sr
    refine b_X12_run_175 320 _ ⟨fun c => absurd c (show ¬ nI 1000 ≤ nI j from nI_ge (by omega) (by omega)), fun _ => ⟨by omega, sr_k s, mx_xKV (n_sets (i := j) (j := 82) s (by omega)) ?_⟩⟩
    rw [nI_1]
    exact ih (j + 1) _ (by omega) (by omega) (r.s354 (by omega))
theorem n_152 (hd : 2 ≤ d) (o : OkH g h1) (r : Rn h1 h) {X : String → mxH → Prop} : mx_SX mY_X12_run d 152 [(0, .ref 320)] [] h (mx_KI (RZ0 g h1 0) X) := by
  have s := r.1.sr o.sr
  refine b_X12_run_152 320 ⟨sr_k s, ?_⟩
  rintro _ rfl
  have r1 := r.s320 (k := 69) (v := 0) (by decide) (by decide)
  have s1 := r1.1.sr o.sr
  refine ⟨by omega, mx_xKV (n_sets (i := 0) (j := 46) s1 (by decide)) ?_⟩
  have r2 := r1.s354 (k := 83 * 0 + 46) (by decide)
  have s2 := r2.1.sr o.sr
  refine ⟨sr_k s2, mx_xKV (n_sets (i := 0) (j := 48) s2 (by decide)) ?_⟩
  exact n_175 hd o 999 1 _ (Nat.le_refl _) rfl (r2.s354 (k := 83 * 0 + 48) (by decide))
theorem n_116 (hd : 2 ≤ d) (o : OkH g h1) (r : Rn h1 h) {X : String → mxH → Prop} : mx_SX mY_X12_run d 116 [(0, .ref 320)] [] h (mx_KI (RZ0 g h1 0) X) := by
  have s := r.1.sr o.sr
  exact b_X12_run_116 320 (b_X12_run_118 320 _ ⟨fun c => absurd c (by decide), fun _ => ⟨by omega, sr_k s, mx_xKI2 (n_isStopped s r.2.2.2.2.2.1) ⟨fun _ => n_152 hd o r, fun c => absurd rfl c⟩⟩⟩)
theorem n_65 (hd : 3 ≤ d) (o : OkH g h1) {X : String → mxH → Prop} : ∀ m j h, j + m = 10 → Rn h1 h → mx_SX mY_X12_run d 65 [(0, .ref 320), (1, .int (nI j))] [] h (mx_KI (RZ0 g h1 0) X) := by
  intro m
  induction m with
  | zero =>
    intro j h hj r
    have : j = 10 := by omega
    subst this
    have s := r.1.sr o.sr
    refine b_X12_run_65 320 _ ⟨fun _ => ⟨sr_k s, ?_⟩, fun c => absurd (show nI 10 ≤ nI 10 from nI_le (Nat.le_refl _) (by omega)) c⟩
    rintro _ rfl
    have r1 := r.s320 (k := 69) (v := 10) (by decide) (by decide)
    rw [r1.2.2.1]
    refine ⟨by omega, (n_runsScript (by omega) o r1).mono fun t h2 w => ?_⟩
    rcases w with ⟨w1, r2⟩ | ⟨E, -, w⟩
    · have s2 := r2.1.sr o.sr
      refine Or.inl ⟨w1, sr_k s2, mx_xKI2 (n_isStopped s2 r2.2.2.2.2.2.1) ⟨fun c => absurd rfl c, fun _ => ⟨sr_k s2, (n_finishes (by omega) o r2).mono fun t h3 w => ?_⟩⟩⟩
      rcases w with ⟨w1, r3⟩ | ⟨E, -, w⟩
      · exact Or.inl ⟨w1, n_116 (by omega) o r3⟩
      · exact w.elim
    · exact w.elim
  | succ m ih =>
    intro j h hj r
    have s := r.1.sr o.sr
    have hh := k_X12_handle (d := d - 1) (i := 0) (j := j) s (by decide) (by omega)
    refine b_X12_run_65 320 _ ⟨fun c => absurd c (show ¬ nI 10 ≤ nI j from nI_ge (by omega) (by omega)), fun _ => ⟨sr_k s, 352, sr_r68 s, by omega, mx_xKI2 hh ⟨sr_k352 s, by rw [sr_z352 s]; exact vp_in_nI (by omega) (by omega), ?_⟩⟩⟩
    rintro _ rfl
    rw [nI_1]
    exact ih (j + 1) _ (by omega) (r.sI (by decide) (by decide) (by decide) (by decide))
theorem n_11 (hd : 3 ≤ d) (o : OkH g h1) {X : String → mxH → Prop} : ∀ m j h, j + m = 184 → Rn h1 h → mx_SX mY_X12_run d 11 [(0, .ref 320), (1, .int (nI j))] [] h (mx_KI (RZ0 g h1 0) X) := by
  intro m
  induction m with
  | zero =>
    intro j h hj r
    have : j = 184 := by omega
    subst this
    have s := r.1.sr o.sr
    refine b_X12_run_11 320 _ ⟨fun _ => ⟨by omega, sr_k s, mx_xKV (n_sets (i := 0) (j := 49) s (by decide)) ?_⟩, fun c => absurd (show nI 184 ≤ nI 184 from nI_le (Nat.le_refl _) (by omega)) c⟩
    have r1 := r.s354 (k := 83 * 0 + 49) (by decide)
    have s1 := r1.1.sr o.sr
    refine ⟨sr_k s1, mx_xKV (n_sets (i := 0) (j := 46) s1 (by decide)) ?_⟩
    have r2 := r1.s354 (k := 83 * 0 + 46) (by decide)
    have s2 := r2.1.sr o.sr
    refine ⟨sr_k s2, mx_xKV (n_sets (i := 0) (j := 47) s2 (by decide)) ?_⟩
    have r3 := r2.s354 (k := 83 * 0 + 47) (by decide)
    have s3 := r3.1.sr o.sr
    refine ⟨sr_k s3, mx_xKV (n_sets (i := 0) (j := 48) s3 (by decide)) ?_⟩
    exact n_65 hd o 10 0 _ rfl (r3.s354 (k := 83 * 0 + 48) (by decide))
  | succ m ih =>
    intro j h hj r
    have s := r.1.sr o.sr
    refine b_X12_run_11 320 _ ⟨fun c => absurd c (show ¬ nI 184 ≤ nI j from nI_ge (by omega) (by omega)), fun _ => ⟨sr_k s, 356, sr_r73 s, sr_k356 s, by rw [sr_z356 s]; exact vp_in_nI (by omega) (by omega), ?_⟩⟩
    rintro _ rfl
    rw [nI_1]
    exact ih (j + 1) _ (by omega) r.s356
theorem rF_221 : ∀ p, p < 400 → (rF 221).2.2.1 p = 0 := by decide +kernel
theorem rs_run (hd : 4 ≤ d) (o : OkH g h1) {X : String → mxH → Prop} : mx_SM mY_X12_run d [.ref 320] h1 (mx_KI (RZ0 g h1 0) X) := by
  refine b_X12_run 320 ⟨sr_k o.sr, ?_⟩
  rintro _ rfl
  have t := o.tt
  have e82 : hpI (hsI h1 320 0 0) 320 82 = 0 := by rw [t.2.2.1 82 (by decide)]; exact rF_192.2.2.2.2.2.1
  have hdi : HdI (hsI h1 320 0 0) := o.hd.sI (by decide) (by decide)
  refine ⟨by omega, (k_keeps (d := d - 1) (by omega) t.1 hdi e82).mono fun r h3 w => ?_⟩
  rcases w with ⟨w1, h4, w2, rfl⟩ | ⟨E, -, w⟩
  · refine Or.inl ⟨w1, n_11 (by omega) o 184 0 _ rfl ?_⟩
    have I : ∀ a, a ≠ 361 → a ≠ 320 → hpI (hsI h4 320 82 1) a = hpI (hsI h1 320 0 0) a := fun a n1 n2 => by
      rw [show hpI (hsI h4 320 82 1) a = hpI h4 a by show hpI (hrI h4 320 (fup (hpI h4 320) 82 1)) a = _; rw [hpI_rI, if_neg n2]]
      exact w2.2.1 a n1
    have e320 : hpI (hsI h4 320 82 1) 320 = fup (hpI (hsI h1 320 0 0) 320) 82 1 := by rw [m_e320, w2.2.1 320 (by decide)]
    refine ⟨(w2.1 : RWr h1 h4), ?_, ?_, ⟨?_, ?_, ?_⟩, fun j hj => ?_, ?_, fun p hp => ?_, ?_⟩
    · rw [e320]; unfold fup; rw [if_neg (by decide)]; exact t.2.1.2.1
    · rw [e320]; unfold fup; rw [if_neg (by decide), t.2.2.1 50 (by decide)]; exact rF_192.2.2.2.1
    · rw [I 354 (by decide) (by decide), hdi.1 33 (by decide)]; rfl
    · rw [I 354 (by decide) (by decide), hdi.1 47 (by decide)]; rfl
    · rw [I 354 (by decide) (by decide), hdi.1 49 (by decide)]; rfl
    · rw [I 354 (by decide) (by decide), hdi.1 (36 + j) (by omega), if_neg (by omega)]
      by_cases c : j < 3
      · rw [if_neg (by omega)]; exact Or.inl rfl
      · rw [if_pos (by omega)]; exact Or.inr rfl
    · rw [I 356 (by decide) (by decide)]; exact t.told (by decide)
    · rw [I 349 (by decide) (by decide), t.I (by decide) (by decide)]; exact rF_221 p hp
    · show hpL h4 355 33 = 0
      rw [w2.2.2 355 (by decide), t.L (by decide) (by decide)]; exact rF_227 33 (by decide)
  · exact w.elim
end MXN0
