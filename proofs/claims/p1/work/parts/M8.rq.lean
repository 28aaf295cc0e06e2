/-! THE REFERENCE'S CALLS BEHIND THE CLASS'S FIRST ONE: the short ones (p1) -/
section MXM8
variable {g h1 h2 T : mxH} {d n k a : Nat} {x y : Int32} {z : Int64}
theorem OkH.sr (o : OkH g h1) : SR h1 := by
  have s : SR (H0 g) := h0_SR
  refine ⟨fun a x1 x2 => ?_, fun a x1 x2 => ?_, fun k x1 x2 => ?_, fun k x1 x2 => ?_⟩
  · rw [(o.1.2 a (by rw [h0_N]; omega)).1]; exact s.1 a x1 x2
  · rw [(o.1.2 a (by rw [h0_N]; omega)).2.1]; exact s.2.1 a x1 x2
  · rw [(o.2.1 320 (by decide) (by decide)).2.2]; exact s.2.2.1 k x1 x2
  · rw [(o.2.1 320 (by decide) (by decide)).2.1]; exact s.2.2.2 k x1 x2
theorem OkH.I {i : Nat} (o : OkH g h1) (x1 : 192 ≤ i) (x2 : i < 236) : hpI h1 (i + 128) = (rF i).2.2.1 := by exact (o.2.1 (i + 128) (by omega) (by omega)).1.trans h0_IJ
theorem OkH.L {i : Nat} (o : OkH g h1) (x1 : 192 ≤ i) (x2 : i < 236) : hpL h1 (i + 128) = (rF i).2.2.2.1 := by exact (o.2.1 (i + 128) (by omega) (by omega)).2.1.trans h0_LJ
/-- what the reference's call leaves -/
def RPo (g h1 : mxH) (k : Nat) (h2 : mxH) : Prop := FP (H0 g) h2 ∧ hpI h2 320 0 = nI k ∧ hpC h2 = hpC h1 ∧ hpS h2 = hpS h1 ∧ hpL h2 364 = hpL h1 364
/-- thrown was set to 0 -/
def TT (g h1 T : mxH) : Prop := SR T ∧ RPo g h1 0 T ∧ (∀ k, k ≠ 0 → hpI T 320 k = (rF 192).2.2.1 k) ∧ (∀ i, 193 ≤ i → i < 236 → hpI T (i + 128) = (rF i).2.2.1) ∧ ∀ i, 192 ≤ i → i < 236 → hpL T (i + 128) = (rF i).2.2.2.1
theorem TT.I {i : Nat} (t : TT g h1 T) (x1 : 193 ≤ i) (x2 : i < 236) : hpI T (i + 128) = (rF i).2.2.1 := by exact t.2.2.2.1 i x1 x2
theorem TT.L {i : Nat} (t : TT g h1 T) (x1 : 192 ≤ i) (x2 : i < 236) : hpL T (i + 128) = (rF i).2.2.2.1 := by exact t.2.2.2.2 i x1 x2
theorem OkH.tt (o : OkH g h1) : TT g h1 (hsI h1 320 0 0) := by
  refine ⟨o.sr, ⟨o.1.I, ?_, rfl, rfl, rfl⟩, fun k hk => ?_, fun a x1 x2 => ?_, fun a x1 x2 => o.L x1 x2⟩
  · rw [hpI_sI, if_pos rfl, if_pos rfl]; rfl
  · rw [hpI_sI, if_pos rfl, if_neg hk, o.I (by decide) (by decide)]
  · rw [show hpI (hsI h1 320 0 0) (a + 128) = hpI h1 (a + 128) by show hpI (hrI h1 320 (fup (hpI h1 320) 0 0)) (a + 128) = _; rw [hpI_rI, if_neg (by omega)]]
    exact o.I (by omega) x2
theorem TT.x1 (t : TT g h1 T) : RPo g h1 1 (hsI T 320 0 1) := by
  obtain ⟨t1, ⟨r1, r2, r3, r4, r5⟩, -⟩ := t
  exact ⟨r1.I, by rw [hpI_sI, if_pos rfl, if_pos rfl]; rfl, r3, r4, r5⟩
theorem rF_192 : (rF 192).2.2.1 3 = 0 ∧ (rF 192).2.2.1 11 = -1 ∧ (rF 192).2.2.1 12 = 0 ∧ (rF 192).2.2.1 50 = -1 ∧ (rF 192).2.2.1 67 = 0 ∧ (rF 192).2.2.1 82 = 0 ∧ (rF 192).2.2.1 84 = 0 := by decide +kernel
theorem rF_226 : ∀ k, k < 83 → (rF 226).2.2.1 k = if k = 82 then 1 else if 39 ≤ k ∧ k < 46 then -1 else 0 := by decide +kernel
theorem rF_227 : ∀ k, k < 34 → (rF 227).2.2.2.1 k = 0 := by decide +kernel
theorem rF_228 : ∀ k, k < 184 → (rF 228).2.2.1 k = 0 := by decide +kernel
theorem rF_214 : (rF 214).2.2.1 0 = 0 ∧ (rF 214).2.2.1 329 = 0 ∧ (rF 214).2.2.1 370 = 0 := by decide +kernel
theorem rF_216 : (rF 216).2.2.1 0 = 1 := by decide +kernel
/-- an answer of the reference -/
abbrev RZ0 (g h1 : mxH) (v : Int32) : Int32 → mxH → Prop := fun w h2 => w = v ∧ RPo g h1 0 h2
abbrev RZ1 (g h1 : mxH) : Int32 → mxH → Prop := fun _ h2 => RPo g h1 1 h2
theorem TT.of (t : TT g h1 T) {j : Nat} (hj : j < 83) : mx_SM mY_X12_of d [.ref 320, .int (nI 0), .int (nI j)] T (mx_xct (.inl (some (.int (if j = 82 then 1 else if 39 ≤ j ∧ j < 46 then -1 else 0)))) T) := by
  have := k_X12_of (d := d) (i := 0) (j := j) t.1 (by omega)
  rw [show 83 * 0 + j = j by omega, t.I (by decide) (by decide)] at this
  rw [← rF_226 j hj]
  exact this
theorem r_thr0 {c : Int32} : mx_SM mY_X12_throwsIf d [.ref 320, .int (0 : Int32), .int c] T (mx_xct (.inl (some (.int 0))) T) :=
  b_X12_throwsIf 320 0 c ⟨fun _ => ⟨Or.inl rfl, rfl, rfl⟩, fun c => absurd rfl c⟩
theorem r_thr1 (s : SR T) {c : Int32} : mx_SM mY_X12_throwsIf d [.ref 320, .int (1 : Int32), .int c] T (mx_xct (.inl (some (.int 1))) (hsI T 320 0 c)) := by
  refine b_X12_throwsIf 320 1 c ⟨fun c => absurd c (by decide), fun _ => ⟨sr_k s, ?_⟩⟩
  rintro _ rfl
  exact ⟨Or.inr rfl, rfl, rfl⟩
theorem rs_errorOffset (o : OkH g h1) {X : String → mxH → Prop} : mx_SM mY_X12_errorOffset d [.ref 320] h1 (mx_KI (RZ0 g h1 (-1)) X) := by
  refine b_X12_errorOffset 320 ⟨sr_k o.sr, ?_⟩
  rintro _ rfl
  exact Or.inl ⟨_, rfl, by rw [o.tt.2.2.1 11 (by decide)]; exact rF_192.2.1, o.tt.2.1⟩
theorem rs_errorKind (o : OkH g h1) {X : String → mxH → Prop} : mx_SM mY_X12_errorKind d [.ref 320] h1 (mx_KI (RZ0 g h1 0) X) := by
  refine b_X12_errorKind 320 ⟨sr_k o.sr, ?_⟩
  rintro _ rfl
  exact Or.inl ⟨_, rfl, by rw [o.tt.2.2.1 12 (by decide)]; exact rF_192.2.2.1, o.tt.2.1⟩
theorem rs_truncate (o : OkH g h1) {X : String → mxH → Prop} : mx_SM mY_X12_truncate d [.ref 320, .int x] h1 (mx_KI (RZ0 g h1 (trV x)) X) := by
  refine b_X12_truncate 320 x ⟨sr_k o.sr, ?_⟩
  rintro _ rfl
  have e3 : hpI (hsI h1 320 0 0) 320 3 = 0 := by rw [o.tt.2.2.1 3 (by decide)]; exact rF_192.1
  rw [e3]
  refine ⟨fun c => Or.inl ⟨_, rfl, by unfold trV; rw [if_pos c], o.tt.2.1⟩, fun c => ⟨fun c2 => ?_, fun c2 => Or.inl ⟨_, rfl, by unfold trV; rw [if_neg c, if_neg c2], o.tt.2.1⟩⟩⟩
  rintro _ rfl
  refine Or.inl ⟨_, rfl, by unfold trV; rw [if_neg c, if_pos c2], ?_⟩
  obtain ⟨r1, r2, r3, r4, r5⟩ := o.tt.2.1
  exact ⟨r1.I, by rw [hpI_sI, if_pos rfl, if_neg (by decide)]; exact r2, r3, r4, r5⟩
theorem rs_undo (o : OkH g h1) {X : String → mxH → Prop} : mx_SM mY_X12_undo d [.ref 320] h1 (mx_KI (RZ0 g h1 (-1)) X) := by
  refine b_X12_undo 320 ⟨sr_k o.sr, ?_⟩
  rintro _ rfl
  have e : hpI (hsI h1 320 0 0) 320 82 = 0 := by rw [o.tt.2.2.1 82 (by decide)]; exact rF_192.2.2.2.2.2.1
  exact ⟨fun c => absurd e c, fun _ => Or.inl ⟨_, rfl, rfl, o.tt.2.1⟩⟩
theorem rs_undoDepth (o : OkH g h1) {X : String → mxH → Prop} : mx_SM mY_X12_undoDepth d [.ref 320] h1 (mx_KI (RZ0 g h1 0) X) := by
  refine b_X12_undoDepth 320 ⟨sr_k o.sr, ?_⟩
  rintro _ rfl
  exact Or.inl ⟨_, rfl, by rw [o.tt.2.2.1 82 (by decide)]; exact rF_192.2.2.2.2.2.1, o.tt.2.1⟩
theorem TT.statusOf (hd : 1 ≤ d) (t : TT g h1 T) : mx_SM mY_X12_statusOf d [.ref 320, .int (nI 0)] T (mx_xct (.inl (some (.int 0))) T) := by
  have := k_X12_statusOf_raw (d := d) hd t.1 (s := 0) (by omega)
  rw [show 83 * 0 + 33 = 33 from rfl, t.I (by decide) (by decide), show (rF 226).2.2.1 33 = 0 from rF_226 33 (by decide)] at this
  exact this
theorem rs_status (hd : 2 ≤ d) (o : OkH g h1) {X : String → mxH → Prop} : mx_SM mY_X12_status d [.ref 320] h1 (mx_KI (RZ0 g h1 0) X) := by
  refine b_X12_status 320 ⟨sr_k o.sr, ?_⟩
  rintro _ rfl
  exact ⟨by omega, mx_xKI2 (TT.statusOf (by omega) o.tt) (Or.inl ⟨_, rfl, rfl, o.tt.2.1⟩)⟩
theorem TT.told (t : TT g h1 T) {j : Nat} (hj : j < 184) : hpI T 356 j = 0 := by
  rw [t.I (by decide) (by decide)]; exact rF_228 j hj
theorem TT.isStoppedNow (t : TT g h1 T) : mx_SM mY_X12_isStoppedNow d [.ref 320] T (mx_xct (.inl (some (.int 0))) T) := by
  refine b_X12_isStoppedNow 320 ?_
  simp only [show (2 : Int32).toNatClampNeg = 2 from rfl, sr_k t.1, sr_r73 t.1, sr_k356 t.1, sr_z356 t.1, t.told (j := 2) (by decide), show vp_in (2 : Int32) 184 ↔ True from vpT (n := 2) (by decide) (by decide), true_and, Option.some.injEq, exists_eq_left', show ((0 : Int32) = 1) ↔ False from ⟨(by decide : ¬ (0 : Int32) = 1), False.elim⟩, false_implies, not_false_eq_true, true_implies, and_true]
  exact ⟨rfl, rfl⟩
theorem rs_isStopped (hd : 2 ≤ d) (o : OkH g h1) {X : String → mxH → Prop} : mx_SM mY_X12_isStopped d [.ref 320] h1 (mx_KI (RZ0 g h1 0) X) := by
  refine b_X12_isStopped 320 ⟨sr_k o.sr, ?_⟩
  rintro _ rfl
  exact ⟨by omega, mx_xKI2 (TT.isStoppedNow o.tt) ⟨Or.inl rfl, Or.inl ⟨_, rfl, rfl, o.tt.2.1⟩⟩⟩
theorem rs_begun (o : OkH g h1) {X : String → mxH → Prop} : mx_SM mY_X12_begun d [.ref 320] h1 (mx_KI (RZ0 g h1 0) X) := by
  refine b_X12_begun 320 ⟨sr_k o.sr, ?_⟩
  rintro _ rfl
  have t := o.tt
  exact ⟨356, sr_r73 t.1, sr_k356 t.1, by rw [sr_z356 t.1]; exact vp_in_nI (n := 0) (by decide) (by decide), Or.inl ⟨_, rfl, t.told (j := 0) (by decide), t.2.1⟩⟩
theorem rs_forks (o : OkH g h1) {X : String → mxH → Prop} : mx_SM mY_X12_forks d [.ref 320] h1 (mx_KI (RZ0 g h1 0) X) := by
  refine b_X12_forks 320 ⟨sr_k o.sr, ?_⟩
  rintro _ rfl
  have t := o.tt
  exact ⟨356, sr_r73 t.1, sr_k356 t.1, by rw [sr_z356 t.1]; exact vp_in_nI (n := 1) (by decide) (by decide), Or.inl ⟨_, rfl, t.told (j := 1) (by decide), t.2.1⟩⟩
theorem rs_traceCount (o : OkH g h1) {X : String → mxH → Prop} : mx_SM mY_X12_traceCount d [.ref 320] h1 (mx_KI (RZ0 g h1 0) X) := by
  refine b_X12_traceCount 320 ⟨sr_k o.sr, ?_⟩
  rintro _ rfl
  have t := o.tt
  exact ⟨356, sr_r73 t.1, sr_k356 t.1, by rw [sr_z356 t.1]; exact vp_in_nI (n := 3) (by decide) (by decide), Or.inl ⟨_, rfl, t.told (j := 3) (by decide), t.2.1⟩⟩
theorem rs_failures (o : OkH g h1) {X : String → mxH → Prop} : mx_SM mY_X12_failures d [.ref 320] h1 (mx_KI (RZ0 g h1 0) X) := by
  refine b_X12_failures 320 ⟨sr_k o.sr, ?_⟩
  rintro _ rfl
  have t := o.tt
  refine b_X12_failures_9 320 0 0 ⟨sr_k t.1, 356, sr_r73 t.1, sr_k356 t.1, by rw [sr_z356 t.1]; exact vp_in_nI (n := 3) (by decide) (by decide), fun _ => Or.inl ⟨_, rfl, rfl, t.2.1⟩, fun c => ?_⟩
  rw [show (3 : Int32).toNatClampNeg = 3 from rfl, t.told (j := 3) (by decide)] at c
  exact absurd (by decide) c
theorem rs_jobCount (hd : 1 ≤ d) (o : OkH g h1) {X : String → mxH → Prop} : mx_SM mY_X12_jobCount d [.ref 320] h1 (mx_KI (RZ0 g h1 0) X) := by
  refine b_X12_jobCount 320 ⟨sr_k o.sr, ?_⟩
  rintro _ rfl
  exact ⟨by omega, mx_xKI2 (o.tt.of (j := 49) (by decide)) (Or.inl ⟨_, rfl, rfl, o.tt.2.1⟩)⟩
theorem rs_variableCount (hd : 1 ≤ d) (o : OkH g h1) {X : String → mxH → Prop} : mx_SM mY_X12_variableCount d [.ref 320] h1 (mx_KI (RZ0 g h1 0) X) := by
  refine b_X12_variableCount 320 ⟨sr_k o.sr, ?_⟩
  rintro _ rfl
  exact ⟨by omega, mx_xKI2 (o.tt.of (j := 0) (by decide)) (Or.inl ⟨_, rfl, rfl, o.tt.2.1⟩)⟩
theorem rs_functionCount (hd : 1 ≤ d) (o : OkH g h1) {X : String → mxH → Prop} : mx_SM mY_X12_functionCount d [.ref 320] h1 (mx_KI (RZ0 g h1 0) X) := by
  refine b_X12_functionCount 320 ⟨sr_k o.sr, ?_⟩
  rintro _ rfl
  exact ⟨by omega, mx_xKI2 (o.tt.of (j := 21) (by decide)) (Or.inl ⟨_, rfl, rfl, o.tt.2.1⟩)⟩
theorem rs_isPipefail (hd : 1 ≤ d) (o : OkH g h1) {X : String → mxH → Prop} : mx_SM mY_X12_isPipefail d [.ref 320] h1 (mx_KI (RZ0 g h1 0) X) := by
  refine b_X12_isPipefail 320 ⟨sr_k o.sr, ?_⟩
  rintro _ rfl
  exact ⟨by omega, mx_xKI2 (o.tt.of (j := 32) (by decide)) ⟨fun _ => Or.inl ⟨_, rfl, rfl, o.tt.2.1⟩, fun c => absurd c (by decide)⟩⟩
theorem TT.variableOf (hd : 1 ≤ d) (t : TT g h1 T) : mx_SM mY_X12_variableOf d [.ref 320, .int (0 : Int32), .long z] T (mx_xct (.inl (some (.int (-1)))) T) :=
  b_X12_variableOf 320 0 z (b_X12_variableOf_3 320 0 z 0 ⟨hd, sr_k t.1, mx_xKI2 (t.of (j := 0) (by decide)) ⟨fun _ => ⟨rfl, rfl⟩, fun c => absurd (by decide) c⟩⟩)
theorem TT.functionOf (hd : 1 ≤ d) (t : TT g h1 T) : mx_SM mY_X12_functionOf d [.ref 320, .int (0 : Int32), .long z] T (mx_xct (.inl (some (.int (-1)))) T) :=
  b_X12_functionOf 320 0 z (b_X12_functionOf_3 320 0 z 0 ⟨hd, sr_k t.1, mx_xKI2 (t.of (j := 21) (by decide)) ⟨fun _ => ⟨rfl, rfl⟩, fun c => absurd (by decide) c⟩⟩)
theorem rs_isSet (hd : 2 ≤ d) (o : OkH g h1) {X : String → mxH → Prop} : mx_SM mY_X12_isSet d [.ref 320, .long z] h1 (mx_KI (RZ0 g h1 0) X) := by
  refine b_X12_isSet 320 z ⟨sr_k o.sr, ?_⟩
  rintro _ rfl
  exact ⟨by omega, mx_xKI2 (TT.variableOf (by omega) o.tt) ⟨fun _ => Or.inl ⟨_, rfl, rfl, o.tt.2.1⟩, fun c => absurd rfl c⟩⟩
theorem rs_isDefined (hd : 2 ≤ d) (o : OkH g h1) {X : String → mxH → Prop} : mx_SM mY_X12_isDefined d [.ref 320, .long z] h1 (mx_KI (RZ0 g h1 0) X) := by
  refine b_X12_isDefined 320 z ⟨sr_k o.sr, ?_⟩
  rintro _ rfl
  exact ⟨by omega, mx_xKI2 (TT.functionOf (by omega) o.tt) ⟨fun _ => Or.inl ⟨_, rfl, rfl, o.tt.2.1⟩, fun c => absurd rfl c⟩⟩
theorem rs_formatVariable (hd : 2 ≤ d) (o : OkH g h1) {X : String → mxH → Prop} : mx_SM mY_X12_formatVariable d [.ref 320, .long z] h1 (mx_KI (RZ0 g h1 (-1)) X) := by
  refine b_X12_formatVariable 320 z ⟨sr_k o.sr, ?_⟩
  rintro _ rfl
  exact ⟨by omega, mx_xKI2 (TT.variableOf (by omega) o.tt) ⟨fun c => absurd rfl c, fun _ => Or.inl ⟨_, rfl, rfl, o.tt.2.1⟩⟩⟩
theorem TT.W (t : TT g h1 T) : hpI T 342 0 = 0 ∧ hpI T 342 329 = 0 ∧ hpI T 342 370 = 0 := by
  rw [t.I (by decide) (by decide)]; exact rF_214
theorem rs_fileCount (o : OkH g h1) {X : String → mxH → Prop} : mx_SM mY_X12_fileCount d [.ref 320] h1 (mx_KI (RZ0 g h1 0) X) := by
  refine b_X12_fileCount 320 ⟨sr_k o.sr, ?_⟩
  rintro _ rfl
  have t := o.tt
  exact ⟨342, sr_r56 t.1, sr_k342 t.1, by rw [sr_z342 t.1]; exact vp_in_nI (n := 0) (by decide) (by decide), Or.inl ⟨_, rfl, t.W.1, t.2.1⟩⟩
theorem rs_inputCount (o : OkH g h1) {X : String → mxH → Prop} : mx_SM mY_X12_inputCount d [.ref 320] h1 (mx_KI (RZ0 g h1 0) X) := by
  refine b_X12_inputCount 320 ⟨sr_k o.sr, ?_⟩
  rintro _ rfl
  have t := o.tt
  exact ⟨342, sr_r56 t.1, sr_k342 t.1, by rw [sr_z342 t.1]; exact vp_in_nI (n := 329) (by decide) (by decide), Or.inl ⟨_, rfl, t.W.2.1, t.2.1⟩⟩
theorem rs_outputCount (o : OkH g h1) {X : String → mxH → Prop} : mx_SM mY_X12_outputCount d [.ref 320] h1 (mx_KI (RZ0 g h1 0) X) := by
  refine b_X12_outputCount 320 ⟨sr_k o.sr, ?_⟩
  rintro _ rfl
  have t := o.tt
  exact ⟨342, sr_r56 t.1, sr_k342 t.1, by rw [sr_z342 t.1]; exact vp_in_nI (n := 370) (by decide) (by decide), Or.inl ⟨_, rfl, t.W.2.2, t.2.1⟩⟩
theorem rs_fileNamed (hd : 1 ≤ d) (o : OkH g h1) {X : String → mxH → Prop} : mx_SM mY_X12_fileNamed d [.ref 320, .long z] h1 (mx_KI (RZ0 g h1 (-1)) X) := by
  refine b_X12_fileNamed 320 z ⟨sr_k o.sr, ?_⟩
  rintro _ rfl
  have t := o.tt
  refine ⟨hd, b_X12_fileOf 320 z (b_X12_fileOf_2 320 z 0 ⟨sr_k t.1, 342, sr_r56 t.1, sr_k342 t.1, by rw [sr_z342 t.1]; exact vp_in_nI (n := 0) (by decide) (by decide), fun _ => Or.inl ⟨_, rfl, Or.inl ⟨_, rfl, rfl, t.2.1⟩⟩, fun c => ?_⟩)⟩
  rw [show (0 : Int32).toNatClampNeg = 0 from rfl, t.W.1] at c
  exact absurd (by decide) c
/-- a number that must lie in 0 .. -1 -/
theorem in_m1 {b : Int32} (e : b = -1) : (if (0 : Int32) ≤ x ∧ x ≤ b then (1 : Int32) else 0) = 0 := by
  rw [if_neg]
  rintro ⟨c1, c2⟩
  rw [e] at c2
  exact absurd (Int32.le_trans c1 c2) (by decide)
theorem TT.noFile (hd : 1 ≤ d) (t : TT g h1 T) : mx_SM mY_X12_noFile d [.ref 320, .int x] T (mx_xct (.inl (some (.int 1))) (hsI T 320 0 1)) := by
  refine b_X12_noFile 320 x ⟨sr_k t.1, 342, sr_r56 t.1, sr_k342 t.1, by rw [sr_z342 t.1]; exact vp_in_nI (n := 0) (by decide) (by decide), hd, mx_xKI2 k_X12_in ?_⟩
  rw [in_m1 (by rw [show (0 : Int32).toNatClampNeg = 0 from rfl, t.W.1]; decide)]
  exact ⟨fun c => absurd rfl c, fun _ => ⟨sr_k t.1, mx_xKI2 (r_thr1 t.1) ⟨Or.inr rfl, rfl, rfl⟩⟩⟩
theorem rs_lineCount (hd : 2 ≤ d) (o : OkH g h1) {X : String → mxH → Prop} : mx_SM mY_X12_lineCount d [.ref 320, .int x] h1 (mx_KI (RZ1 g h1) X) := by
  refine b_X12_lineCount 320 x ⟨sr_k o.sr, ?_⟩
  rintro _ rfl
  exact ⟨by omega, mx_xKI2 (TT.noFile (by omega) o.tt) ⟨fun c => absurd c (by decide), fun _ => Or.inl ⟨_, rfl, o.tt.x1⟩⟩⟩
theorem rs_formatName (hd : 2 ≤ d) (o : OkH g h1) {X : String → mxH → Prop} : mx_SM mY_X12_formatName d [.ref 320, .int x] h1 (mx_KI (RZ1 g h1) X) := by
  refine b_X12_formatName 320 x ⟨sr_k o.sr, ?_⟩
  rintro _ rfl
  exact ⟨by omega, mx_xKI2 (TT.noFile (by omega) o.tt) ⟨fun c => absurd c (by decide), fun _ => Or.inl ⟨_, rfl, o.tt.x1⟩⟩⟩
theorem rs_formatLine (hd : 2 ≤ d) (o : OkH g h1) {X : String → mxH → Prop} : mx_SM mY_X12_formatLine d [.ref 320, .int x, .int y] h1 (mx_KI (RZ1 g h1) X) := by
  refine b_X12_formatLine 320 x y ⟨sr_k o.sr, ?_⟩
  rintro _ rfl
  exact ⟨by omega, mx_xKI2 (TT.noFile (by omega) o.tt) ⟨fun _ => b_X12_formatLine_41 (Or.inl ⟨_, rfl, o.tt.x1⟩), fun c => absurd c (by decide)⟩⟩
theorem rs_formatOutput (hd : 2 ≤ d) (o : OkH g h1) {X : String → mxH → Prop} : mx_SM mY_X12_formatOutput d [.ref 320, .int x] h1 (mx_KI (RZ1 g h1) X) := by
  refine b_X12_formatOutput 320 x ⟨sr_k o.sr, ?_⟩
  rintro _ rfl
  have t := o.tt
  refine ⟨342, sr_r56 t.1, sr_k342 t.1, by rw [sr_z342 t.1]; exact vp_in_nI (n := 370) (by decide) (by decide), by omega, mx_xKI2 k_X12_in ?_⟩
  rw [in_m1 (by rw [show (370 : Int32).toNatClampNeg = 370 from rfl, t.W.2.2]; decide)]
  exact ⟨fun c => absurd rfl c, fun _ => ⟨sr_k t.1, mx_xKI2 (r_thr1 t.1) ⟨fun c => absurd c (by decide), fun _ => Or.inl ⟨_, rfl, t.x1⟩⟩⟩⟩
theorem rs_traceField (hd : 2 ≤ d) (o : OkH g h1) {X : String → mxH → Prop} : mx_SM mY_X12_traceField d [.ref 320, .int x, .int y] h1 (mx_KI (RZ1 g h1) X) := by
  refine b_X12_traceField 320 x y ⟨sr_k o.sr, ?_⟩
  rintro _ rfl
  have t := o.tt
  refine ⟨356, sr_r73 t.1, sr_k356 t.1, by rw [sr_z356 t.1]; exact vp_in_nI (n := 3) (by decide) (by decide), by omega, mx_xKI2 k_X12_in ?_⟩
  rw [in_m1 (by rw [show (3 : Int32).toNatClampNeg = 3 from rfl, t.told (j := 3) (by decide)]; decide)]
  exact ⟨fun c => absurd rfl c, fun _ => ⟨sr_k t.1, mx_xKI2 (r_thr1 t.1) ⟨fun _ => b_X12_traceField_56 (Or.inl ⟨_, rfl, t.x1⟩), fun c => absurd c (by decide)⟩⟩⟩
theorem rs_formattedByte (hd : 1 ≤ d) (o : OkH g h1) {X : String → mxH → Prop} : mx_SM mY_X12_formattedByte d [.ref 320, .int x] h1 (mx_KI (RZ0 g h1 (-1)) X) := by
  refine b_X12_formattedByte 320 x ⟨sr_k o.sr, ?_⟩
  rintro _ rfl
  have t := o.tt
  refine ⟨hd, mx_xKI2 k_X12_in ?_⟩
  rw [in_m1 (by rw [t.2.2.1 84 (by decide), rF_192.2.2.2.2.2.2]; decide)]
  exact ⟨fun _ => Or.inl ⟨_, rfl, rfl, t.2.1⟩, fun c => absurd rfl c⟩
theorem rs_jobStatus (hd : 1 ≤ d) (o : OkH g h1) {X : String → mxH → Prop} : mx_SM mY_X12_jobStatus d [.ref 320, .int x] h1 (mx_KI (RZ0 g h1 (-1)) X) := by
  refine b_X12_jobStatus 320 x ⟨sr_k o.sr, ?_⟩
  rintro _ rfl
  have t := o.tt
  refine ⟨hd, mx_xKI2 (t.of (j := 49) (by decide)) (mx_xKI2 k_X12_in ?_)⟩
  have e : (if (1 : Int32) ≤ x ∧ x ≤ (if (49 : Nat) = 82 then (1 : Int32) else if 39 ≤ 49 ∧ 49 < 46 then -1 else 0) then (1 : Int32) else 0) = 0 := by
    rw [if_neg]
    rintro ⟨c1, c2⟩
    exact absurd (Int32.le_trans c1 c2) (by decide)
  rw [e]
  exact ⟨fun _ => Or.inl ⟨_, rfl, rfl, t.2.1⟩, fun c => absurd rfl c⟩
/-- the kind of a handle of the fresh world -/
theorem TT.kindOf (hd : 1 ≤ d) (t : TT g h1 T) {i : Nat} (hi : i < 10) : mx_SM mY_X12_kindOf d [.ref 320, .int (nI i)] T (mx_xct (.inl (some (.int (if i < 3 then 1 else 0)))) T) := by
  have K : ∀ d', mx_SM mY_X12_handle d' [.ref 320, .int (nI 0), .int (nI i)] T (mx_xct (.inl (some (.int (if i < 3 then 0 else -1)))) T) := fun d' => by
    have := k_X12_handle (d := d') (i := 0) (j := i) t.1 (by decide) hi
    rw [show 83 * 0 + 36 + i = 36 + i by omega, t.I (by decide) (by decide), show (rF 226).2.2.1 (36 + i) = _ from rF_226 (36 + i) (by omega), if_neg (by omega)] at this
    by_cases c : i < 3
    · rw [if_neg (by omega)] at this
      rw [if_pos c]
      exact this
    · rw [if_pos (by omega)] at this
      rw [if_neg c]
      exact this
  refine b_X12_kindOf 320 _ ⟨hd, sr_k t.1, mx_xKI2 (K _) ⟨fun c => ?_, fun c => ?_⟩⟩
  · have c3 : i < 3 := by
      rcases Nat.lt_or_ge i 3 with q | q
      · exact q
      · exact absurd (by rw [if_neg (by omega)]) c
    refine ⟨sr_k t.1, 344, sr_r58 t.1, mx_xKI2 (K _) ⟨sr_k344 t.1, ?_, ?_⟩⟩
    · rw [if_pos c3, sr_z344 t.1]; exact vp_in_nI (n := 0) (by decide) (by decide)
    · rw [if_pos c3, if_pos c3, show (0 : Int32).toNatClampNeg = 0 from rfl, t.I (by decide) (by decide), show (rF 216).2.2.1 0 = 1 from rF_216]
      exact ⟨rfl, rfl⟩
  · have c3 : ¬ i < 3 := fun q => by rw [if_pos q] at c; exact absurd c (by decide)
    rw [if_neg c3]
    exact ⟨rfl, rfl⟩
theorem rs_handleKind (hd : 2 ≤ d) (o : OkH g h1) {X : String → mxH → Prop} {i : Nat} (hi : i < 10) : mx_SM mY_X12_handleKind d [.ref 320, .int (nI i)] h1 (mx_KI (RZ0 g h1 (if i < 3 then 1 else 0)) X) := by
  refine b_X12_handleKind 320 _ ⟨sr_k o.sr, ?_⟩
  rintro _ rfl
  have t := o.tt
  refine ⟨by omega, mx_xKI2 k_X12_in ?_⟩
  rw [if_pos ⟨nI_pos' (by omega), nI_le (b := 9) (by omega) (by decide)⟩]
  exact ⟨fun _ => ⟨sr_k t.1, mx_xKI2 r_thr0 ⟨fun _ => ⟨sr_k t.1, mx_xKI2 (TT.kindOf (by omega) t hi) (Or.inl ⟨_, rfl, rfl, t.2.1⟩)⟩, fun c => absurd rfl c⟩⟩, fun c => absurd c (by decide)⟩
theorem in_out {b : Int32} (c : x < 0 ∨ ¬ x < b + 1) (hb : b < b + 1) : (if (0 : Int32) ≤ x ∧ x ≤ b then (1 : Int32) else 0) = 0 := by
  rw [if_neg]
  rintro ⟨c1, c2⟩
  rcases c with q | q
  · exact absurd c1 (Int32.not_le.mpr q)
  · exact q (Int32.lt_of_le_of_lt c2 hb)
theorem rs_handleKindX (hd : 2 ≤ d) (o : OkH g h1) {X : String → mxH → Prop} (c : x < 0 ∨ ¬ x < 10) : mx_SM mY_X12_handleKind d [.ref 320, .int x] h1 (mx_KI (RZ1 g h1) X) := by
  refine b_X12_handleKind 320 _ ⟨sr_k o.sr, ?_⟩
  rintro _ rfl
  have t := o.tt
  refine ⟨by omega, mx_xKI2 k_X12_in ?_⟩
  rw [in_out (b := 9) c (by decide)]
  exact ⟨fun c => absurd rfl c, fun _ => ⟨sr_k t.1, mx_xKI2 (r_thr1 t.1) ⟨fun c => absurd c (by decide), fun _ => Or.inl ⟨_, rfl, t.x1⟩⟩⟩⟩
theorem rs_actionOf (hd : 2 ≤ d) (o : OkH g h1) {X : String → mxH → Prop} {i : Nat} (hi : i < 4) : mx_SM mY_X12_actionOf d [.ref 320, .int (nI i)] h1 (mx_KL (fun v h2 => v = 0 ∧ RPo g h1 0 h2) X) := by
  refine b_X12_actionOf 320 _ ⟨sr_k o.sr, ?_⟩
  rintro _ rfl
  have t := o.tt
  refine ⟨by omega, mx_xKI2 k_X12_in ?_⟩
  rw [if_pos ⟨nI_pos' (by omega), nI_le (b := 3) (by omega) (by decide)⟩]
  refine ⟨fun _ => ⟨sr_k t.1, mx_xKI2 r_thr0 ⟨fun _ => ⟨sr_k t.1, ?_⟩, fun c => absurd rfl c⟩⟩, fun c => absurd c (by decide)⟩
  rw [show (30 : Int32) + nI i = nI (30 + i) from nI_add 30 i]
  have := k_X12_nameOf (d := d - 1) (i := 0) (j := 30 + i) t.1 (by omega)
  rw [show 34 * 0 + (30 + i) = 30 + i by omega, t.L (by decide) (by decide), show (rF 227).2.2.2.1 (30 + i) = 0 from rF_227 (30 + i) (by omega)] at this
  exact mx_xKL2 this (Or.inl ⟨_, rfl, rfl, t.2.1⟩)
theorem rs_actionOfX (hd : 2 ≤ d) (o : OkH g h1) {X : String → mxH → Prop} (c : x < 0 ∨ ¬ x < 4) : mx_SM mY_X12_actionOf d [.ref 320, .int x] h1 (mx_KL (fun _ h2 => RPo g h1 1 h2) X) := by
  refine b_X12_actionOf 320 _ ⟨sr_k o.sr, ?_⟩
  rintro _ rfl
  have t := o.tt
  refine ⟨by omega, mx_xKI2 k_X12_in ?_⟩
  rw [in_out (b := 3) c (by decide)]
  exact ⟨fun c => absurd rfl c, fun _ => ⟨sr_k t.1, mx_xKI2 (r_thr1 t.1) ⟨fun c => absurd c (by decide), fun _ => Or.inl ⟨_, rfl, t.x1⟩⟩⟩⟩
theorem rs_thrown (s : SR h2) {k : Nat} (e : hpI h2 320 0 = nI k) : mx_SM mY_X12_thrown d [.ref 320] h2 (mx_xct (.inl (some (.int (nI k)))) h2) :=
  b_X12_thrown 320 ⟨sr_k s, by rw [e]; exact ⟨rfl, rfl⟩⟩
end MXM8
