/-! THE CLASS'S CALLS ON THE FRESH HEAP: the short ones (p1) -/
section MXM7
variable {g h1 : mxH} {d n k a : Nat} {x y : Int32} {z : Int64}
/-- what the first call leaves for the reference -/
def RRow (g h1 : mxH) : Prop := ∀ a, 320 ≤ a → a < 364 → hpI h1 a = hpI (H0 g) a ∧ hpL h1 a = hpL (H0 g) a ∧ hpR h1 a = hpR (H0 g) a
def OkH (g h1 : mxH) : Prop := FP (H0 g) h1 ∧ RRow g h1 ∧ hpI h1 0 = hpI g 0 ∧ hpC h1 ≤ 100000 ∧ hpS h1 ≤ 3000000
theorem OkH.rf : OkH g (H0 g) := ⟨FP.rf, fun _ _ _ => ⟨rfl, rfl, rfl⟩, hpI_mkLo (by decide), by show 237 ≤ 100000; decide, by show 952454 ≤ 3000000; decide⟩
theorem OkH.th : OkH g (hth (H0 g)) := ⟨(FP.rf : FP (H0 g) (H0 g)), fun _ _ _ => ⟨rfl, rfl, rfl⟩, hpI_mkLo (by decide), by show 238 ≤ 100000; decide, by show 952460 ≤ 3000000; decide⟩
theorem OkH.sI {v : Int32} (o : OkH g h1) (ha : a < 320) (h0 : a ≠ 0) : OkH g (hsI h1 a k v) := by
  obtain ⟨o1, o2, o3, o4, o5⟩ := o
  refine ⟨o1.I, fun b b1 b2 => ?_, ?_, o4, o5⟩
  · obtain ⟨q1, q2, q3⟩ := o2 b b1 b2
    exact ⟨by rw [show hpI (hsI h1 a k v) b = hpI h1 b by show hpI (hrI h1 a _) b = _; rw [hpI_rI, if_neg (by omega)]]; exact q1, q2, q3⟩
  · rw [show hpI (hsI h1 a k v) 0 = hpI h1 0 by show hpI (hrI h1 a _) 0 = _; rw [hpI_rI, if_neg (fun e => h0 e.symm)]]
    exact o3
theorem OkH.out {v : Int64} (o : OkH g h1) : OkH g (hsL h1 364 0 v) := by
  obtain ⟨o1, o2, o3, o4, o5⟩ := o
  refine ⟨o1.L, fun b b1 b2 => ?_, o3, o4, o5⟩
  obtain ⟨q1, q2, q3⟩ := o2 b b1 b2
  exact ⟨q1, by rw [hpL_sLr (by omega)]; exact q2, q3⟩
theorem OkH.sc (o : OkH g h1) : SC h1 := h0_SC.fp o.1
/-- an answer of the class: v, in the fresh heap -/
abbrev CA (g : mxH) (v : Int32) : Int32 → mxH → Prop := fun w h1 => w = v ∧ OkH g h1
abbrev CX (g : mxH) (E : String) : String → mxH → Prop := fun E' h1 => E' = E ∧ OkH g h1
theorem caX {Y : mxY} {As : List Value} {v : Int32} {X : String → mxH → Prop} (k : mx_SM Y d As (H0 g) (mx_xct (.inl (some (.int v))) (H0 g))) : mx_SM Y d As (H0 g) (mx_KI (CA g v) X) := mx_xKI2 k ⟨rfl, OkH.rf⟩
theorem h0_w0 : nI (wF w00).length = 0 ∧ nI (wI w00).length = 0 ∧ nI (wP w00).length = 0 ∧ nI (fV F00).length = 0 ∧ nI (fU F00).length = 0 ∧ nI (wB w00) = 0 ∧ nI (wK w00) = 0 ∧ nI ([] : List Int32).length = 0 := by decide
theorem q_errorOffset {X : String → mxH → Prop} : mx_SM mY_X11_errorOffset d [.ref 128] (H0 g) (mx_KI (CA g (-1)) X) := by
  refine caX (b_X11_errorOffset 128 ⟨sc_k128 h0_SC, 281, sc_r128_8 h0_SC, sc_k281 h0_SC, ?_⟩)
  rw [show hpI (H0 g) 281 8 = -1 by rw [h0_IJ]; decide +kernel]
  exact ⟨rfl, rfl⟩
theorem q_errorKind {X : String → mxH → Prop} : mx_SM mY_X11_errorKind d [.ref 128] (H0 g) (mx_KI (CA g 0) X) := by
  refine caX (b_X11_errorKind 128 ⟨sc_k128 h0_SC, 281, sc_r128_8 h0_SC, sc_k281 h0_SC, ?_⟩)
  rw [show hpI (H0 g) 281 7 = 0 by rw [h0_IJ]; decide +kernel]
  exact ⟨rfl, rfl⟩
theorem h0_I128 : hpI (H0 g) 128 1 = 0 ∧ hpI (H0 g) 128 3 = 0 ∧ hpI (H0 g) 140 3 = 0 ∧ hpI (H0 g) 140 5 = 0 ∧ hpI (H0 g) 140 7 = 0 ∧ hpI (H0 g) 140 10 = 0 ∧ hpI (H0 g) 146 14 = 0 ∧ hpI (H0 g) 147 2 = 0 ∧ hpI (H0 g) 150 2 = 0 := by
  rw [h0_IJ, h0_IJ, h0_IJ, h0_IJ, h0_IJ]
  decide +kernel
/-- truncate on the empty text -/
def trV (x : Int32) : Int32 := if x < 0 then 0 else if x ≤ 0 then 1 else 0
theorem q_truncate {X : String → mxH → Prop} : mx_SM mY_X11_truncate d [.ref 128, .int x] (H0 g) (mx_KI (CA g (trV x)) X) := by
  refine b_X11_truncate 128 x ⟨fun c => ?_, fun c => ⟨sc_k128 h0_SC, fun c2 => ?_, fun c2 => ?_⟩⟩
  · exact Or.inl ⟨_, rfl, by unfold trV; rw [if_pos c], OkH.rf⟩
  · rintro _ rfl
    rw [h0_I128.1] at c2
    exact Or.inl ⟨_, rfl, by unfold trV; rw [if_neg c, if_pos c2], OkH.rf.sI (by decide) (by decide)⟩
  · rw [h0_I128.1] at c2
    exact Or.inl ⟨_, rfl, by unfold trV; rw [if_neg c, if_neg c2], OkH.rf⟩
theorem q_jobStatus (hd : 1 ≤ d) {X : String → mxH → Prop} : mx_SM mY_X11_jobStatus d [.ref 128, .int x] (H0 g) (mx_KI (CA g (-1)) X) := by
  have s : SC (H0 g) := h0_SC
  refine b_X11_jobStatus 128 x ⟨fun c => Or.inl ⟨_, rfl, rfl, OkH.rf⟩, fun c => ⟨sc_k128 s, 140, sc_r128_5 s, (sc_w s).k0, 146, (sc_w s).r8, (sc_w s).sb.k0, fun c2 => ?_, fun _ => Or.inl ⟨_, rfl, rfl, OkH.rf⟩⟩⟩
  rw [h0_I128.2.2.2.2.2.2.1] at c2
  exfalso
  have e1 := Int32.not_lt.mp c
  exact absurd (Int32.le_trans e1 c2) (by decide)
theorem q_handleKind (hd : 12 ≤ d) : mx_SM mY_X11_handleKind d [.ref 128, .int x] (H0 g) (mx_KI (fun v h1 => (∃ i, i < 10 ∧ x = nI i ∧ v = if i < 3 then 1 else 0) ∧ OkH g h1) fun E h1 => E = "java/lang/IndexOutOfBoundsException" ∧ (x < 0 ∨ ¬ x < 10) ∧ OkH g h1) := by
  have s : SC (H0 g) := h0_SC
  refine b_X11_handleKind 128 x ⟨fun c => b_X11_handleKind_10 ⟨hd, Or.inr ⟨_, rfl, rfl, Or.inl c, OkH.th⟩⟩, fun c => ⟨fun c2 => ?_, fun c2 => b_X11_handleKind_10 ⟨hd, Or.inr ⟨_, rfl, rfl, Or.inr c2, OkH.th⟩⟩⟩⟩
  obtain ⟨i, hi, rfl⟩ := nI_of c
  have i10 : i < 10 := (nI_ltI (b := 10) hi (by decide)).mp c2
  have at155 : hd_at (H0 g) 154 135 155 := ⟨(sc_w s).sb.k8, (sc_w s).sb.r8_0, (sc_w s).sb.r8_1, sc_k135 s, (sc_w s).sb.k9, (sc_w s).sb.z9⟩
  have rw5 : hd_row (H0 g) 155 := fun j hj b e => by
    rw [h0_row hj] at e
    by_cases cj : j < 3
    · rw [if_pos cj] at e; cases e; rw [h0_KJ]; exact rF_191.1
    · rw [if_neg cj] at e; cases e
  refine ⟨sc_k128 s, 140, sc_r128_5 s, (sc_w s).k0, 146, (sc_w s).r8, (sc_w s).sb.k0, 154, (sc_w s).sb.r0_3, by omega, (sc_w s).sb.k8, mx_xKI2 (k_X2_kindOf (by omega) at155 i10 rw5 (fun b e => ?_)) ?_⟩
  · rw [h0_row i10] at e
    by_cases cj : i < 3
    · rw [if_pos cj] at e; cases e; rw [h0_N]; decide
    · rw [if_neg cj] at e; cases e
  · refine Or.inl ⟨_, rfl, ⟨i, i10, rfl, ?_⟩, OkH.rf⟩
    unfold hd_kind
    rw [h0_row i10]
    by_cases cj : i < 3
    · rw [if_pos cj, if_pos cj]
      show hpI (H0 g) 319 0 = 1
      rw [h0_IJ]; exact rF_191.2.1
    · rw [if_neg cj, if_neg cj]
theorem q_find {t b : Nat} (hd : 1 ≤ d) (ht : hpK (H0 g) t = 9) (hr : hpR (H0 g) t 0 = some b) (hb : hpK (H0 g) b = 15) (hn : hpI (H0 g) t 2 = 0) (hz : hpZ (H0 g) b < 2 ^ 31) : mx_SM mY_X9_find d [.ref t, .long z] (H0 g) (mx_xct (.inl (some (.int (-1)))) (H0 g)) :=
  k_X9_find (n := 0) ht hr hb hn (Nat.zero_le _) hz
theorem q_isSet (hd : 2 ≤ d) {X : String → mxH → Prop} : mx_SM mY_X11_isSet d [.ref 128, .long z] (H0 g) (mx_KI (CA g 0) X) := by
  have s : SC (H0 g) := h0_SC
  refine b_X11_isSet 128 z ⟨sc_k128 s, 140, sc_r128_5 s, (sc_w s).k0, 146, (sc_w s).r8, (sc_w s).sb.k0, 147, (sc_w s).sb.r0_0, by omega, (sc_w s).sb.k1, mx_xKI2 (q_find (b := 148) (by omega) (sc_w s).sb.k1 (sc_w s).sb.r1_0 (sc_w s).sb.k2 h0_I128.2.2.2.2.2.2.2.1 (by rw [(sc_w s).sb.z2]; decide)) ⟨fun _ => Or.inl ⟨_, rfl, rfl, OkH.rf⟩, fun c => absurd (by decide) c⟩⟩
theorem q_isDefined (hd : 2 ≤ d) {X : String → mxH → Prop} : mx_SM mY_X11_isDefined d [.ref 128, .long z] (H0 g) (mx_KI (CA g 0) X) := by
  have s : SC (H0 g) := h0_SC
  refine b_X11_isDefined 128 z ⟨sc_k128 s, 140, sc_r128_5 s, (sc_w s).k0, 146, (sc_w s).r8, (sc_w s).sb.k0, 150, (sc_w s).sb.r0_1, by omega, (sc_w s).sb.k4, mx_xKI2 (q_find (b := 151) (by omega) (sc_w s).sb.k4 (sc_w s).sb.r4_0 (sc_w s).sb.k5 h0_I128.2.2.2.2.2.2.2.2 (by rw [(sc_w s).sb.z5]; decide)) ⟨fun _ => Or.inl ⟨_, rfl, rfl, OkH.rf⟩, fun c => absurd (by decide) c⟩⟩
theorem q_formatVariable (hd : 2 ≤ d) {X : String → mxH → Prop} : mx_SM mY_X11_formatVariable d [.ref 128, .long z] (H0 g) (mx_KI (CA g (-1)) X) := by
  have s : SC (H0 g) := h0_SC
  refine b_X11_formatVariable 128 z ⟨sc_k128 s, 140, sc_r128_5 s, (sc_w s).k0, 146, (sc_w s).r8, (sc_w s).sb.k0, 147, (sc_w s).sb.r0_0, by omega, (sc_w s).sb.k1, mx_xKI2 (q_find (b := 148) (by omega) (sc_w s).sb.k1 (sc_w s).sb.r1_0 (sc_w s).sb.k2 h0_I128.2.2.2.2.2.2.2.1 (by rw [(sc_w s).sb.z2]; decide)) ⟨fun c => absurd c (by decide), fun _ => Or.inl ⟨_, rfl, rfl, OkH.rf⟩⟩⟩
theorem q_actionOf (hd : 12 ≤ d) : mx_SM mY_X11_actionOf d [.ref 128, .int x] (H0 g) (mx_KL (fun v h1 => (∃ i, i < 4 ∧ x = nI i) ∧ v = 0 ∧ OkH g h1) fun E h1 => E = "java/lang/IndexOutOfBoundsException" ∧ (x < 0 ∨ ¬ x < 4) ∧ OkH g h1) := by
  have s : SC (H0 g) := h0_SC
  refine b_X11_actionOf 128 x ⟨fun c => b_X11_actionOf_9 ⟨hd, Or.inr ⟨_, rfl, rfl, Or.inl c, OkH.th⟩⟩, fun c => ⟨fun c2 => ?_, fun c2 => b_X11_actionOf_9 ⟨hd, Or.inr ⟨_, rfl, rfl, Or.inr c2, OkH.th⟩⟩⟩⟩
  obtain ⟨i, hi, rfl⟩ := nI_of c
  have i4 : i < 4 := (nI_ltI (b := 4) hi (by decide)).mp c2
  refine ⟨sc_k128 s, 140, sc_r128_5 s, (sc_w s).k0, 146, (sc_w s).r8, (sc_w s).sb.k0, 153, (sc_w s).sb.r0_2, (sc_w s).sb.k7, by rw [(sc_w s).sb.z7]; exact vp_in_nI i4 (by decide), Or.inl ⟨_, rfl, ⟨i, i4, rfl⟩, ?_, OkH.rf⟩⟩
  rw [nI_clamp hi, h0_LJ]
  exact rF_S.2.2.2.2.2.2.2.2.2 i i4
theorem q_fileNamed (hd : 1 ≤ d) {X : String → mxH → Prop} : mx_SM mY_X11_fileNamed d [.ref 128, .long z] (H0 g) (mx_KI (CA g (-1)) X) := by
  have s : SC (H0 g) := h0_SC
  exact b_X11_fileNamed 128 z ⟨sc_k128 s, 140, sc_r128_5 s, by omega, (sc_w s).k0, mx_xKI2 (k_X10_findFile (n := 0) (sc_w s) h0_I128.2.2.1 (Nat.zero_le _)) (Or.inl ⟨_, rfl, rfl, OkH.rf⟩)⟩
theorem q_checkFile (hd : 12 ≤ d) : mx_SM mY_X11_checkFile d [.ref 128, .int x] (H0 g) (mx_KV (fun _ => False) (CX g "java/lang/IndexOutOfBoundsException")) := by
  have s : SC (H0 g) := h0_SC
  refine b_X11_checkFile 128 x ⟨fun _ => b_X11_checkFile_15 ⟨hd, Or.inr ⟨_, rfl, rfl, OkH.th⟩⟩, fun c => ⟨sc_k128 s, 140, sc_r128_5 s, (sc_w s).k0, fun c2 => ?_, fun _ => b_X11_checkFile_15 ⟨hd, Or.inr ⟨_, rfl, rfl, OkH.th⟩⟩⟩⟩
  rw [h0_I128.2.2.1] at c2
  exact absurd c2 c
/-- a call that throws before anything else -/
theorem q_thr {Y y : mxY} {As : List Value} {E : String} {P : mxH → Prop} {P2 : Int32 → mxH → Prop} (hy : y.2.2.2.2 = []) (k : mx_SM Y d As (H0 g) (mx_KV (fun _ => False) (CX g E))) : mx_SM Y d As (H0 g) (mx_KV P (mx_XX y (mx_KI P2 (CX g E)))) :=
  k.mono fun r h1 q => by
    rcases q with ⟨_, q⟩ | ⟨E', q1, q2⟩
    · exact q.elim
    · exact Or.inr ⟨E', q1, hy, Or.inr ⟨E', rfl, q2⟩⟩
theorem q_lineCount (hd : 13 ≤ d) : mx_SM mY_X11_lineCount d [.ref 128, .int x] (H0 g) (mx_KI (fun _ _ => False) (CX g "java/lang/IndexOutOfBoundsException")) :=
  b_X11_lineCount 128 x ⟨by omega, sc_k128 h0_SC, q_thr rfl (q_checkFile (by omega))⟩
theorem q_formatLine (hd : 13 ≤ d) : mx_SM mY_X11_formatLine d [.ref 128, .int x, .int y] (H0 g) (mx_KI (fun _ _ => False) (CX g "java/lang/IndexOutOfBoundsException")) :=
  b_X11_formatLine 128 x y ⟨by omega, sc_k128 h0_SC, q_thr rfl (q_checkFile (by omega))⟩
theorem q_formatName (hd : 13 ≤ d) : mx_SM mY_X11_formatName d [.ref 128, .int x] (H0 g) (mx_KI (fun _ _ => False) (CX g "java/lang/IndexOutOfBoundsException")) :=
  b_X11_formatName 128 x ⟨by omega, sc_k128 h0_SC, q_thr rfl (q_checkFile (by omega))⟩
theorem q_traceLength (hd : 1 ≤ d) : mx_SM mY_X10_traceLength d [.ref 140] (H0 g) (mx_xct (.inl (some (.int 0))) (H0 g)) := by
  refine b_X10_traceLength 140 ⟨(sc_w h0_SC).k0, hd, ?_⟩
  rw [h0_I128.2.2.2.2.2.1]
  exact ⟨rfl, rfl⟩
theorem q_traceCount (hd : 2 ≤ d) {X : String → mxH → Prop} : mx_SM mY_X11_traceCount d [.ref 128] (H0 g) (mx_KI (CA g 0) X) :=
  b_X11_traceCount 128 ⟨sc_k128 h0_SC, 140, sc_r128_5 h0_SC, by omega, (sc_w h0_SC).k0, mx_xKI2 (q_traceLength (by omega)) (Or.inl ⟨_, rfl, rfl, OkH.rf⟩)⟩
theorem q_traceField (hd : 12 ≤ d) : mx_SM mY_X11_traceField d [.ref 128, .int x, .int y] (H0 g) (mx_KI (fun _ _ => False) (CX g "java/lang/IndexOutOfBoundsException")) :=
  b_X11_traceField 128 x y ⟨fun _ => b_X11_traceField_15 ⟨hd, Or.inr ⟨_, rfl, rfl, OkH.th⟩⟩, fun c => ⟨sc_k128 h0_SC, 140, sc_r128_5 h0_SC, by omega, (sc_w h0_SC).k0, mx_xKI2 (q_traceLength (by omega)) ⟨fun c2 => absurd c2 c, fun _ => b_X11_traceField_15 ⟨hd, Or.inr ⟨_, rfl, rfl, OkH.th⟩⟩⟩⟩⟩
theorem q_failures (hd : 2 ≤ d) {X : String → mxH → Prop} : mx_SM mY_X11_failures d [.ref 128] (H0 g) (mx_KI (CA g 0) X) :=
  b_X11_failures 128 ⟨sc_k128 h0_SC, 140, sc_r128_5 h0_SC, by omega, (sc_w h0_SC).k0, mx_xKI2 (q_traceLength (by omega)) (b_X11_failures_12 128 _ _ _ ⟨fun _ => Or.inl ⟨_, rfl, rfl, OkH.rf⟩, fun c => absurd (by decide) c⟩)⟩
theorem q_formatOutput (hd : 12 ≤ d) : mx_SM mY_X11_formatOutput d [.ref 128, .int x] (H0 g) (mx_KI (fun _ _ => False) (CX g "java/lang/IndexOutOfBoundsException")) := by
  have s : SC (H0 g) := h0_SC
  refine b_X11_formatOutput 128 x ⟨fun _ => b_X11_formatOutput_21 ⟨hd, Or.inr ⟨_, rfl, rfl, OkH.th⟩⟩, fun c => ⟨sc_k128 s, 140, sc_r128_5 s, (sc_w s).k0, fun _ => b_X11_formatOutput_21 ⟨hd, Or.inr ⟨_, rfl, rfl, OkH.th⟩⟩, fun c2 => ?_⟩⟩
  rw [h0_I128.2.2.2.2.1] at c2
  exact absurd (Int32.not_lt.mp c) c2
theorem q_formattedByte {X : String → mxH → Prop} : mx_SM mY_X11_formattedByte d [.ref 128, .int x] (H0 g) (mx_KI (CA g (-1)) X) := by
  have s : SC (H0 g) := h0_SC
  refine b_X11_formattedByte 128 x ⟨fun _ => Or.inl ⟨_, rfl, rfl, OkH.rf⟩, fun c => ⟨sc_k128 s, fun _ => Or.inl ⟨_, rfl, rfl, OkH.rf⟩, fun c2 => ?_⟩⟩
  rw [h0_I128.2.1] at c2
  exact absurd (Int32.not_lt.mp c) c2
/-- the twelve questions, and undo -/
theorem q_12 (hg : ∀ a, a < 128 → hpK g a = 21) {X : String → mxH → Prop} : mx_SM mY_X11_status d [.ref 128] (H0 g) (mx_KI (CA g 0) X) ∧ mx_SM mY_X11_isStopped d [.ref 128] (H0 g) (mx_KI (CA g 0) X) ∧ mx_SM mY_X11_begun d [.ref 128] (H0 g) (mx_KI (CA g 0) X) ∧ mx_SM mY_X11_forks d [.ref 128] (H0 g) (mx_KI (CA g 0) X) ∧ mx_SM mY_X11_jobCount d [.ref 128] (H0 g) (mx_KI (CA g 0) X) ∧ mx_SM mY_X11_undoDepth d [.ref 128] (H0 g) (mx_KI (CA g 0) X) ∧
    mx_SM mY_X11_isPipefail d [.ref 128] (H0 g) (mx_KI (CA g 0) X) ∧ mx_SM mY_X11_fileCount d [.ref 128] (H0 g) (mx_KI (CA g 0) X) ∧ mx_SM mY_X11_inputCount d [.ref 128] (H0 g) (mx_KI (CA g 0) X) ∧ mx_SM mY_X11_outputCount d [.ref 128] (H0 g) (mx_KI (CA g 0) X) ∧ mx_SM mY_X11_variableCount d [.ref 128] (H0 g) (mx_KI (CA g 0) X) ∧ mx_SM mY_X11_functionCount d [.ref 128] (H0 g) (mx_KI (CA g 0) X) :=
  ⟨caX (k_X11_status (h0_IDW hg)), caX (k_X11_isStopped (h0_IDW hg)), caX (k_X11_begun (h0_IDW hg)), caX (k_X11_forks (h0_IDW hg)), caX (k_X11_jobCount (h0_IDW hg)), caX (k_X11_undoDepth h0_SC h0_PsW), caX (k_X11_isPipefail (h0_IDW hg)), caX (k_X11_fileCount (h0_IDW hg)), caX (k_X11_inputCount (h0_IDW hg)), caX (k_X11_outputCount (h0_IDW hg)), caX (k_X11_variableCount (h0_IDW hg)), caX (k_X11_functionCount (h0_IDW hg))⟩
theorem q_undo {X : String → mxH → Prop} : mx_SM mY_X11_undo d [.ref 128] (H0 g) (mx_KI (CA g (-1)) X) := caX (k_X11_undo_no h0_SC h0_PsW)
end MXM7
