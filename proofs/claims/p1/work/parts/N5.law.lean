/-! THE LAW with its one call (p1; PRINTED by wip/p1/genN5.py) -/
section MXN5
variable {g h h' h1 h2 : mxH} {k a j : Nat}
def LQ (r : mxRes) (h : mxH) : Prop := r = .inl (some (.int 1)) ∧ hpC h ≤ 600002 ∧ hpS h ≤ 7302231
abbrev LV : List (Nat × Value) := [(0, .ref 0), (1, .ref 128), (2, .ref 320), (3, .ref 364), (4, .int (0 : Int32))]
theorem l_out (hz : hpZ h 0 = 6) (hC : hpC h ≤ 600002) (hS : hpS h ≤ 7302231) : mx_SX mY_L_law 2048 1326 LV [] h LQ :=
  b_L_law_1326 128 320 364 0 (b_L_law_23 128 320 364 _ ⟨fun _ => ⟨rfl, hC, hS⟩, fun c => absurd (by rw [hz]; decide) c⟩)
theorem h0_Z0 : hpZ (H0 g) 0 = hpZ g 0 := by exact hpZ_mkLo (by decide)
theorem fp_Z0 (f : FP (H0 g) h) : hpZ h 0 = hpZ g 0 := by rw [(f.2 0 (by rw [h0_N]; decide)).2.1]; exact h0_Z0
theorem l_end (o : OkH g h1) (r : RPo g h1 k h2) (hz : hpZ g 0 = 6) : mx_SX mY_L_law 2048 1326 LV [] h2 LQ := by
  obtain ⟨-, -, -, o4, o5⟩ := o
  obtain ⟨r1, -, r3, r4, -⟩ := r
  exact l_out ((fp_Z0 r1).trans hz) (by omega) (by omega)
theorem fp_364 (f : FP (H0 g) h) : hpK h 364 = 15 ∧ hpZ h 364 = 1 := by
  obtain ⟨q1, q2, -⟩ := f.2 364 (by rw [h0_N]; decide)
  rw [q1, q2, h0_KJ, h0_ZJ]
  decide +kernel
theorem fp_sr (f : FP (H0 g) h) : hpK h 320 = 12 := by
  rw [(f.2 320 (by rw [h0_N]; decide)).1]
  exact sr_k h0_SR
theorem n_thrown (f : FP (H0 g) h) {k : Nat} (e : hpI h 320 0 = nI k) {d : Nat} : mx_SM mY_X12_thrown d [.ref 320] h (mx_xct (.inl (some (.int (nI k)))) h) :=
  b_X12_thrown 320 ⟨fp_sr f, by rw [e]; exact ⟨rfl, rfl⟩⟩
theorem OkH.r0 (o : OkH g h1) : hpI h1 0 = hpI (H0 g) 0 := by
  rw [o.2.2.1]
  exact (hpI_mkLo (by decide)).symm
theorem OkH.z0 (o : OkH g h1) (hz : hpZ g 0 = 6) : hpZ h1 0 = 6 := (fp_Z0 o.1).trans hz
theorem m_Ls {v : Int64} : hpL (hsL h 364 0 v) 364 0 = v := by
  show hpL (hrL h 364 (fup (hpL h 364) 0 v)) 364 0 = v
  rw [hpL_rL, if_pos rfl]
  rfl
theorem l_th0 {W : Int64} (o : OkH g h1) (e : hpL h1 364 0 = W) (r : RPo g h1 0 h2) (hz : hpZ g 0 = 6) {pc : Nat} (J : ∀ h, mx_SX mY_L_law 2048 1326 LV [] h LQ → mx_SX mY_L_law 2048 pc LV [] h LQ) {X : String → mxH → Prop} :
    hpK h2 320 = 12 ∧ mx_SM mY_X12_thrown (2048 - 1) [.ref 320] h2 (mx_KI (fun v3 h3 => ((v3 = (0 : Int32) → ((¬ (0 : Int32) = 0 → mx_SX mY_L_law 2048 pc LV [] h3 LQ) ∧ ((0 : Int32) = 0 → hpK h3 364 = 15 ∧ vp_in (0 : Int32) (hpZ h3 364) ∧ (((lg_cmp (hpL h3 364 (0 : Int32).toNatClampNeg) W) = 0 → mx_SX mY_L_law 2048 pc LV [] h3 LQ) ∧ (¬ (lg_cmp (hpL h3 364 (0 : Int32).toNatClampNeg) W) = 0 → LQ (.inl (some (.int (0 : Int32)))) h3))))) ∧ (¬ v3 = (0 : Int32) → LQ (.inl (some (.int (0 : Int32)))) h3))) X) := by
  have E := J h2 (l_end o r hz)
  have f := fp_364 r.1
  refine ⟨fp_sr r.1, mx_xKI2 (n_thrown r.1 r.2.1) ⟨fun _ => ⟨fun _ => E, fun _ => ⟨f.1, by rw [f.2]; exact vp_in_nI (n := 0) (by decide) (by decide), fun _ => E, fun c => ?_⟩⟩, fun c => absurd rfl c⟩⟩
  refine absurd ((lg_cmp_eq _ _).mpr ?_) c
  rw [show (0 : Int32).toNatClampNeg = 0 from rfl, r.2.2.2.2]
  exact e
theorem l_th1 {A : mxH → Prop} (o : OkH g h1) (r : RPo g h1 1 h2) (hz : hpZ g 0 = 6) {pc : Nat} (J : ∀ h, mx_SX mY_L_law 2048 1326 LV [] h LQ → mx_SX mY_L_law 2048 pc LV [] h LQ) {X : String → mxH → Prop} :
    hpK h2 320 = 12 ∧ mx_SM mY_X12_thrown (2048 - 1) [.ref 320] h2 (mx_KI (fun v3 h3 => ((v3 = (1 : Int32) → ((¬ (1 : Int32) = 0 → mx_SX mY_L_law 2048 pc LV [] h3 LQ) ∧ ((1 : Int32) = 0 → A h3))) ∧ (¬ v3 = (1 : Int32) → LQ (.inl (some (.int (0 : Int32)))) h3))) X) :=
  ⟨fp_sr r.1, mx_xKI2 (n_thrown r.1 r.2.1) ⟨fun _ => ⟨fun _ => J h2 (l_end o r hz), fun c => absurd c (by decide)⟩, fun c => absurd rfl c⟩⟩
theorem l_v1 (z : hpZ h 0 = 6) : vp_in ((0 : Int32) + (1 : Int32)) (hpZ h 0) := by
  rw [z, show ((0 : Int32) + (1 : Int32)) = nI 1 by decide]
  exact vp_in_nI (by decide) (by decide)
theorem l_v2 (z : hpZ h 0 = 6) : vp_in ((0 : Int32) + (2 : Int32)) (hpZ h 0) := by
  rw [z, show ((0 : Int32) + (2 : Int32)) = nI 2 by decide]
  exact vp_in_nI (by decide) (by decide)
theorem l_v3 (z : hpZ h 0 = 6) : vp_in ((0 : Int32) + (3 : Int32)) (hpZ h 0) := by
  rw [z, show ((0 : Int32) + (3 : Int32)) = nI 3 by decide]
  exact vp_in_nI (by decide) (by decide)
theorem l_v4 (z : hpZ h 0 = 6) : vp_in ((0 : Int32) + (4 : Int32)) (hpZ h 0) := by
  rw [z, show ((0 : Int32) + (4 : Int32)) = nI 4 by decide]
  exact vp_in_nI (by decide) (by decide)
theorem l_v5 (z : hpZ h 0 = 6) : vp_in ((0 : Int32) + (5 : Int32)) (hpZ h 0) := by
  rw [z, show ((0 : Int32) + (5 : Int32)) = nI 5 by decide]
  exact vp_in_nI (by decide) (by decide)
theorem lc_errorOffset (hg : ∀ a, a < 128 → hpK g a = 21) (hs : SGg g) (hz : hpZ g 0 = 6) : mx_SX mY_L_law 2048 342 LV [] (H0 g) LQ :=
  b_L_law_342 128 320 364 0 ⟨by decide, sc_k128 h0_SC, mx_uI (q_errorOffset) fun v1 h1 w => ⟨fp_sr w.2.1, mx_uI (rs_errorOffset w.2) fun v2 h2 w2 => ⟨fun _ => l_end w.2 w2.2 hz, fun c => absurd (w.1.trans w2.1.symm) c⟩⟩⟩
theorem lc_errorKind (hg : ∀ a, a < 128 → hpK g a = 21) (hs : SGg g) (hz : hpZ g 0 = 6) : mx_SX mY_L_law 2048 355 LV [] (H0 g) LQ :=
  b_L_law_355 128 320 364 0 ⟨by decide, sc_k128 h0_SC, mx_uI (q_errorKind) fun v1 h1 w => ⟨fp_sr w.2.1, mx_uI (rs_errorKind w.2) fun v2 h2 w2 => ⟨fun _ => l_end w.2 w2.2 hz, fun c => absurd (w.1.trans w2.1.symm) c⟩⟩⟩
theorem lc_run (hg : ∀ a, a < 128 → hpK g a = 21) (hs : SGg g) (hz : hpZ g 0 = 6) : mx_SX mY_L_law 2048 412 LV [] (H0 g) LQ :=
  b_L_law_412 128 320 364 0 ⟨by decide, sc_k128 h0_SC, mx_uI (q_run (by decide) hg hs) fun v1 h1 w => ⟨fp_sr w.2.1, mx_uI (rs_run (by decide) w.2) fun v2 h2 w2 => ⟨fun _ => l_end w.2 w2.2 hz, fun c => absurd (w.1.trans w2.1.symm) c⟩⟩⟩
theorem lc_status (hg : ∀ a, a < 128 → hpK g a = 21) (hs : SGg g) (hz : hpZ g 0 = 6) : mx_SX mY_L_law 2048 425 LV [] (H0 g) LQ :=
  b_L_law_425 128 320 364 0 ⟨by decide, sc_k128 h0_SC, mx_uI ((q_12 hg).1) fun v1 h1 w => ⟨fp_sr w.2.1, mx_uI (rs_status (by decide) w.2) fun v2 h2 w2 => ⟨fun _ => l_end w.2 w2.2 hz, fun c => absurd (w.1.trans w2.1.symm) c⟩⟩⟩
theorem lc_isStopped (hg : ∀ a, a < 128 → hpK g a = 21) (hs : SGg g) (hz : hpZ g 0 = 6) : mx_SX mY_L_law 2048 438 LV [] (H0 g) LQ :=
  b_L_law_438 128 320 364 0 ⟨by decide, sc_k128 h0_SC, mx_uI ((q_12 hg).2.1) fun v1 h1 w => ⟨fp_sr w.2.1, mx_uI (rs_isStopped (by decide) w.2) fun v2 h2 w2 => ⟨fun _ => l_end w.2 w2.2 hz, fun c => absurd (w.1.trans w2.1.symm) c⟩⟩⟩
theorem lc_begun (hg : ∀ a, a < 128 → hpK g a = 21) (hs : SGg g) (hz : hpZ g 0 = 6) : mx_SX mY_L_law 2048 451 LV [] (H0 g) LQ :=
  b_L_law_451 128 320 364 0 ⟨by decide, sc_k128 h0_SC, mx_uI ((q_12 hg).2.2.1) fun v1 h1 w => ⟨fp_sr w.2.1, mx_uI (rs_begun w.2) fun v2 h2 w2 => ⟨fun _ => l_end w.2 w2.2 hz, fun c => absurd (w.1.trans w2.1.symm) c⟩⟩⟩
theorem lc_forks (hg : ∀ a, a < 128 → hpK g a = 21) (hs : SGg g) (hz : hpZ g 0 = 6) : mx_SX mY_L_law 2048 464 LV [] (H0 g) LQ :=
  b_L_law_464 128 320 364 0 ⟨by decide, sc_k128 h0_SC, mx_uI ((q_12 hg).2.2.2.1) fun v1 h1 w => ⟨fp_sr w.2.1, mx_uI (rs_forks w.2) fun v2 h2 w2 => ⟨fun _ => l_end w.2 w2.2 hz, fun c => absurd (w.1.trans w2.1.symm) c⟩⟩⟩
theorem lc_jobCount (hg : ∀ a, a < 128 → hpK g a = 21) (hs : SGg g) (hz : hpZ g 0 = 6) : mx_SX mY_L_law 2048 477 LV [] (H0 g) LQ :=
  b_L_law_477 128 320 364 0 ⟨by decide, sc_k128 h0_SC, mx_uI ((q_12 hg).2.2.2.2.1) fun v1 h1 w => ⟨fp_sr w.2.1, mx_uI (rs_jobCount (by decide) w.2) fun v2 h2 w2 => ⟨fun _ => l_end w.2 w2.2 hz, fun c => absurd (w.1.trans w2.1.symm) c⟩⟩⟩
theorem lc_undo (hg : ∀ a, a < 128 → hpK g a = 21) (hs : SGg g) (hz : hpZ g 0 = 6) : mx_SX mY_L_law 2048 515 LV [] (H0 g) LQ :=
  b_L_law_515 128 320 364 0 ⟨by decide, sc_k128 h0_SC, mx_uI (q_undo) fun v1 h1 w => ⟨fp_sr w.2.1, mx_uI (rs_undo w.2) fun v2 h2 w2 => ⟨fun _ => l_end w.2 w2.2 hz, fun c => absurd (w.1.trans w2.1.symm) c⟩⟩⟩
theorem lc_undoDepth (hg : ∀ a, a < 128 → hpK g a = 21) (hs : SGg g) (hz : hpZ g 0 = 6) : mx_SX mY_L_law 2048 528 LV [] (H0 g) LQ :=
  b_L_law_528 128 320 364 0 ⟨by decide, sc_k128 h0_SC, mx_uI ((q_12 hg).2.2.2.2.2.1) fun v1 h1 w => ⟨fp_sr w.2.1, mx_uI (rs_undoDepth w.2) fun v2 h2 w2 => ⟨fun _ => l_end w.2 w2.2 hz, fun c => absurd (w.1.trans w2.1.symm) c⟩⟩⟩
theorem lc_variableCount (hg : ∀ a, a < 128 → hpK g a = 21) (hs : SGg g) (hz : hpZ g 0 = 6) : mx_SX mY_L_law 2048 597 LV [] (H0 g) LQ :=
  b_L_law_597 128 320 364 0 ⟨by decide, sc_k128 h0_SC, mx_uI ((q_12 hg).2.2.2.2.2.2.2.2.2.2.1) fun v1 h1 w => ⟨fp_sr w.2.1, mx_uI (rs_variableCount (by decide) w.2) fun v2 h2 w2 => ⟨fun _ => l_end w.2 w2.2 hz, fun c => absurd (w.1.trans w2.1.symm) c⟩⟩⟩
theorem lc_functionCount (hg : ∀ a, a < 128 → hpK g a = 21) (hs : SGg g) (hz : hpZ g 0 = 6) : mx_SX mY_L_law 2048 667 LV [] (H0 g) LQ :=
  b_L_law_667 128 320 364 0 ⟨by decide, sc_k128 h0_SC, mx_uI ((q_12 hg).2.2.2.2.2.2.2.2.2.2.2) fun v1 h1 w => ⟨fp_sr w.2.1, mx_uI (rs_functionCount (by decide) w.2) fun v2 h2 w2 => ⟨fun _ => l_end w.2 w2.2 hz, fun c => absurd (w.1.trans w2.1.symm) c⟩⟩⟩
theorem lc_isPipefail (hg : ∀ a, a < 128 → hpK g a = 21) (hs : SGg g) (hz : hpZ g 0 = 6) : mx_SX mY_L_law 2048 792 LV [] (H0 g) LQ :=
  b_L_law_792 128 320 364 0 ⟨by decide, sc_k128 h0_SC, mx_uI ((q_12 hg).2.2.2.2.2.2.1) fun v1 h1 w => ⟨fp_sr w.2.1, mx_uI (rs_isPipefail (by decide) w.2) fun v2 h2 w2 => ⟨fun _ => l_end w.2 w2.2 hz, fun c => absurd (w.1.trans w2.1.symm) c⟩⟩⟩
theorem lc_fileCount (hg : ∀ a, a < 128 → hpK g a = 21) (hs : SGg g) (hz : hpZ g 0 = 6) : mx_SX mY_L_law 2048 805 LV [] (H0 g) LQ :=
  b_L_law_805 128 320 364 0 ⟨by decide, sc_k128 h0_SC, mx_uI ((q_12 hg).2.2.2.2.2.2.2.1) fun v1 h1 w => ⟨fp_sr w.2.1, mx_uI (rs_fileCount w.2) fun v2 h2 w2 => ⟨fun _ => l_end w.2 w2.2 hz, fun c => absurd (w.1.trans w2.1.symm) c⟩⟩⟩
theorem lc_outputCount (hg : ∀ a, a < 128 → hpK g a = 21) (hs : SGg g) (hz : hpZ g 0 = 6) : mx_SX mY_L_law 2048 931 LV [] (H0 g) LQ :=
  b_L_law_931 128 320 364 0 ⟨by decide, sc_k128 h0_SC, mx_uI ((q_12 hg).2.2.2.2.2.2.2.2.2.1) fun v1 h1 w => ⟨fp_sr w.2.1, mx_uI (rs_outputCount w.2) fun v2 h2 w2 => ⟨fun _ => l_end w.2 w2.2 hz, fun c => absurd (w.1.trans w2.1.symm) c⟩⟩⟩
theorem lc_inputCount (hg : ∀ a, a < 128 → hpK g a = 21) (hs : SGg g) (hz : hpZ g 0 = 6) : mx_SX mY_L_law 2048 944 LV [] (H0 g) LQ :=
  b_L_law_944 128 320 364 0 ⟨by decide, sc_k128 h0_SC, mx_uI ((q_12 hg).2.2.2.2.2.2.2.2.1) fun v1 h1 w => ⟨fp_sr w.2.1, mx_uI (rs_inputCount w.2) fun v2 h2 w2 => ⟨fun _ => l_end w.2 w2.2 hz, fun c => absurd (w.1.trans w2.1.symm) c⟩⟩⟩
theorem lc_traceCount (hg : ∀ a, a < 128 → hpK g a = 21) (hs : SGg g) (hz : hpZ g 0 = 6) : mx_SX mY_L_law 2048 957 LV [] (H0 g) LQ :=
  b_L_law_957 128 320 364 0 ⟨by decide, sc_k128 h0_SC, mx_uI (q_traceCount (by decide)) fun v1 h1 w => ⟨fp_sr w.2.1, mx_uI (rs_traceCount w.2) fun v2 h2 w2 => ⟨fun _ => l_end w.2 w2.2 hz, fun c => absurd (w.1.trans w2.1.symm) c⟩⟩⟩
theorem lc_failures (hg : ∀ a, a < 128 → hpK g a = 21) (hs : SGg g) (hz : hpZ g 0 = 6) : mx_SX mY_L_law 2048 1038 LV [] (H0 g) LQ :=
  b_L_law_1038 128 320 364 0 ⟨by decide, sc_k128 h0_SC, mx_uI (q_failures (by decide)) fun v1 h1 w => ⟨fp_sr w.2.1, mx_uI (rs_failures w.2) fun v2 h2 w2 => ⟨fun _ => l_end w.2 w2.2 hz, fun c => absurd (w.1.trans w2.1.symm) c⟩⟩⟩
theorem lc_formatHandles (hg : ∀ a, a < 128 → hpK g a = 21) (hs : SGg g) (hz : hpZ g 0 = 6) : mx_SX mY_L_law 2048 1232 LV [] (H0 g) LQ :=
  b_L_law_1232 128 320 364 0 ⟨by decide, sc_k128 h0_SC, mx_uI (q_formatHandles (by decide)) fun v1 h1 w => ⟨fp_sr w.2.1, mx_uI (rs_formatHandles (by decide) w.2) fun v2 h2 w2 => ⟨fun _ => l_end w.2 w2.2 hz, fun c => absurd (w.1.trans w2.1.symm) c⟩⟩⟩
theorem lc_append (hg : ∀ a, a < 128 → hpK g a = 21) (hs : SGg g) (hz : hpZ g 0 = 6) : mx_SX mY_L_law 2048 200 LV [] (H0 g) LQ := by
  have z : hpZ (H0 g) 0 = 6 := h0_Z0.trans hz
  exact b_L_law_200 128 320 364 0 ⟨l_v1 z, l_v2 z, l_v3 z, l_v4 z, l_v5 z, by decide, sc_k128 h0_SC, mx_uI (q_append (by decide)) fun v1 h1 w => ⟨l_v1 (w.2.z0 hz), l_v2 (w.2.z0 hz), l_v3 (w.2.z0 hz), l_v4 (w.2.z0 hz), l_v5 (w.2.z0 hz), fp_sr w.2.1, mx_uI (rs_append w.2) fun v2 h2 w2 => ⟨fun _ => l_end w.2 w2.2 hz, fun c => absurd (w.1.trans w2.1.symm) c⟩⟩⟩
theorem lc_truncate (hg : ∀ a, a < 128 → hpK g a = 21) (hs : SGg g) (hz : hpZ g 0 = 6) : mx_SX mY_L_law 2048 273 LV [] (H0 g) LQ := by
  have z : hpZ (H0 g) 0 = 6 := h0_Z0.trans hz
  exact b_L_law_273 128 320 364 0 ⟨l_v1 z, by decide, sc_k128 h0_SC, mx_uI (q_truncate) fun v1 h1 w => ⟨l_v1 (w.2.z0 hz), fp_sr w.2.1, mx_uI (rs_truncate w.2) fun v2 h2 w2 => ⟨fun _ => l_end w.2 w2.2 hz, fun c => absurd (by rw [w.1, w2.1, w.2.r0]) c⟩⟩⟩
theorem lc_jobStatus (hg : ∀ a, a < 128 → hpK g a = 21) (hs : SGg g) (hz : hpZ g 0 = 6) : mx_SX mY_L_law 2048 490 LV [] (H0 g) LQ := by
  have z : hpZ (H0 g) 0 = 6 := h0_Z0.trans hz
  exact b_L_law_490 128 320 364 0 ⟨l_v1 z, by decide, sc_k128 h0_SC, mx_uI (q_jobStatus (by decide)) fun v1 h1 w => ⟨l_v1 (w.2.z0 hz), fp_sr w.2.1, mx_uI (rs_jobStatus (by decide) w.2) fun v2 h2 w2 => ⟨fun _ => l_end w.2 w2.2 hz, fun c => absurd (w.1.trans w2.1.symm) c⟩⟩⟩
theorem lc_isSet (hg : ∀ a, a < 128 → hpK g a = 21) (hs : SGg g) (hz : hpZ g 0 = 6) : mx_SX mY_L_law 2048 610 LV [] (H0 g) LQ := by
  have z : hpZ (H0 g) 0 = 6 := h0_Z0.trans hz
  exact b_L_law_610 128 320 364 0 ⟨l_v1 z, l_v2 z, by decide, sc_k128 h0_SC, mx_uI (q_isSet (by decide)) fun v1 h1 w => ⟨l_v1 (w.2.z0 hz), l_v2 (w.2.z0 hz), fp_sr w.2.1, mx_uI (rs_isSet (by decide) w.2) fun v2 h2 w2 => ⟨fun _ => l_end w.2 w2.2 hz, fun c => absurd (w.1.trans w2.1.symm) c⟩⟩⟩
theorem lc_isDefined (hg : ∀ a, a < 128 → hpK g a = 21) (hs : SGg g) (hz : hpZ g 0 = 6) : mx_SX mY_L_law 2048 680 LV [] (H0 g) LQ := by
  have z : hpZ (H0 g) 0 = 6 := h0_Z0.trans hz
  exact b_L_law_680 128 320 364 0 ⟨l_v1 z, l_v2 z, by decide, sc_k128 h0_SC, mx_uI (q_isDefined (by decide)) fun v1 h1 w => ⟨l_v1 (w.2.z0 hz), l_v2 (w.2.z0 hz), fp_sr w.2.1, mx_uI (rs_isDefined (by decide) w.2) fun v2 h2 w2 => ⟨fun _ => l_end w.2 w2.2 hz, fun c => absurd (w.1.trans w2.1.symm) c⟩⟩⟩
theorem lc_fileNamed (hg : ∀ a, a < 128 → hpK g a = 21) (hs : SGg g) (hz : hpZ g 0 = 6) : mx_SX mY_L_law 2048 818 LV [] (H0 g) LQ := by
  have z : hpZ (H0 g) 0 = 6 := h0_Z0.trans hz
  exact b_L_law_818 128 320 364 0 ⟨l_v1 z, l_v2 z, by decide, sc_k128 h0_SC, mx_uI (q_fileNamed (by decide)) fun v1 h1 w => ⟨l_v1 (w.2.z0 hz), l_v2 (w.2.z0 hz), fp_sr w.2.1, mx_uI (rs_fileNamed (by decide) w.2) fun v2 h2 w2 => ⟨fun _ => l_end w.2 w2.2 hz, fun c => absurd (w.1.trans w2.1.symm) c⟩⟩⟩
theorem lc_formatVariable (hg : ∀ a, a < 128 → hpK g a = 21) (hs : SGg g) (hz : hpZ g 0 = 6) : mx_SX mY_L_law 2048 1175 LV [] (H0 g) LQ := by
  have z : hpZ (H0 g) 0 = 6 := h0_Z0.trans hz
  exact b_L_law_1175 128 320 364 0 ⟨l_v1 z, l_v2 z, by decide, sc_k128 h0_SC, mx_uI (q_formatVariable (by decide)) fun v1 h1 w => ⟨l_v1 (w.2.z0 hz), l_v2 (w.2.z0 hz), fp_sr w.2.1, mx_uI (rs_formatVariable (by decide) w.2) fun v2 h2 w2 => ⟨fun _ => l_end w.2 w2.2 hz, fun c => absurd (w.1.trans w2.1.symm) c⟩⟩⟩
theorem lc_formattedByte (hg : ∀ a, a < 128 → hpK g a = 21) (hs : SGg g) (hz : hpZ g 0 = 6) : mx_SX mY_L_law 2048 1301 LV [] (H0 g) LQ := by
  have z : hpZ (H0 g) 0 = 6 := h0_Z0.trans hz
  exact b_L_law_1301 128 320 364 0 ⟨l_v1 z, by decide, sc_k128 h0_SC, mx_uI (q_formattedByte) fun v1 h1 w => ⟨l_v1 (w.2.z0 hz), fp_sr w.2.1, mx_uI (rs_formattedByte (by decide) w.2) fun v2 h2 w2 => ⟨fun _ => l_end w.2 w2.2 hz, fun c => absurd (w.1.trans w2.1.symm) c⟩⟩⟩
theorem lc_lineCount (hg : ∀ a, a < 128 → hpK g a = 21) (hs : SGg g) (hz : hpZ g 0 = 6) : mx_SX mY_L_law 2048 875 LV [] (H0 g) LQ := by
  have z : hpZ (H0 g) 0 = 6 := h0_Z0.trans hz
  refine b_L_law_875 128 320 364 0 ⟨l_v1 z, by decide, k_L_lineCount (by decide) (sc_k128 h0_SC) (q_lineCount (by decide)) (fun v h1 w => w.elim) (fun E h1 w => ?_)⟩
  obtain ⟨rfl, o⟩ := w
  exact ⟨rfl, l_v1 (o.z0 hz), fp_sr o.1, mx_uI (rs_lineCount (by decide) o) fun v2 h2 w2 => l_th1 o w2 hz (fun h K => b_L_law_928 128 320 364 0 K)⟩
theorem lc_traceField (hg : ∀ a, a < 128 → hpK g a = 21) (hs : SGg g) (hz : hpZ g 0 = 6) : mx_SX mY_L_law 2048 970 LV [] (H0 g) LQ := by
  have z : hpZ (H0 g) 0 = 6 := h0_Z0.trans hz
  refine b_L_law_970 128 320 364 0 ⟨l_v1 z, l_v2 z, by decide, k_L_traceField (by decide) (sc_k128 h0_SC) (q_traceField (by decide)) (fun v h1 w => w.elim) (fun E h1 w => ?_)⟩
  obtain ⟨rfl, o⟩ := w
  exact Or.inl ⟨rfl, l_v1 (o.z0 hz), l_v2 (o.z0 hz), fp_sr o.1, mx_uI (rs_traceField (by decide) o) fun v2 h2 w2 => l_th1 o w2 hz (fun h K => b_L_law_1035 128 320 364 0 K)⟩
theorem lc_formatLine (hg : ∀ a, a < 128 → hpK g a = 21) (hs : SGg g) (hz : hpZ g 0 = 6) : mx_SX mY_L_law 2048 1051 LV [] (H0 g) LQ := by
  have z : hpZ (H0 g) 0 = 6 := h0_Z0.trans hz
  refine b_L_law_1051 128 320 364 0 ⟨l_v1 z, l_v2 z, by decide, k_L_formatLine (by decide) (sc_k128 h0_SC) (q_formatLine (by decide)) (fun v h1 w => w.elim) (fun E h1 w => ?_)⟩
  obtain ⟨rfl, o⟩ := w
  exact ⟨rfl, l_v1 (o.z0 hz), l_v2 (o.z0 hz), fp_sr o.1, mx_uI (rs_formatLine (by decide) o) fun v2 h2 w2 => l_th1 o w2 hz (fun h K => b_L_law_1116 128 320 364 0 K)⟩
theorem lc_formatOutput (hg : ∀ a, a < 128 → hpK g a = 21) (hs : SGg g) (hz : hpZ g 0 = 6) : mx_SX mY_L_law 2048 1119 LV [] (H0 g) LQ := by
  have z : hpZ (H0 g) 0 = 6 := h0_Z0.trans hz
  refine b_L_law_1119 128 320 364 0 ⟨l_v1 z, by decide, k_L_formatOutput (by decide) (sc_k128 h0_SC) (q_formatOutput (by decide)) (fun v h1 w => w.elim) (fun E h1 w => ?_)⟩
  obtain ⟨rfl, o⟩ := w
  exact ⟨rfl, l_v1 (o.z0 hz), fp_sr o.1, mx_uI (rs_formatOutput (by decide) o) fun v2 h2 w2 => l_th1 o w2 hz (fun h K => b_L_law_1172 128 320 364 0 K)⟩
theorem lc_formatName (hg : ∀ a, a < 128 → hpK g a = 21) (hs : SGg g) (hz : hpZ g 0 = 6) : mx_SX mY_L_law 2048 1245 LV [] (H0 g) LQ := by
  have z : hpZ (H0 g) 0 = 6 := h0_Z0.trans hz
  refine b_L_law_1245 128 320 364 0 ⟨l_v1 z, by decide, k_L_formatName (by decide) (sc_k128 h0_SC) (q_formatName (by decide)) (fun v h1 w => w.elim) (fun E h1 w => ?_)⟩
  obtain ⟨rfl, o⟩ := w
  exact ⟨rfl, l_v1 (o.z0 hz), fp_sr o.1, mx_uI (rs_formatName (by decide) o) fun v2 h2 w2 => l_th1 o w2 hz (fun h K => b_L_law_1298 128 320 364 0 K)⟩
theorem lc_load (hg : ∀ a, a < 128 → hpK g a = 21) (hs : SGg g) (hz : hpZ g 0 = 6) : mx_SX mY_L_law 2048 298 LV [] (H0 g) LQ := by
  refine b_L_law_298 128 320 364 0 ⟨by decide, k_L_load (P := CA g 0) (X := fun _ _ => False) (by decide) (sc_k128 h0_SC) (q_load (by decide) hg) (fun v h1 w => ?_) (fun E h1 w => w.elim)⟩
  obtain ⟨rfl, o⟩ := w
  have f := fp_364 o.1
  refine ⟨f.1, f.2, ?_⟩
  have o2 : OkH g (hsL h1 364 0 (0 : Int32).toInt64) := o.out
  refine ⟨fp_sr o2.1, mx_uI (rs_load (by decide) o2) fun v2 h2 w2 => ?_⟩
  obtain ⟨rfl, r⟩ := w2
  exact l_th0 o2 (by show hpL (hsL h1 364 0 (0 : Int32).toInt64) 364 0 = _; exact m_Ls) r hz (fun h K => b_L_law_339 128 320 364 0 K)
theorem lc_type (hg : ∀ a, a < 128 → hpK g a = 21) (hs : SGg g) (hz : hpZ g 0 = 6) : mx_SX mY_L_law 2048 368 LV [] (H0 g) LQ := by
  refine b_L_law_368 128 320 364 0 ⟨by decide, k_L_type (P := CA g 0) (X := fun _ _ => False) (by decide) (sc_k128 h0_SC) (q_type (by decide) hg) (fun v h1 w => ?_) (fun E h1 w => w.elim)⟩
  obtain ⟨rfl, o⟩ := w
  have f := fp_364 o.1
  refine ⟨f.1, f.2, ?_⟩
  have o2 : OkH g (hsL h1 364 0 (0 : Int32).toInt64) := o.out
  refine ⟨fp_sr o2.1, mx_uI (rs_type (by decide) o2) fun v2 h2 w2 => ?_⟩
  obtain ⟨rfl, r⟩ := w2
  exact l_th0 o2 (by show hpL (hsL h1 364 0 (0 : Int32).toInt64) 364 0 = _; exact m_Ls) r hz (fun h K => b_L_law_409 128 320 364 0 K)
theorem lc_handleKind (hg : ∀ a, a < 128 → hpK g a = 21) (hs : SGg g) (hz : hpZ g 0 = 6) : mx_SX mY_L_law 2048 541 LV [] (H0 g) LQ := by
  have z : hpZ (H0 g) 0 = 6 := h0_Z0.trans hz
  refine b_L_law_541 128 320 364 0 ⟨l_v1 z, by decide, k_L_handleKind (by decide) (sc_k128 h0_SC) (q_handleKind (by decide)) (fun v h1 w => ?_) (fun E h1 w => ?_)⟩
  · obtain ⟨⟨i, i10, hx, rfl⟩, o⟩ := w
    have f := fp_364 o.1
    refine ⟨f.1, f.2, ?_⟩
    have o2 : OkH g (hsL h1 364 0 (if i < 3 then (1 : Int32) else 0).toInt64) := o.out
    refine ⟨l_v1 (o2.z0 hz), fp_sr o2.1, ?_⟩
    rw [o2.r0, hx]
    refine mx_uI (rs_handleKind (by decide) o2 i10) fun v2 h2 w2 => ?_
    obtain ⟨rfl, r⟩ := w2
    exact l_th0 o2 m_Ls r hz (fun h K => b_L_law_594 128 320 364 0 K)
  · obtain ⟨rfl, c, o⟩ := w
    refine ⟨rfl, l_v1 (o.z0 hz), fp_sr o.1, ?_⟩
    rw [o.r0]
    exact mx_uI (rs_handleKindX (by decide) o c) fun v2 h2 w2 => l_th1 o w2 hz (fun h K => b_L_law_594 128 320 364 0 K)
theorem lc_actionOf (hg : ∀ a, a < 128 → hpK g a = 21) (hs : SGg g) (hz : hpZ g 0 = 6) : mx_SX mY_L_law 2048 737 LV [] (H0 g) LQ := by
  have z : hpZ (H0 g) 0 = 6 := h0_Z0.trans hz
  refine b_L_law_737 128 320 364 0 ⟨l_v1 z, by decide, k_L_actionOf (by decide) (sc_k128 h0_SC) (q_actionOf (by decide)) (fun v h1 w => ?_) (fun E h1 w => ?_)⟩
  · obtain ⟨⟨i, i4, hx⟩, rfl, o⟩ := w
    have f := fp_364 o.1
    refine ⟨f.1, f.2, ?_⟩
    have o2 : OkH g (hsL h1 364 0 (0 : Int64)) := o.out
    refine ⟨l_v1 (o2.z0 hz), fp_sr o2.1, ?_⟩
    rw [o2.r0, hx]
    refine mx_uL (rs_actionOf (by decide) o2 i4) fun v2 h2 w2 => ?_
    obtain ⟨rfl, r⟩ := w2
    exact l_th0 o2 m_Ls r hz (fun h K => b_L_law_789 128 320 364 0 K)
  · obtain ⟨rfl, c, o⟩ := w
    refine ⟨rfl, l_v1 (o.z0 hz), fp_sr o.1, ?_⟩
    rw [o.r0]
    exact mx_uL (rs_actionOfX (by decide) o c) fun v2 h2 w2 => l_th1 o w2 hz (fun h K => b_L_law_789 128 320 364 0 K)
/-- the loop's head with the fresh objects -/
theorem l_head (hg : ∀ a, a < 128 → hpK g a = 21) (hs : SGg g) {L : Nat} (hZ : hpZ g 0 = L) (hL : L ≤ 6) : mx_SX mY_L_law 2048 23 LV [] (H0 g) LQ := by
  have z : hpZ (H0 g) 0 = L := h0_Z0.trans hZ
  have end1 : LQ (.inl (some (.int (1 : Int32)))) (H0 g) := ⟨rfl, by show 237 ≤ 600002; decide, by show 952454 ≤ 7302231; decide⟩
  by_cases c6 : L = 6
  · have hz : hpZ g 0 = 6 := hZ.trans c6
    have z6 : hpZ (H0 g) 0 = 6 := z.trans c6
    refine b_L_law_23 128 320 364 0 ⟨fun _ => end1, fun _ => ⟨by rw [z6]; exact vp_in_nI (n := 0) (by decide) (by decide), ?_⟩⟩
    exact ⟨fun _ => l_out z6 (by show 237 ≤ 600002; decide) (by show 952454 ≤ 7302231; decide), fun _ => lc_append hg hs hz, fun _ => lc_truncate hg hs hz, fun _ => lc_load hg hs hz, fun _ => lc_errorOffset hg hs hz, fun _ => lc_errorKind hg hs hz, fun _ => lc_type hg hs hz, fun _ => lc_run hg hs hz, fun _ => lc_status hg hs hz, fun _ => lc_isStopped hg hs hz, fun _ => lc_begun hg hs hz, fun _ => lc_forks hg hs hz, fun _ => lc_jobCount hg hs hz, fun _ => lc_jobStatus hg hs hz, fun _ => lc_undo hg hs hz, fun _ => lc_undoDepth hg hs hz, fun _ => lc_handleKind hg hs hz, fun _ => lc_variableCount hg hs hz, fun _ => lc_isSet hg hs hz, fun _ => lc_functionCount hg hs hz, fun _ => lc_isDefined hg hs hz, fun _ => lc_actionOf hg hs hz, fun _ => lc_isPipefail hg hs hz, fun _ => lc_fileCount hg hs hz, fun _ => lc_fileNamed hg hs hz, fun _ => lc_lineCount hg hs hz, fun _ => lc_outputCount hg hs hz, fun _ => lc_inputCount hg hs hz, fun _ => lc_traceCount hg hs hz, fun _ => lc_traceField hg hs hz, fun _ => lc_failures hg hs hz, fun _ => lc_formatLine hg hs hz, fun _ => lc_formatOutput hg hs hz, fun _ => lc_formatVariable hg hs hz, fun _ => lc_formatHandles hg hs hz, fun _ => lc_formatName hg hs hz, fun _ => lc_formattedByte hg hs hz⟩
  · refine b_L_law_23 128 320 364 0 ⟨fun _ => end1, fun c => ?_⟩
    rw [z] at c
    have : L = 0 ∨ L = 1 ∨ L = 2 ∨ L = 3 ∨ L = 4 ∨ L = 5 := by omega
    rcases this with rfl | rfl | rfl | rfl | rfl | rfl <;> exact absurd (by decide) c
set_option maxRecDepth 100000 in
theorem l_law (hg : ∀ a, a < 128 → hpK g a = 21) (hs : SGg g) {L : Nat} (hZ : hpZ g 0 = L) (hL : L ≤ 6) : mx_SX mY_L_law 2048 0 [(0, .ref 0)] [] (mkH g 0 0 0 pZ) LQ := by
  refine b_L_law ?_
  rintro _ _ rfl rfl
  rw [mkH_nw, hpN_mkH]
  refine ⟨by decide, mx_xKV (k_X11_init (by decide) hg) ?_⟩
  rintro _ _ rfl rfl
  rw [mkH_nw, hpN_mkH]
  refine mx_xKV (k_X12_init (by decide)) ?_
  rintro _ _ rfl rfl
  rw [mkH_nw, hpN_mkH]
  exact l_head hg hs hZ hL
end MXN5
