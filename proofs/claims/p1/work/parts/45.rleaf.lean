/-! THE REFERENCE: its smallest methods -/
section MXRL
variable {d : Nat} {h : mxH}
theorem k_X12_of {i j : Nat} (s : SR h) (hb : 83 * i + j < 83000) : mx_SM mY_X12_of d [.ref 320, .int (nI i), .int (nI j)] h (mx_xct (.inl (some (.int (hpI h 354 (83 * i + j))))) h) := by
  refine b_X12_of 320 _ _ ⟨sr_k s, 354, sr_r71 s, sr_k354 s, ?_⟩
  simp (disch := omega) only [nI_lit, pk_mul, nI_add, nI_clamp, sr_z354 s, vpT, true_and]
  exact ⟨rfl, rfl⟩
theorem k_X12_sets {i j : Nat} {v : Int32} (s : SR h) (hb : 83 * i + j < 83000) : mx_SM mY_X12_sets d [.ref 320, .int (nI i), .int (nI j), .int v] h (mx_xct (.inl none) (hsI h 354 (83 * i + j) v)) := by
  refine b_X12_sets 320 _ _ _ ⟨sr_k s, 354, sr_r71 s, sr_k354 s, ?_⟩
  simp (disch := omega) only [nI_lit, pk_mul, nI_add, nI_clamp, sr_z354 s, vpT, true_and, forall_eq]
  exact ⟨rfl, rfl⟩
theorem k_X12_handle {i j : Nat} (s : SR h) (hi : i < 1000) (hj : j < 10) : mx_SM mY_X12_handle d [.ref 320, .int (nI i), .int (nI j)] h (mx_xct (.inl (some (.int (hpI h 354 (83 * i + 36 + j))))) h) := by
  refine b_X12_handle 320 _ _ ⟨sr_k s, 354, sr_r71 s, sr_k354 s, ?_⟩
  simp (disch := omega) only [nI_lit, pk_mul, nI_add, nI_clamp, sr_z354 s, vpT, true_and]
  exact ⟨rfl, rfl⟩
theorem k_X12_nameOf {i j : Nat} (s : SR h) (hb : 34 * i + j < 34000) : mx_SM mY_X12_nameOf d [.ref 320, .int (nI i), .int (nI j)] h (mx_xct (.inl (some (.long (hpL h 355 (34 * i + j))))) h) := by
  refine b_X12_nameOf 320 _ _ ⟨sr_k s, 355, sr_r72 s, sr_k355 s, ?_⟩
  simp (disch := omega) only [nI_lit, pk_mul, nI_add, nI_clamp, sr_z355 s, vpT, true_and]
  exact ⟨rfl, rfl⟩
theorem k_X12_setsName {i j : Nat} {v : Int64} (s : SR h) (hb : 34 * i + j < 34000) : mx_SM mY_X12_setsName d [.ref 320, .int (nI i), .int (nI j), .long v] h (mx_xct (.inl none) (hsL h 355 (34 * i + j) v)) := by
  refine b_X12_setsName 320 _ _ _ ⟨sr_k s, 355, sr_r72 s, sr_k355 s, ?_⟩
  simp (disch := omega) only [nI_lit, pk_mul, nI_add, nI_clamp, sr_z355 s, vpT, true_and, forall_eq]
  exact ⟨rfl, rfl⟩
theorem k_X12_linesOf {f : Nat} (s : SR h) (hf : f < 8) : mx_SM mY_X12_linesOf d [.ref 320, .int (nI f)] h (mx_xct (.inl (some (.int (hpI h 342 (1 + 41 * f))))) h) := by
  refine b_X12_linesOf 320 _ ⟨sr_k s, 342, sr_r56 s, sr_k342 s, ?_⟩
  simp (disch := omega) only [nI_lit, pk_mul, nI_add, nI_clamp, sr_z342 s, vpT, true_and]
  exact ⟨rfl, rfl⟩
end MXRL
