/-! questions that the class answers from one cell -/
section MXK8
variable {B h : mxH} {D : pmC} {d n k : Nat} {w : spW} {F : spF} {jl : List Int32} {XL FS VS OS : List Nat} {pi : Nat → Nat} {P : List cSn}
theorem k_X11_status (i : IDW D B h n w F jl XL FS VS OS) : mx_SM mY_X11_status d [.ref 128] h (mx_xct (.inl (some (.int (fS F)))) h) := by
  have s := i.1
  refine b_X11_status 128 ⟨sc_k128 s, 140, sc_r128_5 s, (sc_w s).k0, 146, (sc_w s).r8, (sc_w s).sb.k0, ?_⟩
  rw [show hpI h 146 6 = fS F from i.2.1.2.2.1.2.2.2.2]
  exact ⟨rfl, rfl⟩
theorem k_X11_isStopped (i : IDW D B h n w F jl XL FS VS OS) : mx_SM mY_X11_isStopped d [.ref 128] h (mx_xct (.inl (some (.int (if wX w = true then 1 else 0)))) h) := by
  have s := i.1
  obtain ⟨t, -, -, -, -, ⟨-, -, -, e⟩, -⟩ := i.2.1.1
  refine b_X11_isStopped 128 ⟨sc_k128 s, 140, sc_r128_5 s, (sc_w s).k0, (i.2.1.b).2, ?_⟩
  rw [e]
  exact ⟨rfl, rfl⟩
theorem k_X11_begun (i : IDW D B h n w F jl XL FS VS OS) : mx_SM mY_X11_begun d [.ref 128] h (mx_xct (.inl (some (.int (nI (wB w))))) h) := by
  have s := i.1
  obtain ⟨t, -, -, -, -, ⟨e, -, -, -⟩, -⟩ := i.2.1.1
  refine b_X11_begun 128 ⟨sc_k128 s, 140, sc_r128_5 s, (sc_w s).k0, ?_⟩
  rw [e]
  exact ⟨rfl, rfl⟩
theorem k_X11_forks (i : IDW D B h n w F jl XL FS VS OS) : mx_SM mY_X11_forks d [.ref 128] h (mx_xct (.inl (some (.int (nI (wK w))))) h) := by
  have s := i.1
  obtain ⟨t, -, -, -, -, ⟨-, -, e, -⟩, -⟩ := i.2.1.1
  refine b_X11_forks 128 ⟨sc_k128 s, 140, sc_r128_5 s, (sc_w s).k0, ?_⟩
  rw [e]
  exact ⟨rfl, rfl⟩
theorem k_X11_jobCount (i : IDW D B h n w F jl XL FS VS OS) : mx_SM mY_X11_jobCount d [.ref 128] h (mx_xct (.inl (some (.int (nI jl.length)))) h) := by
  have s := i.1
  refine b_X11_jobCount 128 ⟨sc_k128 s, 140, sc_r128_5 s, (sc_w s).k0, 146, (sc_w s).r8, (sc_w s).sb.k0, ?_⟩
  rw [show hpI h 146 14 = nI jl.length from i.2.1.2.2.2.1.1]
  exact ⟨rfl, rfl⟩
theorem k_X11_undoDepth (s : SC h) (ps : PsW D h pi P) : mx_SM mY_X11_undoDepth d [.ref 128] h (mx_xct (.inl (some (.int (nI P.length)))) h) := by
  refine b_X11_undoDepth 128 ⟨sc_k128 s, ?_⟩
  rw [ps.1.1]
  exact ⟨rfl, rfl⟩
theorem k_X11_isPipefail (i : IDW D B h n w F jl XL FS VS OS) : mx_SM mY_X11_isPipefail d [.ref 128] h (mx_xct (.inl (some (.int (if fP F = true then 1 else 0)))) h) := by
  have s := i.1
  refine b_X11_isPipefail 128 ⟨sc_k128 s, 140, sc_r128_5 s, (sc_w s).k0, 146, (sc_w s).r8, (sc_w s).sb.k0, (i.2.1.b).1, ?_⟩
  rw [show hpI h 146 4 = (if fP F = true then 1 else 0) from i.2.1.2.2.1.2.2.2.1]
  exact ⟨rfl, rfl⟩
theorem k_X11_fileCount (i : IDW D B h n w F jl XL FS VS OS) : mx_SM mY_X11_fileCount d [.ref 128] h (mx_xct (.inl (some (.int (nI (wF w).length)))) h) := by
  have s := i.1
  obtain ⟨t, -, ⟨e, -⟩, -⟩ := i.2.1.1
  refine b_X11_fileCount 128 ⟨sc_k128 s, 140, sc_r128_5 s, (sc_w s).k0, ?_⟩
  rw [e]
  exact ⟨rfl, rfl⟩
theorem k_X11_inputCount (i : IDW D B h n w F jl XL FS VS OS) : mx_SM mY_X11_inputCount d [.ref 128] h (mx_xct (.inl (some (.int (nI (wI w).length)))) h) := by
  have s := i.1
  obtain ⟨t, -, -, ⟨e, -⟩, -⟩ := i.2.1.1
  refine b_X11_inputCount 128 ⟨sc_k128 s, 140, sc_r128_5 s, (sc_w s).k0, ?_⟩
  rw [e]
  exact ⟨rfl, rfl⟩
theorem k_X11_outputCount (i : IDW D B h n w F jl XL FS VS OS) : mx_SM mY_X11_outputCount d [.ref 128] h (mx_xct (.inl (some (.int (nI (wP w).length)))) h) := by
  have s := i.1
  obtain ⟨t, -, -, -, ⟨e, -⟩, -⟩ := i.2.1.1
  refine b_X11_outputCount 128 ⟨sc_k128 s, 140, sc_r128_5 s, (sc_w s).k0, ?_⟩
  rw [e]
  exact ⟨rfl, rfl⟩
theorem k_X11_variableCount (i : IDW D B h n w F jl XL FS VS OS) : mx_SM mY_X11_variableCount d [.ref 128] h (mx_xct (.inl (some (.int (nI (fV F).length)))) h) := by
  have s := i.1
  refine b_X11_variableCount 128 ⟨sc_k128 s, 140, sc_r128_5 s, (sc_w s).k0, 146, (sc_w s).r8, (sc_w s).sb.k0, 147, (sc_w s).sb.r0_0, (sc_w s).sb.k1, ?_⟩
  rw [show hpI h 147 2 = nI (fV F).length from i.2.1.2.2.1.1.1]
  exact ⟨rfl, rfl⟩
theorem k_X11_functionCount (i : IDW D B h n w F jl XL FS VS OS) : mx_SM mY_X11_functionCount d [.ref 128] h (mx_xct (.inl (some (.int (nI (fU F).length)))) h) := by
  have s := i.1
  refine b_X11_functionCount 128 ⟨sc_k128 s, 140, sc_r128_5 s, (sc_w s).k0, 146, (sc_w s).r8, (sc_w s).sb.k0, 150, (sc_w s).sb.r0_1, (sc_w s).sb.k4, ?_⟩
  rw [show hpI h 150 2 = nI (fU F).length from i.2.1.2.2.1.2.1.1]
  exact ⟨rfl, rfl⟩
end MXK8
