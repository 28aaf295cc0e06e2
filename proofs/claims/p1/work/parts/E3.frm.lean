/-! Machine's frames: push, field, setField, pop -/
section MXFM
variable {h h1 : mxH} {d t k : Nat} {a b c e : Int32} {f : Nat → Int32} {l : List cT}
def fr_push (h : mxH) (t : Nat) (a b c e : Int32) : mxH := hsI (hrI h 285 (fup (fup (fup (fup (hpI h 285) (4 * t) a) (4 * t + 1) b) (4 * t + 2) c) (4 * t + 3) e)) 282 4 (nI (t + 1))
theorem k_X4_push (s : SC h) (ht : hpI h 282 4 = nI t) (h3 : t < 3000) : mx_SM mY_X4_push d [.ref 282, .int a, .int b, .int c, .int e] h (mx_xct (.inl none) (fr_push h t a b c e)) := by
  refine b_X4_push 282 a b c e ⟨sc_k282 s, ?_⟩
  rw [ht, show (4 : Int32) = nI 4 from rfl, pk_mul, show nI (t * 4) + (1 : Int32) = nI (t * 4 + 1) from nI_add _ 1, show nI (t * 4) + (2 : Int32) = nI (t * 4 + 2) from nI_add _ 2, show nI (t * 4) + (3 : Int32) = nI (t * 4 + 3) from nI_add _ 3, nI_clamp (show t * 4 < 2 ^ 31 by omega), nI_clamp (show t * 4 + 1 < 2 ^ 31 by omega), nI_clamp (show t * 4 + 2 < 2 ^ 31 by omega), nI_clamp (show t * 4 + 3 < 2 ^ 31 by omega), show t * 4 = 4 * t from Nat.mul_comm _ _]
  have vp : ∀ j, j < 4 → vp_in (nI (4 * t + j)) (hpZ h 285) := fun j hj => by rw [sc_z285 s]; exact vp_in_nI (by omega) (by omega)
  refine ⟨fun c => absurd c (nI_pos (by omega)), fun _ => ⟨fun _ => ⟨285, sc_r282_3 s, sc_k285 s, vp 0 (by omega), ?_⟩, fun c => absurd (show nI t < nI 3000 from nI_lt h3 (by omega)) c⟩⟩
  rintro _ rfl
  refine ⟨285, sc_r282_3 s, sc_k285 s, vp 1 (by omega), ?_⟩
  rintro _ rfl
  refine ⟨285, sc_r282_3 s, sc_k285 s, vp 2 (by omega), ?_⟩
  rintro _ rfl
  refine ⟨285, sc_r282_3 s, sc_k285 s, vp 3 (by omega), ?_⟩
  rintro _ rfl
  have e4 : ∀ (x y z u : Int32) (i j m n : Nat), hsI (hsI (hsI (hsI h 285 i x) 285 j y) 285 m z) 285 n u = hrI h 285 (fup (fup (fup (fup (hpI h 285) i x) j y) m z) n u) := fun x y z u i j m n => by
    show hsI (hsI (hsI (hrI h 285 (fup (hpI h 285) i x)) 285 j y) 285 m z) 285 n u = _
    rw [hsI_hrI, hsI_hrI, hsI_hrI]
  rw [e4, hpI_rI, if_neg (show ¬ 282 = 285 by decide), ht, nI_1]
  rintro _ rfl
  exact ⟨rfl, rfl⟩
theorem fr_at (s : SC h) (ht : hpI h 282 4 = nI (t + 1)) (h3 : t < 3000) (hk : k < 4) : (hpI h 282 4 - (1 : Int32)) * (4 : Int32) + nI k = nI (4 * t + k) := by
  rw [ht, nI_pred, show (4 : Int32) = nI 4 from rfl, pk_mul, nI_add, Nat.mul_comm]
theorem k_X4_field (s : SC h) (ht : hpI h 282 4 = nI (t + 1)) (h3 : t < 3000) (hk : k < 4) : mx_SM mY_X4_field d [.ref 282, .int (nI k)] h (mx_xct (.inl (some (.int (hpI h 285 (4 * t + k))))) h) := by
  refine b_X4_field 282 (nI k) ⟨sc_k282 s, ?_⟩
  rw [fr_at s ht h3 hk]
  refine ⟨fun c => absurd c (nI_pos (by omega)), fun _ => ⟨285, sc_r282_3 s, sc_k285 s, ?_⟩⟩
  rw [sc_z285 s, nI_clamp (by omega)]
  exact ⟨fun c => absurd c (nI_ge (by omega) (by omega)), fun _ => ⟨vp_in_nI (by omega) (by omega), rfl, rfl⟩⟩
theorem k_X4_setField (s : SC h) (ht : hpI h 282 4 = nI (t + 1)) (h3 : t < 3000) (hk : k < 4) : mx_SM mY_X4_setField d [.ref 282, .int (nI k), .int a] h (mx_xct (.inl none) (hsI h 285 (4 * t + k) a)) := by
  refine b_X4_setField 282 (nI k) a ⟨sc_k282 s, ?_⟩
  rw [fr_at s ht h3 hk]
  refine ⟨fun c => absurd c (nI_pos (by omega)), fun _ => ⟨285, sc_r282_3 s, sc_k285 s, ?_⟩⟩
  rw [sc_z285 s, nI_clamp (by omega)]
  refine ⟨fun c => absurd c (nI_ge (by omega) (by omega)), fun _ => ⟨vp_in_nI (by omega) (by omega), ?_⟩⟩
  rintro _ rfl
  exact ⟨rfl, rfl⟩
theorem k_X4_pop (s : SC h) (ht : hpI h 282 4 = nI (t + 1)) (h3 : t < 3000) : mx_SM mY_X4_pop d [.ref 282] h (mx_xct (.inl none) (hsI h 282 4 (nI t))) := by
  refine b_X4_pop 282 ⟨sc_k282 s, ?_⟩
  rw [ht, nI_pred]
  refine ⟨fun c => absurd ((nI_leI (b := 0) (by omega) (by omega)).mp c) (by omega), fun _ => ?_⟩
  rintro _ rfl
  exact ⟨rfl, rfl⟩
/-- the frames' row, one frame more or less, a field set -/
theorem CT.push (c0 : CT f l) : CT (fup (fup (fup (fup f (4 * l.length) a) (4 * l.length + 1) b) (4 * l.length + 2) c) (4 * l.length + 3) e) ((a, b, c, e) :: l) := by
  intro i hi
  rw [List.length_cons] at hi ⊢
  rcases i with _ | i
  · rw [show l.length + 1 - 1 - 0 = l.length by omega]
    simp only [List.getElem_cons_zero]
    refine ⟨?_, ?_, ?_, ?_⟩
    · rw [fup_n (by omega), fup_n (by omega), fup_n (by omega), fup_e]
    · rw [fup_n (by omega), fup_n (by omega), fup_e]
    · rw [fup_n (by omega), fup_e]
    · rw [fup_e]
  · rw [show l.length + 1 - 1 - (i + 1) = l.length - 1 - i by omega]
    simp only [List.getElem_cons_succ]
    have ex : ∀ j, j < 4 → fup (fup (fup (fup f (4 * l.length) a) (4 * l.length + 1) b) (4 * l.length + 2) c) (4 * l.length + 3) e (4 * (l.length - 1 - i) + j) = f (4 * (l.length - 1 - i) + j) := fun j hj => by
      rw [fup_n (by omega), fup_n (by omega), fup_n (by omega), fup_n (by omega)]
    have c1 := c0 i (by omega)
    refine ⟨(ex 0 (by omega)).trans c1.1, (ex 1 (by omega)).trans c1.2.1, (ex 2 (by omega)).trans c1.2.2.1, (ex 3 (by omega)).trans c1.2.2.2⟩
theorem CT.pop {x : cT} (c0 : CT f (x :: l)) : CT f l ∧ f (4 * l.length) = x.1 ∧ f (4 * l.length + 1) = x.2.1 ∧ f (4 * l.length + 2) = x.2.2.1 ∧ f (4 * l.length + 3) = x.2.2.2 := by
  refine ⟨fun i hi => ?_, ?_⟩
  · have := c0 (i + 1) (by rw [List.length_cons]; omega)
    rw [show (x :: l).length - 1 - (i + 1) = l.length - 1 - i by rw [List.length_cons]; omega] at this
    exact this
  · have := c0 0 (by rw [List.length_cons]; omega)
    rw [show (x :: l).length - 1 - 0 = l.length by rw [List.length_cons]; omega] at this
    exact this
theorem CT.cg {f' : Nat → Int32} (c0 : CT f l) (e : ∀ j, j < 4 * l.length → f' j = f j) : CT f' l := by
  intro i hi
  rw [e _ (by omega), e _ (by omega), e _ (by omega), e _ (by omega)]
  exact c0 i hi
end MXFM
