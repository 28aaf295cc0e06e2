/-! HANDLES: kindOf, copyFrom, beginAnew, firstSharer, exact -/
section MXHB
variable {d : Nat} {h : mxH}
theorem hd_at.put2 {x ch sl x2 ch2 sl2 i : Nat} {new : Option Nat} (hx2 : hd_at h x2 ch2 sl2) (hc : hpK h ch = 0) (hs : hpK h sl = 18) (hi : i < 10) (hr : hd_row h sl) : hd_at (hd_put h ch sl i new) x2 ch2 sl2 := by
  obtain ⟨h1, h2, h3, h4, h5, h6⟩ := hx2
  obtain ⟨-, -, -, e4, e5, -⟩ := hd_put_same (h := h) ch sl i new
  have n1 : x2 ≠ ch := mx_neK h1 hc (by decide)
  have n2 : x2 ≠ sl := mx_neK h1 hs (by decide)
  have n3 : ∀ o, hpR h sl i = some o → x2 ≠ o := fun o c => mx_neK h1 (hr i hi o c) (by decide)
  refine ⟨by rw [e4]; exact h1, ?_, ?_, by rw [e4]; exact h4, by rw [e4]; exact h5, by rw [e5]; exact h6⟩
  · rw [hd_put_R n1 n3, if_neg (fun q => n2 q.1)]; exact h2
  · rw [hd_put_R n1 n3, if_neg (fun q => n2 q.1)]; exact h3
/-- Handles.kindOf -/
def hd_kind (h : mxH) (sl i : Nat) : Int32 := match hpR h sl i with
  | none => 0
  | some o => hpI h o 0
theorem k_X2_kindOf (hd : 1 ≤ d) {x ch sl i : Nat} (hx : hd_at h x ch sl) (hi : i < 10) (hr : hd_row h sl) (hb : ∀ b, hpR h sl i = some b → b < hpN h) : mx_SM mY_X2_kindOf d [.ref x, .int (nI i)] h (mx_xct (.inl (some (.int (hd_kind h sl i)))) h) := by
  refine b_X2_kindOf x (nI i) ⟨hd, hx.1, (k_X2_at hx hi hb).mono fun r1 h1 q => Or.inl ⟨_, q.1, ?_⟩⟩
  rw [q.2]
  refine ⟨fun c => ⟨by rw [hd_kind, c], rfl⟩, fun o c => ⟨hr i hi o c, by rw [hd_kind, c], rfl⟩⟩
/-- Handles.copyFrom -/
def hd_copy (ch sl sl2 : Nat) : Nat → Nat → mxH → mxH
  | 0, _, h => h
  | m + 1, i, h => hd_copy ch sl sl2 m (i + 1) (hd_put h ch sl i (hpR h sl2 i))
theorem k_X2_copyFrom_2 (hd : 1 ≤ d) {x ch sl x2 ch2 sl2 : Nat} : ∀ m i (h : mxH), i + m = 10 → hd_at h x ch sl → hd_row h sl → hd_at h x2 ch2 sl2 → hd_row h sl2 → mx_SX mY_X2_copyFrom d 2 [(0, .ref x), (1, .ref x2), (2, .int (nI i))] [] h (mx_xct (.inl none) (hd_copy ch sl sl2 m i h)) := by
  intro m
  induction m with
  | zero =>
    intro i h hi hx hr hx2 hr2
    refine b_X2_copyFrom_2 x x2 (nI i) ⟨fun _ => ⟨rfl, rfl⟩, fun c => absurd (show nI 10 ≤ nI i from nI_le (by omega) (by omega)) c⟩
  | succ m ih =>
    intro i h hi hx hr hx2 hr2
    have ei : (nI i).toNatClampNeg = i := nI_clamp (by omega)
    have i10 : i < 10 := by omega
    refine b_X2_copyFrom_2 x x2 (nI i) ⟨fun c => absurd c (show ¬ nI 10 ≤ nI i from nI_ge (by omega) (by omega)), fun _ => ⟨hx2.1, sl2, hx2.2.2.1, hx2.2.2.2.2.1, by rw [hx2.2.2.2.2.2]; exact vp_in_nI i10 (by omega), hd, hx.1, ?_⟩⟩
    rw [ei]
    refine mx_xKV (k_X2_put (new := hpR h sl2 i) hx i10 (fun b e => hr2 i i10 b e) (hr i i10)) ?_
    rw [nI_1]
    exact ih (i + 1) _ (by omega) (hx.put i10 hr) (hr.put hx.2.2.2.1 hx.2.2.2.2.1 hx.2.2.2.2.1 i10 hr (fun b e => hr2 i i10 b e))
      (hd_at.put2 (x := x) hx2 hx.2.2.2.1 hx.2.2.2.2.1 i10 hr) (hr.put hx.2.2.2.1 hx.2.2.2.2.1 hx2.2.2.2.2.1 i10 hr2 (fun b e => hr2 i i10 b e))
theorem k_X2_copyFrom (hd : 1 ≤ d) {x ch sl x2 ch2 sl2 : Nat} (hx : hd_at h x ch sl) (hr : hd_row h sl) (hx2 : hd_at h x2 ch2 sl2) (hr2 : hd_row h sl2) : mx_SM mY_X2_copyFrom d [.ref x, .ref x2] h (mx_xct (.inl none) (hd_copy ch sl sl2 10 0 h)) :=
  b_X2_copyFrom x x2 (k_X2_copyFrom_2 hd 10 0 h rfl hx hr hx2 hr2)
/-- Handles.firstSharer: the first handle, not behind this one, that shares its open file -/
def hd_first (f : Nat → Option Nat) (i : Nat) : Nat → Nat → Nat
  | 0, _ => i
  | m + 1, j => if f j = f i then j else hd_first f i m (j + 1)
theorem k_X2_firstSharer_2 {x ch sl i : Nat} (hx : hd_at h x ch sl) (hi : i < 10) (ho : ∀ j, j < 10 → ∀ b, hpR h sl j = some b → 128 ≤ b) : ∀ m j, j + m = i → mx_SX mY_X2_firstSharer d 2 [(0, .ref x), (1, .int (nI i)), (2, .int (nI j))] [] h (mx_xct (.inl (some (.int (nI (hd_first (hpR h sl) i m j))))) h) := by
  intro m
  induction m with
  | zero =>
    intro j hj
    refine b_X2_firstSharer_2 x (nI i) (nI j) ⟨fun _ => ⟨rfl, rfl⟩, fun c => absurd (nI_le (by omega) (by omega)) c⟩
  | succ m ih =>
    intro j hj
    have ei : (nI i).toNatClampNeg = i := nI_clamp (by omega)
    have ej : (nI j).toNatClampNeg = j := nI_clamp (by omega)
    have hz := hx.2.2.2.2.2
    refine b_X2_firstSharer_2 x (nI i) (nI j) ⟨fun c => absurd c (nI_ge (by omega) (by omega)), fun _ => ⟨fun c => absurd c (show ¬ nI 10 ≤ nI j from nI_ge (by omega) (by omega)), fun _ => ⟨hx.1, sl, hx.2.2.1, hx.2.2.2.2.1, by rw [hz]; exact vp_in_nI (by omega) (by omega), by rw [hz]; exact vp_in_nI hi (by omega), ?_⟩⟩⟩
    rw [ei, ej]
    refine ⟨ho j (by omega), ho i hi, fun c => ?_, fun c => ?_⟩
    · rw [nI_1, hd_first, if_neg c]
      exact ih (j + 1) (by omega)
    · rw [hd_first, if_pos c]
      exact ⟨rfl, rfl⟩
theorem k_X2_firstSharer {x ch sl i : Nat} (hx : hd_at h x ch sl) (hi : i < 10) (ho : ∀ j, j < 10 → ∀ b, hpR h sl j = some b → 128 ≤ b) : mx_SM mY_X2_firstSharer d [.ref x, .int (nI i)] h (mx_xct (.inl (some (.int (nI (hd_first (hpR h sl) i i 0))))) h) :=
  b_X2_firstSharer x (nI i) (k_X2_firstSharer_2 hx hi ho i 0 (Nat.zero_add i))
end MXHB
