/-! LINES: marking; TABLES: put; PIPES: making and forgetting, exact -/
section MXLI
variable {d : Nat} {h : mxH}
/-- a Lines object: its rows of bytes, lengths, marks -/
def ln_at (h : mxH) (x by_ ln us : Nat) : Prop := hpK h x = 3 ∧ hpR h x 0 = some by_ ∧ hpR h x 1 = some ln ∧ hpR h x 2 = some us ∧ hpK h by_ = 13 ∧ hpZ h by_ = 256000 ∧ hpK h ln = 14 ∧ hpZ h ln = 3200 ∧ hpK h us = 16 ∧ hpZ h us = 3200
def ln_mark (h : mxH) (us : Nat) (v : Int32) : mxH := if v < 0 then h else if (3200 : Int32) ≤ v then h else hsI h us v.toNatClampNeg 1
theorem k_X3_mark {x by_ ln us : Nat} {v : Int32} (hx : ln_at h x by_ ln us) : mx_SM mY_X3_mark d [.ref x, .int v] h (mx_xct (.inl none) (ln_mark h us v)) := by
  obtain ⟨h1, h2, h3, h4, h5, h6, h7, h8, h9, h10⟩ := hx
  refine b_X3_mark x v ⟨fun c => ⟨rfl, by rw [ln_mark, if_pos c]⟩, fun c => ⟨fun c2 => ⟨rfl, by rw [ln_mark, if_neg c, if_pos c2]⟩, fun c2 => ⟨h1, us, h4, h9, ?_, ?_⟩⟩⟩
  · rw [h10, vp_in_iff]
    have a1 : ¬ v.toInt < (0 : Int32).toInt := fun q => c (Int32.lt_iff_toInt_lt.mpr q)
    have a2 : ¬ (3200 : Int32).toInt ≤ v.toInt := fun q => c2 (Int32.le_iff_toInt_le.mpr q)
    have a3 : (0 : Int32).toInt = 0 := rfl
    have a4 : (3200 : Int32).toInt = 3200 := rfl
    rw [a3] at a1; rw [a4] at a2
    omega
  · rintro _ rfl
    exact ⟨rfl, by rw [ln_mark, if_neg c, if_neg c2]; rfl⟩
theorem ln_at.mark {x by_ ln us : Nat} {v : Int32} (hx : ln_at h x by_ ln us) : ln_at (ln_mark h us v) x by_ ln us := by
  unfold ln_mark
  split
  · exact hx
  · split
    · exact hx
    · exact hx
theorem ln_mark_I {us b : Nat} {v : Int32} (hb : b ≠ us) : hpI (ln_mark h us v) b = hpI h b := by
  unfold ln_mark
  split
  · rfl
  · split
    · rfl
    · exact funext fun j => hpI_sIn hb
theorem ln_mark_same {us : Nat} {v : Int32} : hpN (ln_mark h us v) = hpN h ∧ hpC (ln_mark h us v) = hpC h ∧ hpS (ln_mark h us v) = hpS h ∧ hpK (ln_mark h us v) = hpK h ∧ hpZ (ln_mark h us v) = hpZ h ∧ hpL (ln_mark h us v) = hpL h ∧ hpR (ln_mark h us v) = hpR h := by
  unfold ln_mark
  split
  · exact ⟨rfl, rfl, rfl, rfl, rfl, rfl, rfl⟩
  · split <;> exact ⟨rfl, rfl, rfl, rfl, rfl, rfl, rfl⟩
/-- marks of the places from j on, m of them, of a row -/
def ln_marks (us : Nat) (f : Nat → Int32) : Nat → Nat → mxH → mxH
  | 0, _, h => h
  | m + 1, j, h => ln_marks us f m (j + 1) (ln_mark h us (f j))
/-- Lines.markAll over places of a row that are there -/
theorem k_X3_markAll_3 (hd : 1 ≤ d) {x by_ ln us a s n : Nat} {f : Nat → Int32} (hne : a ≠ us) : ∀ m j (h : mxH), j + m = s + n → ln_at h x by_ ln us → hpK h a = 14 → s + n ≤ hpZ h a → hpZ h a < 2 ^ 31 → hpI h a = f → mx_SX mY_X3_markAll d 3 [(0, .ref x), (1, .ref a), (2, .int (nI s)), (3, .int (nI n)), (4, .int (nI j))] [] h (mx_xct (.inl none) (ln_marks us f m j h)) := by
  intro m
  induction m with
  | zero =>
    intro j h hj hx hk hz hz2 hf
    refine b_X3_markAll_3 x a (nI s) (nI n) (nI j) ⟨fun _ => ⟨rfl, rfl⟩, fun c => absurd ?_ c⟩
    rw [nI_add]; exact nI_le (by omega) (by omega)
  | succ m ih =>
    intro j h hj hx hk hz hz2 hf
    refine b_X3_markAll_3 x a (nI s) (nI n) (nI j) ⟨fun c => absurd c ?_, fun _ => ⟨fun c => absurd c (nI_pos (by omega)), fun _ => ⟨hk, fun c => absurd c (nI_ge (by omega) hz2), fun _ => ⟨vp_in_nI (by omega) hz2, hd, hx.1, ?_⟩⟩⟩⟩
    · rw [nI_add]; exact nI_ge (by omega) (by omega)
    · rw [nI_clamp (by omega), hf]
      refine mx_xKV (k_X3_mark hx) ?_
      rw [nI_1]
      obtain ⟨-, -, -, e1, e2, -, -⟩ := ln_mark_same (h := h) (us := us) (v := f j)
      exact ih (j + 1) _ (by omega) hx.mark (by rw [e1]; exact hk) (by rw [e2]; exact hz) (by rw [e2]; exact hz2) (by rw [ln_mark_I hne]; exact hf)
theorem k_X3_markAll (hd : 1 ≤ d) {x by_ ln us a s n : Nat} (hx : ln_at h x by_ ln us) (hk : hpK h a = 14) (hz : s + n ≤ hpZ h a) (hz2 : hpZ h a < 2 ^ 31) : mx_SM mY_X3_markAll d [.ref x, .ref a, .int (nI s), .int (nI n)] h (mx_xct (.inl none) (ln_marks us (hpI h a) n s h)) :=
  b_X3_markAll x a (nI s) (nI n) (k_X3_markAll_3 hd (mx_neK hk hx.2.2.2.2.2.2.2.2.1 (by decide)) n s h rfl hx hk hz hz2 rfl)
/-- Channels.forgetPipes -/
theorem k_X0_forgetPipes {x : Nat} (hx : hpK h x = 0) : mx_SM mY_X0_forgetPipes d [.ref x] h (mx_xct (.inl none) (hsI (hsI (hsI h x 3 0) x 6 0) x 7 (-1))) := by
  refine b_X0_forgetPipes x ⟨hx, ?_⟩
  rintro _ rfl _ rfl _ rfl
  exact ⟨rfl, rfl⟩
/-- Table.put: the value of a name that is there, or one more name -/
def tb_put (h : mxH) (t na va n : Nat) (k : Int64) (v : Int32) : mxH :=
  let i := mx_ix (hpL h na) k n 0
  if 0 ≤ i then hsI h va i.toNatClampNeg v else hsI (hsI (hsL h na n k) t 2 (nI (n + 1))) va n v
def tb_at (h : mxH) (t na va n : Nat) : Prop := hpK h t = 9 ∧ hpR h t 0 = some na ∧ hpR h t 1 = some va ∧ hpK h na = 15 ∧ hpK h va = 14 ∧ hpZ h va = hpZ h na ∧ hpZ h na < 2 ^ 31 ∧ hpI h t 2 = nI n ∧ n ≤ hpZ h na
theorem k_X9_put_57 {t na va n i : Nat} {v : Int32} (ht : hpK h t = 9) (hr : hpR h t 1 = some va) (hk : hpK h va = 14) (hi : i < hpZ h va) (hz : hpZ h va < 2 ^ 31) : mx_SX mY_X9_put d 57 [(0, .ref t), (3, .int v), (4, .int (nI i))] [] h (mx_xct (.inl (some (.int 1))) (hsI h va i v)) := by
  refine b_X9_put_57 t v (nI i) ⟨ht, va, hr, hk, fun c => absurd c (nI_ge hi hz), fun _ => ⟨vp_in_nI hi hz, ?_⟩⟩
  rintro _ rfl
  rw [nI_clamp (by omega)]
  exact ⟨rfl, rfl⟩
/-- ... when there is room for it -/
theorem k_X9_put (hd : 1 ≤ d) {t na va n : Nat} {k : Int64} {v : Int32} (ht : tb_at h t na va n) (hroom : n < hpZ h na ∨ 0 ≤ mx_ix (hpL h na) k n 0) : mx_SM mY_X9_put d [.ref t, .long k, .int v] h (mx_xct (.inl (some (.int 1))) (tb_put h t na va n k v)) := by
  obtain ⟨h1, h2, h3, h4, h5, h6, h7, h8, h9⟩ := ht
  refine b_X9_put t k v ⟨hd, h1, mx_xKI (r := .inl none) (k_X9_find h1 h2 h4 h8 h9 h7) ?_⟩
  rcases mx_ix_spec (hpL h na) k n 0 with ⟨i, -, i2, i3, i4, i5⟩ | ⟨i1, i2⟩
  · have e : 0 ≤ mx_ix (hpL h na) k n 0 := by rw [i5]; exact nI_pos' (by omega)
    refine ⟨fun _ => ?_, fun c => absurd e c⟩
    rw [tb_put, if_pos e, i5, nI_clamp (by omega)]
    exact k_X9_put_57 (na := na) (n := n) h1 h3 h5 (by omega) (by omega)
  · have e : ¬ 0 ≤ mx_ix (hpL h na) k n 0 := by rw [i2]; decide
    have hn : n < hpZ h na := hroom.resolve_right e
    have en : (nI n).toNatClampNeg = n := nI_clamp (by omega)
    refine ⟨fun c => absurd c e, fun _ => ⟨h1, ?_⟩⟩
    rw [h8]
    refine ⟨fun c => absurd c (nI_pos (by omega)), fun _ => ⟨na, h2, h4, fun _ => ⟨vp_in_nI hn h7, ?_⟩, fun c => absurd (nI_lt hn h7) c⟩⟩
    rw [en]
    rintro _ rfl _ rfl
    have e9 : hpI (hsL h na n k) t 2 + (1 : Int32) = nI (n + 1) := by
      show hpI h t 2 + 1 = _
      rw [h8, nI_1]
    rw [e9, tb_put, if_neg e]
    exact k_X9_put_57 (h := hsI (hsL h na n k) t 2 (nI (n + 1))) (na := na) (n := n) h1 h3 h5 (by show n < hpZ h va; omega) (by show hpZ h va < _; omega)
end MXLI
