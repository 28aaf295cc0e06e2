/-! HANDLES and OPEN FILES: the exact heap functions of Handles.put, Channels.open, and the methods on top of them -/
section MXHA
variable {d : Nat} {h : mxH}
theorem hpR_sR {h : mxH} {a k b j : Nat} {v : Option Nat} : hpR (hsR h a k v) b j = if b = a then (if j = k then v else hpR h a j) else hpR h b j := by
  show hpR (hrR h a (fup (hpR h a) k v)) b j = _
  rw [hpR_rR]
  by_cases c : b = a
  · rw [if_pos c, if_pos c]; rfl
  · rw [if_neg c, if_neg c]
theorem hpR_sRn {h : mxH} {a k b j : Nat} {v : Option Nat} (hb : b ≠ a) : hpR (hsR h a k v) b j = hpR h b j := by rw [hpR_sR, if_neg hb]
theorem hpI_sI {h : mxH} {a k b j : Nat} {v : Int32} : hpI (hsI h a k v) b j = if b = a then (if j = k then v else hpI h a j) else hpI h b j := by
  show hpI (hrI h a (fup (hpI h a) k v)) b j = _
  rw [hpI_rI]
  by_cases c : b = a
  · rw [if_pos c, if_pos c]; rfl
  · rw [if_neg c, if_neg c]
theorem hpI_sIn {h : mxH} {a k b j : Nat} {v : Int32} (hb : b ≠ a) : hpI (hsI h a k v) b j = hpI h b j := by rw [hpI_sI, if_neg hb]
theorem mx_neK {h : mxH} {a b x y : Nat} (ha : hpK h a = x) (hb : hpK h b = y) (hxy : x ≠ y) : a ≠ b := fun e => hxy (by rw [← ha, ← hb, e])
/-- Handles.put, behind the counting up -/
def hd_put25 (h : mxH) (ch sl i : Nat) (new : Option Nat) : mxH :=
  match hpR h sl i with
  | none => hsR h sl i new
  | some o =>
    let h2 := hsI (hsR h sl i new) o 4 (hpI (hsR h sl i new) o 4 - 1)
    if 0 < hpI h2 o 4 then h2 else hsR (hsR h2 o 5 (hpR h2 ch 0)) ch 0 (some o)
def hd_up (h : mxH) (new : Option Nat) : mxH := match new with
  | none => h
  | some b => hsI h b 4 (hpI h b 4 + 1)
def hd_put (h : mxH) (ch sl i : Nat) (new : Option Nat) : mxH := hd_put25 (hd_up h new) ch sl i new
/-- what a Handles object is: its Channels, its row of ten -/
def hd_at (h : mxH) (x ch sl : Nat) : Prop := hpK h x = 2 ∧ hpR h x 0 = some ch ∧ hpR h x 1 = some sl ∧ hpK h ch = 0 ∧ hpK h sl = 18 ∧ hpZ h sl = 10
theorem k_X2_put_25 {x ch sl i : Nat} {new : Option Nat} (hx : hd_at h x ch sl) (hi : i < 10) (hn : ∀ b, new = some b → hpK h b = 5) (ho : ∀ b, hpR h sl i = some b → hpK h b = 5) : mx_SX mY_X2_put d 25 [(0, .ref x), (1, .int (nI i)), (2, va_rf new)] [] h (mx_xct (.inl none) (hd_put25 h ch sl i new)) := by
  obtain ⟨h1, h2, h3, h4, h5, h6⟩ := hx
  have ei : (nI i).toNatClampNeg = i := nI_clamp (by omega)
  refine b_X2_put_25 x (nI i) new ⟨h1, sl, h3, h5, by rw [h6]; exact vp_in_nI hi (by omega), hn, ?_⟩
  rw [ei]
  rintro _ rfl
  refine ⟨fun c => ⟨rfl, by rw [hd_put25, c]⟩, fun o c => ⟨ho o c, ?_⟩⟩
  have ne1 : x ≠ sl := mx_neK h1 h5 (by decide)
  have ne2 : x ≠ o := mx_neK h1 (ho o c) (by decide)
  rintro _ rfl
  refine ⟨fun g => ⟨rfl, by rw [hd_put25, c]; exact (if_pos g).symm⟩, fun g => ⟨ch, ?_, h4, ?_⟩⟩
  · show hpR (hsR h sl i new) x 0 = some ch
    rw [hpR_sRn ne1]; exact h2
  rintro _ rfl
  refine ⟨ch, ?_, h4, ?_⟩
  · rw [hpR_sRn ne2]
    show hpR (hsR h sl i new) x 0 = some ch
    rw [hpR_sRn ne1]; exact h2
  rintro _ rfl
  exact ⟨rfl, by rw [hd_put25, c]; exact (if_neg g).symm⟩
/-- Handles.put of a handle in range -/
theorem k_X2_put {x ch sl i : Nat} {new : Option Nat} (hx : hd_at h x ch sl) (hi : i < 10) (hn : ∀ b, new = some b → hpK h b = 5) (ho : ∀ b, hpR h sl i = some b → hpK h b = 5) : mx_SM mY_X2_put d [.ref x, .int (nI i), va_rf new] h (mx_xct (.inl none) (hd_put h ch sl i new)) := by
  refine b_X2_put x (nI i) new ⟨fun c => absurd c (nI_pos (by omega)), fun _ => ⟨fun _ => ⟨?_, ?_⟩, fun c => absurd (show nI i < nI 10 from nI_lt hi (by omega)) c⟩⟩
  · rintro rfl
    exact k_X2_put_25 hx hi hn ho
  · rintro b rfl
    refine ⟨hn b rfl, ?_⟩
    rintro _ rfl
    exact k_X2_put_25 (h := hsI h b 4 (hpI h b 4 + 1)) hx hi hn ho
/-- a handle out of range is left alone -/
theorem k_X2_putOut {x : Nat} {i : Int32} {new : Option Nat} (hi : i < 0 ∨ ¬ i < 10) : mx_SM mY_X2_put d [.ref x, .int i, va_rf new] h (mx_xct (.inl none) h) := by
  refine b_X2_put x i new ⟨fun _ => ⟨rfl, rfl⟩, fun c => ⟨fun c2 => ?_, fun _ => ⟨rfl, rfl⟩⟩⟩
  rcases hi with q | q
  · exact absurd q c
  · exact absurd c2 q
/-- Channels.open: the next free open file, or a new one -/
def hd_fill (h : mxH) (o : Nat) (kd fl pp ps : Int32) : mxH := hsI (hsI (hsI (hsI (hsI (hsR h o 5 none) o 0 kd) o 1 fl) o 2 pp) o 3 ps) o 4 0
def hd_open (h : mxH) (ch : Nat) (kd fl pp ps : Int32) : mxH := match hpR h ch 0 with
  | none => hd_fill (hnw h 5 0 6) (hpN h) kd fl pp ps
  | some o => hd_fill (hsR h ch 0 (hpR h o 5)) o kd fl pp ps
def hd_opened (h : mxH) (ch : Nat) : Nat := match hpR h ch 0 with
  | none => hpN h
  | some o => o
theorem k_X0_open_32 {o : Nat} {kd fl pp ps : Int32} (hk : mx_kd h o 5) : mx_SX mY_X0_open d 32 [(1, .int kd), (2, .int fl), (3, .int pp), (4, .int ps), (5, va_rf (some o))] [] h (mx_xct (.inl (some (.ref o))) (hd_fill h o kd fl pp ps)) := by
  refine b_X0_open_32 kd fl pp ps (some o) ⟨o, rfl, hk.2, ?_⟩
  rintro _ rfl _ rfl _ rfl _ rfl _ rfl _ rfl
  exact ⟨fun b e => by cases e; exact hk.1, rfl, rfl⟩
theorem k_X0_open (hd : 2 ≤ d) {ch : Nat} {kd fl pp ps : Int32} (hc : hpK h ch = 0) (hf : ∀ o, hpR h ch 0 = some o → mx_kd h o 5) : mx_SM mY_X0_open d [.ref ch, .int kd, .int fl, .int pp, .int ps] h (mx_xct (.inl (some (.ref (hd_opened h ch)))) (hd_open h ch kd fl pp ps)) := by
  refine b_X0_open ch kd fl pp ps ⟨hc, fun c => ?_, fun o c => ⟨(hf o c).2, ?_⟩⟩
  · rintro _ _ rfl rfl
    refine ⟨by omega, mx_xKV (h' := hnw h 5 0 6) (b_X5_init (hpN h) ⟨by omega, rfl, rfl⟩) ?_⟩
    have := k_X0_open_32 (d := d) (h := hnw h 5 0 6) (o := hpN h) (kd := kd) (fl := fl) (pp := pp) (ps := ps) mx_kd_new
    rw [hd_opened, hd_open, c]
    exact this
  · rintro _ rfl
    have := k_X0_open_32 (d := d) (h := hsR h ch 0 (hpR h o 5)) (o := o) (kd := kd) (fl := fl) (pp := pp) (ps := ps) (hf o c)
    rw [hd_opened, hd_open, c]
    exact this
/-- what put leaves as it is -/
theorem hd_up_same (new : Option Nat) : hpN (hd_up h new) = hpN h ∧ hpC (hd_up h new) = hpC h ∧ hpS (hd_up h new) = hpS h ∧ hpK (hd_up h new) = hpK h ∧ hpZ (hd_up h new) = hpZ h ∧ hpL (hd_up h new) = hpL h ∧ hpR (hd_up h new) = hpR h := by
  cases new <;> exact ⟨rfl, rfl, rfl, rfl, rfl, rfl, rfl⟩
theorem hd_put25_same (ch sl i : Nat) (new : Option Nat) : hpN (hd_put25 h ch sl i new) = hpN h ∧ hpC (hd_put25 h ch sl i new) = hpC h ∧ hpS (hd_put25 h ch sl i new) = hpS h ∧ hpK (hd_put25 h ch sl i new) = hpK h ∧ hpZ (hd_put25 h ch sl i new) = hpZ h ∧ hpL (hd_put25 h ch sl i new) = hpL h := by
  unfold hd_put25
  split
  · exact ⟨rfl, rfl, rfl, rfl, rfl, rfl⟩
  · dsimp only
    split <;> exact ⟨rfl, rfl, rfl, rfl, rfl, rfl⟩
theorem hd_put_same (ch sl i : Nat) (new : Option Nat) : hpN (hd_put h ch sl i new) = hpN h ∧ hpC (hd_put h ch sl i new) = hpC h ∧ hpS (hd_put h ch sl i new) = hpS h ∧ hpK (hd_put h ch sl i new) = hpK h ∧ hpZ (hd_put h ch sl i new) = hpZ h ∧ hpL (hd_put h ch sl i new) = hpL h := by
  obtain ⟨a1, a2, a3, a4, a5, a6⟩ := hd_put25_same (h := hd_up h new) ch sl i new
  obtain ⟨b1, b2, b3, b4, b5, b6, -⟩ := hd_up_same (h := h) new
  exact ⟨a1.trans b1, a2.trans b2, a3.trans b3, a4.trans b4, a5.trans b5, a6.trans b6⟩
theorem hd_put25_R {ch sl i b j : Nat} {new : Option Nat} (hb : b ≠ ch) (ho : ∀ o, hpR h sl i = some o → b ≠ o) : hpR (hd_put25 h ch sl i new) b j = if b = sl ∧ j = i then new else hpR h b j := by
  have e : hpR (hsR h sl i new) b j = if b = sl ∧ j = i then new else hpR h b j := by
    rw [hpR_sR]
    by_cases c : b = sl
    · by_cases c2 : j = i
      · rw [if_pos c, if_pos c2, if_pos ⟨c, c2⟩]
      · rw [if_pos c, if_neg c2, if_neg (fun q => c2 q.2), c]
    · rw [if_neg c, if_neg (fun q => c q.1)]
  unfold hd_put25
  split
  · exact e
  · rename_i o c
    dsimp only
    split
    · exact e
    · rw [hpR_sRn hb, hpR_sRn (ho o c)]
      exact e
/-- the references behind put, but those of the free open file and of the Channels' first free one -/
theorem hd_put_R {ch sl i b j : Nat} {new : Option Nat} (hb : b ≠ ch) (ho : ∀ o, hpR h sl i = some o → b ≠ o) : hpR (hd_put h ch sl i new) b j = if b = sl ∧ j = i then new else hpR h b j := by
  have e := (hd_up_same (h := h) new).2.2.2.2.2.2
  rw [hd_put, hd_put25_R hb (by rw [e]; exact ho), e]
/-- a row of ten with open files alone -/
def hd_row (h : mxH) (sl : Nat) : Prop := ∀ j, j < 10 → ∀ b, hpR h sl j = some b → hpK h b = 5
theorem hd_at.put {x ch sl i : Nat} {new : Option Nat} (hx : hd_at h x ch sl) (hi : i < 10) (hr : hd_row h sl) : hd_at (hd_put h ch sl i new) x ch sl := by
  obtain ⟨h1, h2, h3, h4, h5, h6⟩ := hx
  obtain ⟨-, -, -, e4, e5, -⟩ := hd_put_same (h := h) ch sl i new
  have n1 : x ≠ ch := mx_neK h1 h4 (by decide)
  have n2 : x ≠ sl := mx_neK h1 h5 (by decide)
  have n3 : ∀ o, hpR h sl i = some o → x ≠ o := fun o c => mx_neK h1 (hr i hi o c) (by decide)
  refine ⟨by rw [e4]; exact h1, ?_, ?_, by rw [e4]; exact h4, by rw [e4]; exact h5, by rw [e5]; exact h6⟩
  · rw [hd_put_R n1 n3, if_neg (fun q => n2 q.1)]; exact h2
  · rw [hd_put_R n1 n3, if_neg (fun q => n2 q.1)]; exact h3
theorem hd_row.put {ch sl sl2 i : Nat} {new : Option Nat} (hc : hpK h ch = 0) (hs : hpK h sl = 18) (hs2 : hpK h sl2 = 18) (hi : i < 10) (hr : hd_row h sl) (hr2 : hd_row h sl2) (hn : ∀ b, new = some b → hpK h b = 5) : hd_row (hd_put h ch sl i new) sl2 := by
  intro j hj b hb
  obtain ⟨-, -, -, e4, -, -⟩ := hd_put_same (h := h) ch sl i new
  rw [e4]
  rw [hd_put_R (mx_neK hs2 hc (by decide)) (fun o c => mx_neK hs2 (hr i hi o c) (by decide))] at hb
  by_cases c : sl2 = sl ∧ j = i
  · rw [if_pos c] at hb; exact hn b hb
  · rw [if_neg c] at hb; exact hr2 j hj b hb
/-- Handles.closeAll -/
def hd_close (ch sl : Nat) : Nat → Nat → mxH → mxH
  | 0, _, h => h
  | m + 1, i, h => hd_close ch sl m (i + 1) (hd_put h ch sl i none)
theorem k_X2_closeAll_2 (hd : 1 ≤ d) {x ch sl : Nat} : ∀ m i (h : mxH), i + m = 10 → hd_at h x ch sl → hd_row h sl → mx_SX mY_X2_closeAll d 2 [(0, .ref x), (1, .int (nI i))] [] h (mx_xct (.inl none) (hd_close ch sl m i h)) := by
  intro m
  induction m with
  | zero =>
    intro i h hi hx hr
    refine b_X2_closeAll_2 x (nI i) ⟨fun _ => ⟨rfl, rfl⟩, fun c => absurd (show nI 10 ≤ nI i from nI_le (by omega) (by omega)) c⟩
  | succ m ih =>
    intro i h hi hx hr
    refine b_X2_closeAll_2 x (nI i) ⟨fun c => absurd c (show ¬ nI 10 ≤ nI i from nI_ge (by omega) (by omega)), fun _ => ⟨hd, hx.1, mx_xKV (k_X2_put (new := none) hx (by omega) (fun b e => by cases e) (hr i (by omega))) ?_⟩⟩
    rw [nI_1]
    exact ih (i + 1) _ (by omega) (hx.put (by omega) hr) (hr.put hx.2.2.2.1 hx.2.2.2.2.1 hx.2.2.2.2.1 (by omega) hr (fun b e => by cases e))
theorem k_X2_closeAll (hd : 1 ≤ d) {x ch sl : Nat} (hx : hd_at h x ch sl) (hr : hd_row h sl) : mx_SM mY_X2_closeAll d [.ref x] h (mx_xct (.inl none) (hd_close ch sl 10 0 h)) :=
  b_X2_closeAll x (k_X2_closeAll_2 hd 10 0 h rfl hx hr)
/-- Handles.at, Handles.kindOf -/
theorem k_X2_at {x ch sl i : Nat} (hx : hd_at h x ch sl) (hi : i < 10) (hb : ∀ b, hpR h sl i = some b → b < hpN h) : mx_SM mY_X2_at d [.ref x, .int (nI i)] h (mx_xct (.inl (some (va_rf (hpR h sl i)))) h) := by
  obtain ⟨h1, h2, h3, h4, h5, h6⟩ := hx
  refine b_X2_at x (nI i) ⟨fun c => absurd c (nI_pos (by omega)), fun _ => ⟨fun c => absurd c (show ¬ nI 10 ≤ nI i from nI_ge hi (by omega)), fun _ => ⟨h1, sl, h3, h5, by rw [h6]; exact vp_in_nI hi (by omega), ?_⟩⟩⟩
  rw [nI_clamp (by omega)]
  exact ⟨hb, rfl, rfl⟩
end MXHA
