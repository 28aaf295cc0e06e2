/-! THE REFERENCE: rows set by loops; beginsAnew, exact (p1) -/
section MXM4
variable {d : Nat} {h : mxH}
def lowF {α : Type} (j : Nat) (v : α) (f : Nat → α) : Nat → α := fun q => if q < j then v else f q
theorem lowF_0 {α : Type} (v : α) (f : Nat → α) : lowF 0 v f = f := by
  funext q; unfold lowF; rw [if_neg (Nat.not_lt_zero q)]
theorem lowF_s {α : Type} (j : Nat) (v : α) (f : Nat → α) : fup (lowF j v f) j v = lowF (j + 1) v f := by
  funext q
  unfold fup lowF
  by_cases c : q = j
  · rw [if_pos c, if_pos (by omega)]
  · rw [if_neg c]
    by_cases c2 : q < j
    · rw [if_pos c2, if_pos (by omega)]
    · rw [if_neg c2, if_neg (by omega)]
def segF {α : Type} (b j : Nat) (v : α) (f : Nat → α) : Nat → α := fun q => if b ≤ q ∧ q < b + j then v else f q
theorem segF_0 {α : Type} (b : Nat) (v : α) (f : Nat → α) : segF b 0 v f = f := by
  funext q; unfold segF; rw [if_neg (by omega)]
theorem segF_s {α : Type} (b j : Nat) (v : α) (f : Nat → α) : fup (segF b j v f) (b + j) v = segF b (j + 1) v f := by
  funext q
  unfold fup segF
  by_cases c : q = b + j
  · rw [if_pos c, if_pos (by omega)]
  · rw [if_neg c]
    by_cases c2 : b ≤ q ∧ q < b + j
    · rw [if_pos c2, if_pos (by omega)]
    · rw [if_neg c2, if_neg (by omega)]
theorem hrI_id {a : Nat} {f : Nat → Int32} (e : hpI h a = f) : hrI h a f = h := by
  have : (fun b => if b = a then f else hpI h b) = hpI h := by
    funext b
    by_cases c : b = a
    · rw [if_pos c, c, e]
    · rw [if_neg c]
  show (h.1, h.2.1, h.2.2.1, h.2.2.2.1, h.2.2.2.2.1, (fun b => if b = a then f else hpI h b), h.2.2.2.2.2.2.1, h.2.2.2.2.2.2.2) = h
  rw [this]
  rfl
theorem hrL_id {a : Nat} {f : Nat → Int64} (e : hpL h a = f) : hrL h a f = h := by
  have : (fun b => if b = a then f else hpL h b) = hpL h := by
    funext b
    by_cases c : b = a
    · rw [if_pos c, c, e]
    · rw [if_neg c]
  show (h.1, h.2.1, h.2.2.1, h.2.2.2.1, h.2.2.2.2.1, h.2.2.2.2.2.1, (fun b => if b = a then f else hpL h b), h.2.2.2.2.2.2.2) = h
  rw [this]
  rfl
theorem m_sI_rI {a k : Nat} {f : Nat → Int32} {v : Int32} : hsI (hrI h a f) a k v = hrI h a (fup f k v) := by
  have e : hpI (hrI h a f) a = f := by rw [hpI_rI, if_pos rfl]
  unfold hsI
  rw [e]
  show (h.1, h.2.1, h.2.2.1, h.2.2.2.1, h.2.2.2.2.1, (fun b => if b = a then fup f k v else if b = a then f else h.2.2.2.2.2.1 b), h.2.2.2.2.2.2.1, h.2.2.2.2.2.2.2) = _
  have : (fun b => if b = a then fup f k v else if b = a then f else h.2.2.2.2.2.1 b) = fun b => if b = a then fup f k v else h.2.2.2.2.2.1 b := by
    funext b
    by_cases c : b = a
    · rw [if_pos c, if_pos c]
    · rw [if_neg c, if_neg c, if_neg c]
  rw [this]
  rfl
theorem m_sL_rL {a k : Nat} {f : Nat → Int64} {v : Int64} : hsL (hrL h a f) a k v = hrL h a (fup f k v) := by
  have e : hpL (hrL h a f) a = f := by rw [hpL_rL, if_pos rfl]
  unfold hsL
  rw [e]
  show (h.1, h.2.1, h.2.2.1, h.2.2.2.1, h.2.2.2.2.1, h.2.2.2.2.2.1, (fun b => if b = a then fup f k v else if b = a then f else h.2.2.2.2.2.2.1 b), h.2.2.2.2.2.2.2) = _
  have : (fun b => if b = a then fup f k v else if b = a then f else h.2.2.2.2.2.2.1 b) = fun b => if b = a then fup f k v else h.2.2.2.2.2.2.1 b := by
    funext b
    by_cases c : b = a
    · rw [if_pos c, if_pos c]
    · rw [if_neg c, if_neg c, if_neg c]
  rw [this]
  rfl
/-- rows of the constructor's loops -/
def qnF (j : Nat) : Nat → Int32 := fun q => if q < j then (if q + 1 < 13000 then nI (q + 1) else -1) else 0
theorem qnF_s (j : Nat) : fup (qnF j) j (if j + 1 < 13000 then nI (j + 1) else -1) = qnF (j + 1) := by
  funext q
  unfold fup qnF
  by_cases c : q = j
  · subst c
    rw [if_pos rfl, if_pos (show q < q + 1 by omega)]
  · rw [if_neg c]
    by_cases c2 : q < j
    · rw [if_pos c2, if_pos (show q < j + 1 by omega)]
    · rw [if_neg c2, if_neg (show ¬ q < j + 1 by omega)]
theorem x12_q (s : SR h) {Q : mxRes → mxH → Prop} (K : mx_SX mY_X12_init d 618 [(0, .ref 320), (1, .int (0 : Int32))] [] (hrI h 351 (qnF 13000)) Q) : ∀ m j, j + m = 13000 → mx_SX mY_X12_init d 581 [(0, .ref 320), (1, .int (nI j))] [] (hrI h 351 (qnF j)) Q := by
  intro m
  induction m with
  | zero =>
    intro j hj
    have : j = 13000 := by omega
    subst this
    exact b_X12_init_581 320 _ ⟨fun _ => K, fun c => absurd (show nI 13000 ≤ nI 13000 from nI_le (Nat.le_refl _) (by omega)) c⟩
  | succ m ih =>
    intro j hj
    refine b_X12_init_581 320 _ ⟨fun c => absurd c (show ¬ nI 13000 ≤ nI j from nI_ge (by omega) (by omega)), fun _ => ⟨sr_k s, 351, sr_r65 s, ?_, ?_⟩⟩
    · rw [nI_1]
      intro c
      have e : ¬ j + 1 < 13000 := fun q => absurd c (show ¬ nI 13000 ≤ nI (j + 1) from nI_ge q (by omega))
      refine ⟨sr_k351 s, by rw [hpZ_rI, sr_z351 s]; exact vp_in_nI (by omega) (by omega), ?_⟩
      rintro _ rfl
      have := ih (j + 1) (by omega)
      rw [← qnF_s, if_neg e] at this
      rw [nI_clamp (by omega), m_sI_rI]
      exact this
    · rw [nI_1]
      intro c
      have e : j + 1 < 13000 := by
        rcases Nat.lt_or_ge (j + 1) 13000 with q | q
        · exact q
        · exact absurd (show nI 13000 ≤ nI (j + 1) from nI_le q (by omega)) c
      refine ⟨sr_k351 s, by rw [hpZ_rI, sr_z351 s]; exact vp_in_nI (by omega) (by omega), ?_⟩
      rintro _ rfl
      have := ih (j + 1) (by omega)
      rw [← qnF_s, if_pos e] at this
      rw [nI_clamp (by omega), m_sI_rI]
      exact this
theorem x12_p (s : SR h) {f : Nat → Int32} {Q : mxRes → mxH → Prop} (K : mx_SX mY_X12_init d 618 [(0, .ref 320), (1, .int (nI 400))] [] (hrI h 347 (lowF 400 (-1) f)) Q) : ∀ m j, j + m = 400 → mx_SX mY_X12_init d 618 [(0, .ref 320), (1, .int (nI j))] [] (hrI h 347 (lowF j (-1) f)) Q := by
  intro m
  induction m with
  | zero =>
    intro j hj
    have : j = 400 := by omega
    subst this
    exact K
  | succ m ih =>
    intro j hj
    refine b_X12_init_618 320 _ ⟨fun c => absurd c (show ¬ nI 400 ≤ nI j from nI_ge (by omega) (by omega)), fun _ => ⟨sr_k s, 347, sr_r61 s, sr_k347 s, by rw [hpZ_rI, sr_z347 s]; exact vp_in_nI (by omega) (by omega), ?_⟩⟩
    rintro _ rfl
    rw [nI_1, nI_clamp (by omega), m_sI_rI, lowF_s]
    exact ih (j + 1) (by omega)
/-- Channels: the first open file of a fresh row -/
theorem k_X12_openedF (s : SR h) {p : Nat} {kd its : Int32} (h67 : hpI h 320 67 = nI p) (hp : p < 4000) (hz : hpI h 344 p = 0) : mx_SM mY_X12_opened d [.ref 320, .int kd, .int its] h (mx_xct (.inl (some (.int (nI p)))) (hsI (hsI (hsI h 344 p kd) 345 p its) 346 p 0)) := by
  refine b_X12_opened 320 _ _ (b_X12_opened_2 320 _ _ _ ⟨sr_k s, 344, sr_r58 s, sr_k344 s, ?_, ?_, ?_⟩)
  · rw [h67, sr_z344 s]; exact vp_in_nI hp (by omega)
  · rw [h67, nI_clamp (by omega)]
    rintro -
    rintro _ rfl
    have e1 : hpI (hsI h 344 p kd) 320 67 = nI p := by rw [hpI_sIn (by decide)]; exact h67
    refine ⟨345, sr_r59 s, sr_k345 s, by rw [e1]; show vp_in _ (hpZ h 345); rw [sr_z345 s]; exact vp_in_nI hp (by omega), ?_⟩
    rw [e1, nI_clamp (by omega)]
    rintro _ rfl
    have e2 : hpI (hsI (hsI h 344 p kd) 345 p its) 320 67 = nI p := by rw [hpI_sIn (by decide)]; exact e1
    refine ⟨346, sr_r60 s, sr_k346 s, by rw [e2]; show vp_in _ (hpZ h 346); rw [sr_z346 s]; exact vp_in_nI hp (by omega), ?_⟩
    rw [e2, nI_clamp (by omega)]
    rintro _ rfl
    have e3 : hpI (hsI (hsI (hsI h 344 p kd) 345 p its) 346 p 0) 320 67 = nI p := by rw [hpI_sIn (by decide)]; exact e2
    rw [e3]
    exact ⟨rfl, rfl⟩
  · intro c
    rw [h67, nI_clamp (by omega)] at c
    exact absurd hz c
def bg1 (h : mxH) : mxH := hrI h 354 (lowF 83 0 (hpI h 354))
def bg2 (h : mxH) : mxH := hrL h 355 (lowF 34 0 (hpL h 355))
def bg4 (h : mxH) : mxH := hrI h 354 (segF 36 10 (-1) (hpI h 354))
def bg5 (h : mxH) : mxH := hrI h 344 (lowF 4000 0 (hpI h 344))
def bg7 (h : mxH) (p : Nat) : mxH := hrI h 354 (segF 36 3 (nI p) (hpI h 354))
def bg8 (h : mxH) : mxH := hrI h 356 (lowF 184 0 (hpI h 356))
def bgH (h : mxH) (p : Nat) : mxH := hsI (bg8 (bg7 (hsI (hsI (hsI (bg5 (bg4 (hsI (bg2 (bg1 h)) 354 82 1))) 344 p 1) 345 p 0) 346 p 0) p)) 320 82 0
theorem bg_2 {Q : mxRes → mxH → Prop} (s : SR h) (K : mx_SX mY_X12_beginsAnew d 23 [(0, .ref 320), (1, .int (0 : Int32))] [] (bg1 h) Q) : mx_SX mY_X12_beginsAnew d 2 [(0, .ref 320), (1, .int (0 : Int32))] [] h Q := by
  have G : ∀ m j, j + m = 83 → mx_SX mY_X12_beginsAnew d 2 [(0, .ref 320), (1, .int (nI j))] [] (hrI h 354 (lowF j 0 (hpI h 354))) Q := by
    intro m
    induction m with
    | zero =>
      intro j hj
      have : j = 83 := by omega
      subst this
      exact b_X12_beginsAnew_2 320 _ ⟨fun _ => K, fun c => absurd (show nI 83 ≤ nI 83 from nI_le (Nat.le_refl _) (by omega)) c⟩
    | succ m ih =>
      intro j hj
      refine b_X12_beginsAnew_2 320 _ ⟨fun c => absurd c (show ¬ nI 83 ≤ nI j from nI_ge (by omega) (by omega)), fun _ => ⟨sr_k s, 354, sr_r71 s, sr_k354 s, by rw [hpZ_rI, sr_z354 s]; exact vp_in_nI (by omega) (by omega), ?_⟩⟩
      rintro _ rfl
      rw [nI_1, nI_clamp (by omega), m_sI_rI, lowF_s]
      exact ih (j + 1) (by omega)
  have := G 83 0 rfl
  rw [lowF_0, hrI_id rfl] at this
  exact this
theorem bg_23 {Q : mxRes → mxH → Prop} (s : SR h) (K : mx_SX mY_X12_beginsAnew d 52 [(0, .ref 320), (1, .int (0 : Int32))] [] (hsI (bg2 h) 354 82 1) Q) : mx_SX mY_X12_beginsAnew d 23 [(0, .ref 320), (1, .int (0 : Int32))] [] h Q := by
  have G : ∀ m j, j + m = 34 → mx_SX mY_X12_beginsAnew d 23 [(0, .ref 320), (1, .int (nI j))] [] (hrL h 355 (lowF j 0 (hpL h 355))) Q := by
    intro m
    induction m with
    | zero =>
      intro j hj
      have : j = 34 := by omega
      subst this
      refine b_X12_beginsAnew_23 320 _ ⟨fun _ => ⟨sr_k s, 354, sr_r71 s, sr_k354 s, by rw [hpZ_rL, sr_z354 s]; exact vp_in_nI (n := 82) (by omega) (by omega), ?_⟩, fun c => absurd (show nI 34 ≤ nI 34 from nI_le (Nat.le_refl _) (by omega)) c⟩
      rintro _ rfl
      exact K
    | succ m ih =>
      intro j hj
      refine b_X12_beginsAnew_23 320 _ ⟨fun c => absurd c (show ¬ nI 34 ≤ nI j from nI_ge (by omega) (by omega)), fun _ => ⟨sr_k s, 355, sr_r72 s, sr_k355 s, by rw [hpZ_rL, sr_z355 s]; exact vp_in_nI (by omega) (by omega), ?_⟩⟩
      rintro _ rfl
      rw [nI_1, nI_clamp (by omega), m_sL_rL, lowF_s]
      exact ih (j + 1) (by omega)
  have := G 34 0 rfl
  rw [lowF_0, hrL_id rfl] at this
  exact this
theorem bg_52 {Q : mxRes → mxH → Prop} (s : SR h) (K : mx_SX mY_X12_beginsAnew d 76 [(0, .ref 320), (1, .int (0 : Int32))] [] (bg4 h) Q) : mx_SX mY_X12_beginsAnew d 52 [(0, .ref 320), (1, .int (0 : Int32))] [] h Q := by
  have G : ∀ m j, j + m = 10 → mx_SX mY_X12_beginsAnew d 52 [(0, .ref 320), (1, .int (nI j))] [] (hrI h 354 (segF 36 j (-1) (hpI h 354))) Q := by
    intro m
    induction m with
    | zero =>
      intro j hj
      have : j = 10 := by omega
      subst this
      exact b_X12_beginsAnew_52 320 _ ⟨fun _ => K, fun c => absurd (show nI 10 ≤ nI 10 from nI_le (Nat.le_refl _) (by omega)) c⟩
    | succ m ih =>
      intro j hj
      refine b_X12_beginsAnew_52 320 _ ⟨fun c => absurd c (show ¬ nI 10 ≤ nI j from nI_ge (by omega) (by omega)), fun _ => ?_⟩
      rw [show (36 : Int32) + nI j = nI (36 + j) from nI_add 36 j]
      refine ⟨sr_k s, 354, sr_r71 s, sr_k354 s, by rw [hpZ_rI, sr_z354 s]; exact vp_in_nI (by omega) (by omega), ?_⟩
      rintro _ rfl
      rw [nI_1, nI_clamp (by omega), m_sI_rI, segF_s]
      exact ih (j + 1) (by omega)
  have := G 10 0 rfl
  rw [segF_0, hrI_id rfl] at this
  exact this
theorem bg_76 (hd : 1 ≤ d) {p : Nat} {Q : mxRes → mxH → Prop} (s : SR h) (h67 : hpI h 320 67 = nI p) (hp : p < 4000) (K : mx_SX mY_X12_beginsAnew d 105 [(0, .ref 320), (1, .int (nI p)), (2, .int (0 : Int32))] [] (hsI (hsI (hsI (bg5 h) 344 p 1) 345 p 0) 346 p 0) Q) : mx_SX mY_X12_beginsAnew d 76 [(0, .ref 320), (1, .int (0 : Int32))] [] h Q := by
  have G : ∀ m j, j + m = 4000 → mx_SX mY_X12_beginsAnew d 76 [(0, .ref 320), (1, .int (nI j))] [] (hrI h 344 (lowF j 0 (hpI h 344))) Q := by
    intro m
    induction m with
    | zero =>
      intro j hj
      have : j = 4000 := by omega
      subst this
      refine b_X12_beginsAnew_76 320 _ ⟨fun _ => ⟨hd, sr_k s, mx_xKI2 (k_X12_openedF (h := bg5 h) (p := p) s ?_ hp ?_) K⟩, fun c => absurd (show nI 4000 ≤ nI 4000 from nI_le (Nat.le_refl _) (by omega)) c⟩
      · show hpI (hrI h 344 _) 320 67 = _
        rw [hpI_rI, if_neg (by decide)]; exact h67
      · show hpI (hrI h 344 (lowF 4000 0 (hpI h 344))) 344 p = 0
        rw [hpI_rI, if_pos rfl]
        unfold lowF
        rw [if_pos hp]
    | succ m ih =>
      intro j hj
      refine b_X12_beginsAnew_76 320 _ ⟨fun c => absurd c (show ¬ nI 4000 ≤ nI j from nI_ge (by omega) (by omega)), fun _ => ⟨sr_k s, 344, sr_r58 s, sr_k344 s, by rw [hpZ_rI, sr_z344 s]; exact vp_in_nI (by omega) (by omega), ?_⟩⟩
      rintro _ rfl
      rw [nI_1, nI_clamp (by omega), m_sI_rI, lowF_s]
      exact ih (j + 1) (by omega)
  have := G 4000 0 rfl
  rw [lowF_0, hrI_id rfl] at this
  exact this
theorem bg_105 {p : Nat} {Q : mxRes → mxH → Prop} (s : SR h) (K : mx_SX mY_X12_beginsAnew d 128 [(0, .ref 320), (2, .int (0 : Int32))] [] (bg7 h p) Q) : mx_SX mY_X12_beginsAnew d 105 [(0, .ref 320), (1, .int (nI p)), (2, .int (0 : Int32))] [] h Q := by
  have G : ∀ m j, j + m = 3 → mx_SX mY_X12_beginsAnew d 105 [(0, .ref 320), (1, .int (nI p)), (2, .int (nI j))] [] (hrI h 354 (segF 36 j (nI p) (hpI h 354))) Q := by
    intro m
    induction m with
    | zero =>
      intro j hj
      have : j = 3 := by omega
      subst this
      exact b_X12_beginsAnew_105 320 _ _ ⟨fun _ => K, fun c => absurd (show nI 3 ≤ nI 3 from nI_le (Nat.le_refl _) (by omega)) c⟩
    | succ m ih =>
      intro j hj
      refine b_X12_beginsAnew_105 320 _ _ ⟨fun c => absurd c (show ¬ nI 3 ≤ nI j from nI_ge (by omega) (by omega)), fun _ => ?_⟩
      rw [show (36 : Int32) + nI j = nI (36 + j) from nI_add 36 j]
      refine ⟨sr_k s, 354, sr_r71 s, sr_k354 s, by rw [hpZ_rI, sr_z354 s]; exact vp_in_nI (by omega) (by omega), ?_⟩
      rintro _ rfl
      rw [nI_1, nI_clamp (by omega), m_sI_rI, segF_s]
      exact ih (j + 1) (by omega)
  have := G 3 0 rfl
  rw [segF_0, hrI_id rfl] at this
  exact this
theorem bg_128 : SR h → mx_SX mY_X12_beginsAnew d 128 [(0, .ref 320), (2, .int (0 : Int32))] [] h (mx_xct (.inl none) (hsI (bg8 h) 320 82 0)) := by
  intro s
  have G : ∀ m j, j + m = 184 → mx_SX mY_X12_beginsAnew d 128 [(0, .ref 320), (2, .int (nI j))] [] (hrI h 356 (lowF j 0 (hpI h 356))) (mx_xct (.inl none) (hsI (bg8 h) 320 82 0)) := by
    intro m
    induction m with
    | zero =>
      intro j hj
      have : j = 184 := by omega
      subst this
      refine b_X12_beginsAnew_128 320 _ ⟨fun _ => ⟨sr_k s, ?_⟩, fun c => absurd (show nI 184 ≤ nI 184 from nI_le (Nat.le_refl _) (by omega)) c⟩
      rintro _ rfl
      exact ⟨rfl, rfl⟩
    | succ m ih =>
      intro j hj
      refine b_X12_beginsAnew_128 320 _ ⟨fun c => absurd c (show ¬ nI 184 ≤ nI j from nI_ge (by omega) (by omega)), fun _ => ⟨sr_k s, 356, sr_r73 s, sr_k356 s, by rw [hpZ_rI, sr_z356 s]; exact vp_in_nI (by omega) (by omega), ?_⟩⟩
      rintro _ rfl
      rw [nI_1, nI_clamp (by omega), m_sI_rI, lowF_s]
      exact ih (j + 1) (by omega)
  have := G 184 0 rfl
  rw [lowF_0, hrI_id rfl] at this
  exact this
theorem SR.bg2 (s : SR h) : SR (bg2 h) := by
  show SRp (hpK h) (hpZ h) (hpR h 320) (hpL (hrL h 355 (lowF 34 0 (hpL h 355))) 320)
  rw [hpL_rL, if_neg (by decide)]
  exact s
theorem k_X12_beginsAnew (hd : 1 ≤ d) (s : SR h) {p : Nat} (h67 : hpI h 320 67 = nI p) (hp : p < 4000) : mx_SM mY_X12_beginsAnew d [.ref 320] h (mx_xct (.inl none) (bgH h p)) := by
  have s2 : SR (bg2 (bg1 h)) := SR.bg2 (h := bg1 h) s
  refine b_X12_beginsAnew 320 (bg_2 s (bg_23 (h := bg1 h) s (bg_52 (h := hsI (bg2 (bg1 h)) 354 82 1) s2 (bg_76 hd (h := bg4 (hsI (bg2 (bg1 h)) 354 82 1)) (p := p) s2 ?_ hp (bg_105 s2 (bg_128 s2))))))
  show hpI (hrI (hsI (bg2 (bg1 h)) 354 82 1) 354 _) 320 67 = nI p
  rw [hpI_rI, if_neg (by decide), hpI_sIn (by decide)]
  show hpI (bg1 h) 320 67 = nI p
  unfold bg1
  rw [hpI_rI, if_neg (by decide)]
  exact h67
end MXM4
