/-! THE REFERENCE'S LONGER CALLS BEHIND THE CLASS'S FIRST ONE: append, formatHandles, keeps, type, run (p1) -/
section MXM9
variable {g h h' h0 h1 h2 T : mxH} {d n k a j : Nat} {x y : Int32} {z : Int64}
/-- only rows of numbers were written, and not the words of object 320, not row 364 -/
def RWr (h h' : mxH) : Prop := hpN h' = hpN h ∧ hpC h' = hpC h ∧ hpS h' = hpS h ∧ hpK h' = hpK h ∧ hpZ h' = hpZ h ∧ hpR h' = hpR h ∧ hpL h' 320 = hpL h 320 ∧ hpL h' 364 = hpL h 364
theorem RWr.rf : RWr h h := ⟨rfl, rfl, rfl, rfl, rfl, rfl, rfl, rfl⟩
theorem RWr.sI {v : Int32} (r : RWr h h') : RWr h (hsI h' a k v) := r
theorem RWr.rI {f : Nat → Int32} (r : RWr h h') : RWr h (hrI h' a f) := r
theorem RWr.sL {v : Int64} (r : RWr h h') (n1 : 320 ≠ a) (n2 : 364 ≠ a) : RWr h (hsL h' a k v) := by
  obtain ⟨a1, a2, a3, a4, a5, a6, a7, a8⟩ := r
  exact ⟨a1, a2, a3, a4, a5, a6, by rw [hpL_sLr n1]; exact a7, by rw [hpL_sLr n2]; exact a8⟩
theorem RWr.rL {f : Nat → Int64} (r : RWr h h') (n1 : 320 ≠ a) (n2 : 364 ≠ a) : RWr h (hrL h' a f) := by
  obtain ⟨a1, a2, a3, a4, a5, a6, a7, a8⟩ := r
  exact ⟨a1, a2, a3, a4, a5, a6, by rw [hpL_rL, if_neg n1]; exact a7, by rw [hpL_rL, if_neg n2]; exact a8⟩
theorem RWr.sr (r : RWr h h') (s : SR h) : SR h' := by
  obtain ⟨a1, a2, a3, a4, a5, a6, a7, a8⟩ := r
  show SRp (hpK h') (hpZ h') (hpR h' 320) (hpL h' 320)
  rw [a4, a5, a6, a7]; exact s
theorem RWr.po (r : RWr h1 h2) (o : OkH g h1) {k : Nat} (e : hpI h2 320 0 = nI k) : RPo g h1 k h2 := by
  obtain ⟨a1, a2, a3, a4, a5, a6, a7, a8⟩ := r
  obtain ⟨o1, -⟩ := o
  refine ⟨⟨by rw [a1]; exact o1.1, fun b hb => ?_⟩, e, a2, a3, a8⟩
  rw [a4, a5, a6]
  exact o1.2 b hb
theorem m_e320 {v : Int32} : hpI (hsI h 320 k v) 320 = fup (hpI h 320) k v := by
  show hpI (hrI h 320 (fup (hpI h 320) k v)) 320 = _
  rw [hpI_rI, if_pos rfl]
/-- append -/
def ApI (h1 h : mxH) : Prop := RWr h1 h ∧ hpI h 320 3 = 0 ∧ hpI h 320 0 = 0
theorem ApI.sI {v : Int32} (p : ApI h1 h) (ha : 320 ≠ a) : ApI h1 (hsI h a k v) := by
  obtain ⟨p1, p2, p3⟩ := p
  exact ⟨p1.sI, by rw [hpI_sIn ha]; exact p2, by rw [hpI_sIn ha]; exact p3⟩
theorem ap_60 (o : OkH g h1) {X : String → mxH → Prop} : ∀ m j h, j + m = 20 → ApI h1 h → mx_SX mY_X12_append d 60 [(0, .ref 320), (6, .int (nI j))] [] h (mx_KI (RZ0 g h1 20) X) := by
  intro m
  induction m with
  | zero =>
    intro j h hj p
    have : j = 20 := by omega
    subst this
    obtain ⟨p1, p2, p3⟩ := p
    refine b_X12_append_60 320 _ ⟨fun _ => ⟨sr_k (p1.sr o.sr), ?_⟩, fun c => absurd (show nI 20 ≤ nI 20 from nI_le (Nat.le_refl _) (by omega)) c⟩
    rintro _ rfl
    rw [p2]
    refine Or.inl ⟨_, rfl, ?_, p1.sI.po o ?_⟩
    · rw [m_e320]; rfl
    · rw [m_e320]; exact p3
  | succ m ih =>
    intro j h hj p
    have s := p.1.sr o.sr
    have e4 : nI j / (4 : Int32) = nI (j / 4) := nI_div (b := 4) (by omega) (by omega)
    refine b_X12_append_60 320 _ ⟨fun c => absurd c (show ¬ nI 20 ≤ nI j from nI_ge (by omega) (by omega)), fun _ => ⟨sr_k s, 321, sr_r1 s, 322, sr_r2 s, sr_k322 s, ?_, sr_k321 s, ?_, ?_⟩⟩
    · rw [e4, sr_z322 s]; exact vp_in_nI (by omega) (by omega)
    · rw [p.2.1, show (0 : Int32) + nI j = nI (0 + j) from nI_add 0 j, sr_z321 s]; exact vp_in_nI (by omega) (by omega)
    · rintro _ rfl
      rw [nI_1]
      exact ih (j + 1) _ (by omega) (p.sI (by decide))
theorem rs_append (o : OkH g h1) {x1 x2 x3 x4 x5 : Int32} {X : String → mxH → Prop} : mx_SM mY_X12_append d [.ref 320, .int x1, .int x2, .int x3, .int x4, .int x5] h1 (mx_KI (RZ0 g h1 20) X) := by
  have s := o.sr
  refine b_X12_append 320 _ _ _ _ _ ⟨sr_k s, ?_⟩
  rintro _ rfl
  have e3 : hpI (hsI h1 320 0 0) 320 3 = 0 := by rw [o.tt.2.2.1 3 (by decide)]; exact rF_192.1
  have p0 : ApI h1 (hsI h1 320 0 0) := ⟨RWr.rf.sI, e3, o.tt.2.1.2.1⟩
  rw [e3]
  refine ⟨fun _ => ⟨322, sr_r2 s, sr_k322 s, ?_, ?_⟩, fun c => absurd (by decide) c⟩
  · show vp_in 0 (hpZ h1 322); rw [sr_z322 s]; exact vp_in_nI (n := 0) (by decide) (by decide)
  rintro _ rfl
  refine ⟨322, sr_r2 s, sr_k322 s, ?_, ?_⟩
  · show vp_in 1 (hpZ h1 322); rw [sr_z322 s]; exact vp_in_nI (n := 1) (by decide) (by decide)
  rintro _ rfl
  refine ⟨322, sr_r2 s, sr_k322 s, ?_, ?_⟩
  · show vp_in 2 (hpZ h1 322); rw [sr_z322 s]; exact vp_in_nI (n := 2) (by decide) (by decide)
  rintro _ rfl
  refine ⟨322, sr_r2 s, sr_k322 s, ?_, ?_⟩
  · show vp_in 3 (hpZ h1 322); rw [sr_z322 s]; exact vp_in_nI (n := 3) (by decide) (by decide)
  rintro _ rfl
  refine ⟨322, sr_r2 s, sr_k322 s, ?_, ?_⟩
  · show vp_in 4 (hpZ h1 322); rw [sr_z322 s]; exact vp_in_nI (n := 4) (by decide) (by decide)
  rintro _ rfl
  exact ap_60 o 20 0 _ rfl (((((p0.sI (by decide)).sI (by decide)).sI (by decide)).sI (by decide)).sI (by decide))
/-- the handles' cells -/
def HdI (h : mxH) : Prop := (∀ j, j < 83 → hpI h 354 j = if j = 82 then 1 else if 39 ≤ j ∧ j < 46 then -1 else 0) ∧ hpI h 344 0 = 1
theorem OkH.hd (o : OkH g h1) : HdI h1 := ⟨fun j hj => by rw [o.I (by decide) (by decide)]; exact rF_226 j hj, by rw [o.I (by decide) (by decide)]; exact rF_216⟩
theorem HdI.sI {v : Int32} (p : HdI h) (n1 : 354 ≠ a) (n2 : 344 ≠ a) : HdI (hsI h a k v) := by
  obtain ⟨p1, p2⟩ := p
  exact ⟨fun j hj => by rw [hpI_sIn n1]; exact p1 j hj, by rw [hpI_sIn n2]; exact p2⟩
theorem HdI.sL {v : Int64} (p : HdI h) : HdI (hsL h a k v) := p
theorem hd_handle (s : SR T) (p : HdI T) {i : Nat} (hi : i < 10) : mx_SM mY_X12_handle d [.ref 320, .int (nI 0), .int (nI i)] T (mx_xct (.inl (some (.int (if i < 3 then 0 else -1)))) T) := by
  have := k_X12_handle (d := d) (i := 0) (j := i) s (by decide) hi
  rw [show 83 * 0 + 36 + i = 36 + i by omega, p.1 (36 + i) (by omega), if_neg (by omega)] at this
  by_cases c : i < 3
  · rw [if_neg (by omega)] at this
    rw [if_pos c]; exact this
  · rw [if_pos (by omega)] at this
    rw [if_neg c]; exact this
theorem hd_kindOf (hd : 1 ≤ d) (s : SR T) (p : HdI T) {i : Nat} (hi : i < 10) : mx_SM mY_X12_kindOf d [.ref 320, .int (nI i)] T (mx_xct (.inl (some (.int (if i < 3 then 1 else 0)))) T) := by
  refine b_X12_kindOf 320 _ ⟨hd, sr_k s, mx_xKI2 (hd_handle s p hi) ⟨fun c => ?_, fun c => ?_⟩⟩
  · have c3 : i < 3 := by
      rcases Nat.lt_or_ge i 3 with q | q
      · exact q
      · exact absurd (by rw [if_neg (by omega)]) c
    refine ⟨sr_k s, 344, sr_r58 s, mx_xKI2 (hd_handle s p hi) ⟨sr_k344 s, ?_, ?_⟩⟩
    · rw [if_pos c3, sr_z344 s]; exact vp_in_nI (n := 0) (by decide) (by decide)
    · rw [if_pos c3, if_pos c3, show (0 : Int32).toNatClampNeg = 0 from rfl, p.2]
      exact ⟨rfl, rfl⟩
  · have c3 : ¬ i < 3 := fun q => by rw [if_pos q] at c; exact absurd c (by decide)
    rw [if_neg c3]
    exact ⟨rfl, rfl⟩
def FhI (h1 h : mxH) : Prop := RWr h1 h ∧ HdI h ∧ hpI h 320 0 = 0
theorem fh_13 (hd : 2 ≤ d) (o : OkH g h1) {X : String → mxH → Prop} : ∀ m j h, j + m = 10 → FhI h1 h → mx_SX mY_X12_formatHandles d 13 [(0, .ref 320), (1, .int (nI j))] [] h (mx_KI (RZ0 g h1 10) X) := by
  intro m
  induction m with
  | zero =>
    intro j h hj p
    have : j = 10 := by omega
    subst this
    exact b_X12_formatHandles_13 320 _ ⟨fun _ => Or.inl ⟨_, rfl, rfl, p.1.po o p.2.2⟩, fun c => absurd (show nI 10 ≤ nI 10 from nI_le (Nat.le_refl _) (by omega)) c⟩
  | succ m ih =>
    intro j h hj p
    obtain ⟨p1, p2, p3⟩ := p
    have s := p1.sr o.sr
    have K : ∀ w : Int32, mx_SX mY_X12_formatHandles d 13 [(0, .ref 320), (1, .int (nI j + 1))] [] (hsI h 363 (nI j).toNatClampNeg w) (mx_KI (RZ0 g h1 10) X) := fun w => by
      rw [nI_1]
      exact ih (j + 1) _ (by omega) ⟨p1.sI, p2.sI (by decide) (by decide), by rw [hpI_sIn (by decide)]; exact p3⟩
    have vi : vp_in (nI j) (hpZ h 363) := by rw [sr_z363 s]; exact vp_in_nI (by omega) (by omega)
    refine b_X12_formatHandles_13 320 _ ⟨fun c => absurd c (show ¬ nI 10 ≤ nI j from nI_ge (by omega) (by omega)), fun _ => ⟨by omega, sr_k s, mx_xKI2 (hd_kindOf (by omega) s p2 (by omega)) ⟨sr_k s, 363, sr_r83 s, fun c0 => ⟨fun c1 => ?_, fun _ => ⟨sr_k363 s, vi, ?_⟩⟩, fun _ => ⟨sr_k363 s, vi, ?_⟩⟩⟩⟩
    · by_cases c : j < 3
      · rw [if_pos c] at c1; exact absurd rfl c1
      · rw [if_neg c] at c0; exact absurd rfl c0
    · rintro _ rfl; exact K _
    · rintro _ rfl; exact K _
theorem rs_formatHandles (hd : 2 ≤ d) (o : OkH g h1) {X : String → mxH → Prop} : mx_SM mY_X12_formatHandles d [.ref 320] h1 (mx_KI (RZ0 g h1 10) X) := by
  refine b_X12_formatHandles 320 ⟨sr_k o.sr, ?_⟩
  rintro _ rfl _ rfl
  refine fh_13 hd o 10 0 _ rfl ⟨RWr.rf.sI.sI, (o.hd.sI (by decide) (by decide)).sI (by decide) (by decide), ?_⟩
  rw [m_e320, m_e320]; rfl
/-- keeps: the past's rows alone, and the depth -/
def PKe (h0 h : mxH) : Prop := RWr h0 h ∧ (∀ a, a ≠ 361 → hpI h a = hpI h0 a) ∧ ∀ a, a ≠ 362 → hpL h a = hpL h0 a
theorem PKe.rf : PKe h h := ⟨RWr.rf, fun _ _ => rfl, fun _ _ => rfl⟩
theorem PKe.sI {v : Int32} (p : PKe h0 h) : PKe h0 (hsI h 361 k v) := by
  obtain ⟨p1, p2, p3⟩ := p
  exact ⟨p1.sI, fun a ha => by rw [show hpI (hsI h 361 k v) a = hpI h a by show hpI (hrI h 361 _) a = _; rw [hpI_rI, if_neg ha]]; exact p2 a ha, p3⟩
theorem PKe.sL {v : Int64} (p : PKe h0 h) : PKe h0 (hsL h 362 k v) := by
  obtain ⟨p1, p2, p3⟩ := p
  exact ⟨p1.sL (by decide) (by decide), p2, fun a ha => by rw [hpL_sLr ha]; exact p3 a ha⟩
theorem PKe.hd (p : PKe h0 h) (q : HdI h0) : HdI h := ⟨fun j hj => by rw [p.2.1 354 (by decide)]; exact q.1 j hj, by rw [p.2.1 344 (by decide)]; exact q.2⟩
theorem kp_94 (s : SR h0) {Q : mxRes → mxH → Prop} (K : ∀ h, PKe h0 h → mx_SX mY_X12_keeps d 123 [(0, .ref 320), (1, .int (nI 0)), (2, .int (0 : Int32))] [] h Q) : ∀ m j h, j + m = 471 → PKe h0 h → mx_SX mY_X12_keeps d 94 [(0, .ref 320), (1, .int (nI 0)), (2, .int (nI j))] [] h Q := by
  intro m
  induction m with
  | zero =>
    intro j h hj p
    have : j = 471 := by omega
    subst this
    exact b_X12_keeps_94 320 _ _ ⟨fun _ => K h p, fun c => absurd (show nI 471 ≤ nI 471 from nI_le (Nat.le_refl _) (by omega)) c⟩
  | succ m ih =>
    intro j h hj p
    have s1 := p.1.sr s
    refine b_X12_keeps_94 320 _ _ ⟨fun c => absurd c (show ¬ nI 471 ≤ nI j from nI_ge (by omega) (by omega)), fun _ => ⟨sr_k s1, 361, sr_r80 s1, 342, sr_r56 s1, sr_k342 s1, by rw [sr_z342 s1]; exact vp_in_nI (by omega) (by omega), sr_k361 s1, by rw [nI_add, sr_z361 s1]; exact vp_in_nI (by omega) (by omega), ?_⟩⟩
    rintro _ rfl
    rw [nI_1]
    exact ih (j + 1) _ (by omega) p.sI
theorem kp_123 (s : SR h0) {Q : mxRes → mxH → Prop} (K : ∀ h, PKe h0 h → mx_SX mY_X12_keeps d 155 [(0, .ref 320), (1, .int (nI 0)), (2, .int (0 : Int32))] [] h Q) : ∀ m j h, j + m = 83 → PKe h0 h → mx_SX mY_X12_keeps d 123 [(0, .ref 320), (1, .int (nI 0)), (2, .int (nI j))] [] h Q := by
  intro m
  induction m with
  | zero =>
    intro j h hj p
    have : j = 83 := by omega
    subst this
    exact b_X12_keeps_123 320 _ _ ⟨fun _ => K h p, fun c => absurd (show nI 83 ≤ nI 83 from nI_le (Nat.le_refl _) (by omega)) c⟩
  | succ m ih =>
    intro j h hj p
    have s1 := p.1.sr s
    have e : (nI 0 + (471 : Int32)) + nI j = nI (0 + 471 + j) := by rw [show (471 : Int32) = nI 471 from rfl, nI_add, nI_add]
    refine b_X12_keeps_123 320 _ _ ⟨fun c => absurd c (show ¬ nI 83 ≤ nI j from nI_ge (by omega) (by omega)), fun _ => ⟨sr_k s1, 361, sr_r80 s1, 354, sr_r71 s1, sr_k354 s1, by rw [sr_z354 s1]; exact vp_in_nI (by omega) (by omega), sr_k361 s1, by rw [e, sr_z361 s1]; exact vp_in_nI (by omega) (by omega), ?_⟩⟩
    rintro _ rfl
    rw [nI_1]
    exact ih (j + 1) _ (by omega) p.sI
theorem kp_155 (s : SR h0) {Q : mxRes → mxH → Prop} (K : ∀ h, PKe h0 h → mx_SX mY_X12_keeps d 191 [(0, .ref 320), (1, .int (nI 0)), (2, .int (0 : Int32))] [] h Q) : ∀ m j h, j + m = 184 → PKe h0 h → mx_SX mY_X12_keeps d 155 [(0, .ref 320), (1, .int (nI 0)), (2, .int (nI j))] [] h Q := by
  intro m
  induction m with
  | zero =>
    intro j h hj p
    have : j = 184 := by omega
    subst this
    exact b_X12_keeps_155 320 _ _ ⟨fun _ => K h p, fun c => absurd (show nI 184 ≤ nI 184 from nI_le (Nat.le_refl _) (by omega)) c⟩
  | succ m ih =>
    intro j h hj p
    have s1 := p.1.sr s
    have e : ((nI 0 + (471 : Int32)) + (83 : Int32)) + nI j = nI (0 + 471 + 83 + j) := by rw [show (471 : Int32) = nI 471 from rfl, show (83 : Int32) = nI 83 from rfl, nI_add, nI_add, nI_add]
    refine b_X12_keeps_155 320 _ _ ⟨fun c => absurd c (show ¬ nI 184 ≤ nI j from nI_ge (by omega) (by omega)), fun _ => ⟨sr_k s1, 361, sr_r80 s1, 356, sr_r73 s1, sr_k356 s1, by rw [sr_z356 s1]; exact vp_in_nI (by omega) (by omega), sr_k361 s1, by rw [e, sr_z361 s1]; exact vp_in_nI (by omega) (by omega), ?_⟩⟩
    rintro _ rfl
    rw [nI_1]
    exact ih (j + 1) _ (by omega) p.sI
/-- one handle is kept: the least one that shares its open file, and what that is -/
theorem kh_15 (hd : 1 ≤ d) (s : SR h0) (q : HdI h0) {p i : Nat} (hp : p + 3 < 4668) (hi : i < 10) : ∀ (m : Nat) (x4 x5 : Int32), (x5 < 0 ∧ m = 0 ∨ ∃ t, x5 = nI t ∧ t < 10 ∧ m = t + 1) → mx_SX mY_X12_keepsHandle d 15 [(0, .ref 320), (1, .int (nI p)), (3, .int (if i < 3 then 0 else -1)), (4, .int x4), (5, .int x5)] [] h0 (mx_KV (PKe h0) fun _ _ => False) := by
  intro m
  induction m with
  | zero =>
    intro x4 x5 hx
    have c5 : x5 < 0 := by
      rcases hx with ⟨c, -⟩ | ⟨t, -, -, c⟩
      · exact c
      · exact absurd c (by omega)
    refine b_X12_keepsHandle_15 320 _ _ _ _ ⟨fun _ => ⟨sr_k s, 361, sr_r80 s, sr_k361 s, by rw [sr_z361 s]; exact vp_in_nI (by omega) (by omega), ?_⟩, fun c => absurd c5 c⟩
    rintro _ rfl
    have e1 : nI p + (1 : Int32) = nI (p + 1) := nI_1 p
    have e2 : nI p + (2 : Int32) = nI (p + 2) := nI_add p 2
    have e3 : nI p + (3 : Int32) = nI (p + 3) := nI_add p 3
    have V : ∀ t, t < 4668 → vp_in (nI t) (hpZ h0 361) := fun t ht => by rw [sr_z361 s]; exact vp_in_nI ht (by omega)
    by_cases c : i < 3
    · rw [if_pos c]
      have V0 : vp_in (0 : Int32) (hpZ h0 344) := by rw [sr_z344 s]; exact vp_in_nI (n := 0) (by decide) (by decide)
      have V5 : vp_in (0 : Int32) (hpZ h0 345) := by rw [sr_z345 s]; exact vp_in_nI (n := 0) (by decide) (by decide)
      have V6 : vp_in (0 : Int32) (hpZ h0 346) := by rw [sr_z346 s]; exact vp_in_nI (n := 0) (by decide) (by decide)
      refine ⟨361, sr_r80 s, fun _ => ⟨344, sr_r58 s, sr_k344 s, V0, sr_k361 s, by rw [e1]; exact V _ (by omega), ?_⟩, fun c => absurd c (by decide)⟩
      rintro _ rfl
      refine ⟨361, sr_r80 s, fun _ => ⟨345, sr_r59 s, sr_k345 s, V5, sr_k361 s, by rw [e2]; exact V _ (by omega), ?_⟩, fun c => absurd c (by decide)⟩
      rintro _ rfl
      refine ⟨361, sr_r80 s, fun _ => ⟨346, sr_r60 s, sr_k346 s, V6, sr_k361 s, by rw [e3]; exact V _ (by omega), ?_⟩, fun c => absurd c (by decide)⟩
      rintro _ rfl
      exact Or.inl ⟨rfl, PKe.rf.sI.sI.sI.sI⟩
    · rw [if_neg c]
      refine ⟨361, sr_r80 s, fun c => absurd rfl c, fun _ => ⟨sr_k361 s, by rw [e1]; exact V _ (by omega), ?_⟩⟩
      rintro _ rfl
      refine ⟨361, sr_r80 s, fun c => absurd rfl c, fun _ => ⟨sr_k361 s, by rw [e2]; exact V _ (by omega), ?_⟩⟩
      rintro _ rfl
      refine ⟨361, sr_r80 s, fun c => absurd rfl c, fun _ => ⟨sr_k361 s, by rw [e3]; exact V _ (by omega), ?_⟩⟩
      rintro _ rfl
      exact Or.inl ⟨rfl, PKe.rf.sI.sI.sI.sI⟩
  | succ m ih =>
    intro x4 x5 hx
    obtain ⟨t, rfl, ht, hm⟩ : ∃ t, x5 = nI t ∧ t < 10 ∧ m + 1 = t + 1 := by
      rcases hx with ⟨-, c⟩ | c
      · exact absurd c (by omega)
      · exact c
    have N : ∀ x4 : Int32, mx_SX mY_X12_keepsHandle d 40 [(0, .ref 320), (1, .int (nI p)), (3, .int (if i < 3 then 0 else -1)), (4, .int x4), (5, .int (nI t))] [] h0 (mx_KV (PKe h0) fun _ _ => False) := fun x4 => by
      refine b_X12_keepsHandle_40 320 _ _ _ _ (ih x4 _ ?_)
      rcases Nat.eq_zero_or_pos t with e | e
      · subst e
        exact Or.inl ⟨by decide, by omega⟩
      · refine Or.inr ⟨t - 1, ?_, by omega, by omega⟩
        obtain ⟨u, rfl⟩ : ∃ u, t = u + 1 := ⟨t - 1, by omega⟩
        exact nI_m1 u
    refine b_X12_keepsHandle_15 320 _ _ _ _ ⟨fun c => absurd c (nI_pos (by omega)), fun _ => ⟨fun _ => N x4, fun _ => ⟨hd, sr_k s, mx_xKI2 (hd_handle s q ht) ⟨fun _ => N x4, fun _ => N _⟩⟩⟩⟩
theorem k_kh (hd : 2 ≤ d) (s : SR h0) (q : HdI h0) {p i : Nat} (hp : p + 3 < 4668) (hi : i < 10) : mx_SM mY_X12_keepsHandle d [.ref 320, .int (nI p), .int (nI i)] h0 (mx_KV (PKe h0) fun _ _ => False) := by
  refine b_X12_keepsHandle 320 _ _ ⟨by omega, sr_k s, mx_xKI2 (hd_handle s q hi) (kh_15 (by omega) s q hp hi i _ _ ?_)⟩
  rcases Nat.eq_zero_or_pos i with e | e
  · subst e
    exact Or.inl ⟨by decide, rfl⟩
  · refine Or.inr ⟨i - 1, ?_, by omega, by omega⟩
    obtain ⟨u, rfl⟩ : ∃ u, i = u + 1 := ⟨i - 1, by omega⟩
    exact nI_pred u
theorem PKe.tr {h2 : mxH} (p : PKe h0 h) (q : PKe h h2) : PKe h0 h2 := by
  obtain ⟨⟨a1, a2, a3, a4, a5, a6, a7, a8⟩, p2, p3⟩ := p
  obtain ⟨⟨b1, b2, b3, b4, b5, b6, b7, b8⟩, q2, q3⟩ := q
  exact ⟨⟨b1.trans a1, b2.trans a2, b3.trans a3, b4.trans a4, b5.trans a5, b6.trans a6, b7.trans a7, b8.trans a8⟩, fun a ha => (q2 a ha).trans (p2 a ha), fun a ha => (q3 a ha).trans (p3 a ha)⟩
theorem kp_191 (hd : 3 ≤ d) (s : SR h0) (q : HdI h0) {Q : mxRes → mxH → Prop} (K : ∀ h, PKe h0 h → mx_SX mY_X12_keeps d 219 [(0, .ref 320), (2, .int (0 : Int32))] [] h Q) : ∀ m j h, j + m = 10 → PKe h0 h → mx_SX mY_X12_keeps d 191 [(0, .ref 320), (1, .int (nI 0)), (2, .int (nI j))] [] h Q := by
  intro m
  induction m with
  | zero =>
    intro j h hj p
    have : j = 10 := by omega
    subst this
    exact b_X12_keeps_191 320 _ _ ⟨fun _ => K h p, fun c => absurd (show nI 10 ≤ nI 10 from nI_le (Nat.le_refl _) (by omega)) c⟩
  | succ m ih =>
    intro j h hj p
    have s1 := p.1.sr s
    refine b_X12_keeps_191 320 _ _ ⟨fun c => absurd c (show ¬ nI 10 ≤ nI j from nI_ge (by omega) (by omega)), fun _ => ⟨by omega, sr_k s1, ?_⟩⟩
    have e : (nI 0 + (738 : Int32)) + ((4 : Int32) * nI j) = nI (0 + 738 + 4 * j) := by
      rw [show (738 : Int32) = nI 738 from rfl, show (4 : Int32) = nI 4 from rfl, nI_add, pk_mul, nI_add]
    rw [e]
    refine (k_kh (d := d - 1) (by omega) s1 (p.hd q) (p := 0 + 738 + 4 * j) (i := j) (by omega) (by omega)).mono fun r h2 w => ?_
    rcases w with ⟨w1, w2⟩ | ⟨E, -, w⟩
    · refine Or.inl ⟨w1, ?_⟩
      rw [nI_1]
      exact ih (j + 1) _ (by omega) (p.tr w2)
    · exact w.elim
theorem kp_219 (s : SR h0) (e82 : hpI h0 320 82 = 0) {Q : mxRes → mxH → Prop} (K : ∀ h, PKe h0 h → mx_SX mY_X12_keeps d 253 [(0, .ref 320), (2, .int (0 : Int32))] [] h Q) : ∀ m j h, j + m = 8 → PKe h0 h → mx_SX mY_X12_keeps d 219 [(0, .ref 320), (2, .int (nI j))] [] h Q := by
  intro m
  induction m with
  | zero =>
    intro j h hj p
    have : j = 8 := by omega
    subst this
    exact b_X12_keeps_219 320 _ ⟨fun _ => K h p, fun c => absurd (show nI 8 ≤ nI 8 from nI_le (Nat.le_refl _) (by omega)) c⟩
  | succ m ih =>
    intro j h hj p
    have s1 := p.1.sr s
    have e : ((42 : Int32) * hpI h 320 82) + nI j = nI (0 + j) := by
      rw [p.2.1 320 (by decide), e82, show (42 : Int32) * 0 = nI 0 from rfl, nI_add]
    refine b_X12_keeps_219 320 _ ⟨fun c => absurd c (show ¬ nI 8 ≤ nI j from nI_ge (by omega) (by omega)), fun _ => ⟨sr_k s1, 362, sr_r81 s1, 343, sr_r57 s1, sr_k343 s1, by rw [sr_z343 s1]; exact vp_in_nI (by omega) (by omega), sr_k362 s1, by rw [e, sr_z362 s1]; exact vp_in_nI (by omega) (by omega), ?_⟩⟩
    rintro _ rfl
    rw [nI_1]
    exact ih (j + 1) _ (by omega) p.sL
theorem kp_253 (s : SR h0) (e82 : hpI h0 320 82 = 0) : ∀ m j h, j + m = 34 → PKe h0 h → mx_SX mY_X12_keeps d 253 [(0, .ref 320), (2, .int (nI j))] [] h (mx_KV (fun h' => ∃ h, PKe h0 h ∧ h' = hsI h 320 82 1) fun _ _ => False) := by
  intro m
  induction m with
  | zero =>
    intro j h hj p
    have : j = 34 := by omega
    subst this
    refine b_X12_keeps_253 320 _ ⟨fun _ => ⟨sr_k (p.1.sr s), ?_⟩, fun c => absurd (show nI 34 ≤ nI 34 from nI_le (Nat.le_refl _) (by omega)) c⟩
    rintro _ rfl
    rw [p.2.1 320 (by decide), e82]
    exact Or.inl ⟨rfl, h, p, rfl⟩
  | succ m ih =>
    intro j h hj p
    have s1 := p.1.sr s
    have e : (((42 : Int32) * hpI h 320 82) + (8 : Int32)) + nI j = nI (0 + 8 + j) := by
      rw [p.2.1 320 (by decide), e82, show (42 : Int32) * 0 = nI 0 from rfl, show (8 : Int32) = nI 8 from rfl, nI_add, nI_add]
    refine b_X12_keeps_253 320 _ ⟨fun c => absurd c (show ¬ nI 34 ≤ nI j from nI_ge (by omega) (by omega)), fun _ => ⟨sr_k s1, 362, sr_r81 s1, 355, sr_r72 s1, sr_k355 s1, by rw [sr_z355 s1]; exact vp_in_nI (by omega) (by omega), sr_k362 s1, by rw [e, sr_z362 s1]; exact vp_in_nI (by omega) (by omega), ?_⟩⟩
    rintro _ rfl
    rw [nI_1]
    exact ih (j + 1) _ (by omega) p.sL
theorem k_keeps (hd : 3 ≤ d) (s : SR h0) (q : HdI h0) (e82 : hpI h0 320 82 = 0) : mx_SM mY_X12_keeps d [.ref 320] h0 (mx_KV (fun h' => ∃ h, PKe h0 h ∧ h' = hsI h 320 82 1) fun _ _ => False) := by
  refine b_X12_keeps 320 ⟨sr_k s, fun _ => b_X12_keeps_83 320 ⟨sr_k s, ?_⟩, fun c => ?_⟩
  · rw [e82, show (778 : Int32) * 0 = nI 0 from rfl]
    exact kp_94 s (fun h p => kp_123 s (fun h p => kp_155 s (fun h p => kp_191 hd s q (fun h p => kp_219 s e82 (fun h p => kp_253 s e82 34 0 h rfl p) 8 0 h rfl p) 10 0 h rfl p) 184 0 h rfl p) 83 0 h rfl p) 471 0 h0 rfl PKe.rf
  · rw [e82] at c
    exact absurd c (by decide)
theorem rs_type (hd : 4 ≤ d) (o : OkH g h1) {X : String → mxH → Prop} : mx_SM mY_X12_type d [.ref 320] h1 (mx_KI (RZ0 g h1 0) X) := by
  refine b_X12_type 320 ⟨sr_k o.sr, ?_⟩
  rintro _ rfl _ rfl
  have t := o.tt
  have e3 : hpI (hsI h1 320 0 0) 320 3 = 0 := by rw [t.2.2.1 3 (by decide)]; exact rF_192.1
  rw [e3]
  have s := t.1
  have s2 : SR (hsI (hsI h1 320 0 0) 320 3 0) := s
  have w0 : hpI (hsI (hsI h1 320 0 0) 320 3 0) 342 329 = 0 := by rw [hpI_sIn (by decide)]; exact t.W.2.1
  have z329 : vp_in (329 : Int32) (hpZ (hsI (hsI h1 320 0 0) 320 3 0) 342) := by rw [sr_z342 s2]; exact vp_in_nI (n := 329) (by decide) (by decide)
  have e82 : hpI (hsI (hsI h1 320 0 0) 320 3 0) 320 82 = 0 := by
    rw [m_e320, m_e320]
    show hpI h1 320 82 = 0
    rw [o.I (by decide) (by decide)]; exact rF_192.2.2.2.2.2.1
  have e0 : hpI (hsI (hsI h1 320 0 0) 320 3 0) 320 0 = 0 := by rw [m_e320, m_e320]; rfl
  refine b_X12_type_19 320 _ _ _ ⟨fun _ => ⟨sr_k s2, 342, sr_r56 s2, sr_k342 s2, z329, fun _ => ⟨by omega, mx_xKI2 r_thr0 ⟨fun _ => ⟨sr_k s2, ?_⟩, fun c => absurd rfl c⟩⟩, fun c => ?_⟩, fun c => absurd (by decide) c⟩
  · refine (k_keeps (d := d - 1) (by omega) s2 ((o.hd.sI (by decide) (by decide)).sI (by decide) (by decide)) e82).mono fun r h3 w => ?_
    rcases w with ⟨w1, h4, w2, rfl⟩ | ⟨E, -, w⟩
    · refine Or.inl ⟨w1, ?_⟩
      have s4 : SR (hsI h4 320 82 1) := w2.1.sr s2
      refine b_X12_type_95 320 _ _ _ ⟨fun _ => ⟨sr_k s4, 342, sr_r56 s4, sr_k342 s4, by rw [sr_z342 s4]; exact vp_in_nI (n := 329) (by decide) (by decide), Or.inl ⟨_, rfl, ?_, ?_⟩⟩, fun c => absurd (by decide) c⟩
      · rw [hpI_sIn (by decide), w2.2.1 342 (by decide)]; exact w0
      · refine RWr.po (h1 := h1) (h2 := hsI h4 320 82 1) ?_ o ?_
        · exact (w2.1 : RWr h1 h4)
        · rw [m_e320]
          show hpI h4 320 0 = 0
          rw [w2.2.1 320 (by decide)]; exact e0
    · exact w.elim
  · rw [show (329 : Int32).toNatClampNeg = 329 from rfl, w0] at c
    exact absurd (by decide) c
end MXM9
