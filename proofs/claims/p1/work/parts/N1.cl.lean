/-! THE CLASS'S LONGER CALLS ON THE FRESH HEAP: append, formatHandles, type, run (p1) -/
section MXN1
variable {g h h' h1 h2 : mxH} {d n k a j : Nat} {x y w : Int32} {z : Int64}
/-- append -/
def AwI (g h : mxH) (n : Nat) : Prop := OkH g h ∧ hpI h 128 1 = nI n
theorem aw_3 {c : Int32} (hc : ¬ c < 0) {n : Nat} (hn : n < 700) (p : AwI g h n) {Q : mxRes → mxH → Prop} (K : ∀ h', AwI g h' (n + 1) → mx_SX mY_X11_addWord d 3 [(0, .ref 128), (1, .int w), (2, .int (c + (-8 : Int32)))] [] h' Q) : mx_SX mY_X11_addWord d 3 [(0, .ref 128), (1, .int w), (2, .int c)] [] h Q := by
  obtain ⟨o, e⟩ := p
  have s := o.sc
  refine b_X11_addWord_3 128 _ _ ⟨fun q => absurd q hc, fun _ => ⟨sc_k128 s, fun q => ?_, fun _ => ⟨fun q => ?_, fun _ => ⟨129, sc_r128_0 s, sc_k129 s, by rw [e, sc_z129 s]; exact vp_in_nI hn (by omega), ?_⟩⟩⟩⟩
  · rw [e] at q
    exact absurd q (nI_pos (by omega))
  · rw [e] at q
    exact absurd q (show ¬ nI 700 ≤ nI n from nI_ge hn (by omega))
  · rintro _ rfl _ rfl
    refine b_X11_addWord_47 128 _ _ (K _ ⟨(o.sI (by decide) (by decide)).sI (by decide) (by decide), ?_⟩)
    rw [hpI_sI, if_pos rfl, if_pos rfl, hpI_sIn (by decide), e, nI_1]
theorem k_addWord {n : Nat} (hn : n + 4 ≤ 700) (p : AwI g h n) : mx_SM mY_X11_addWord d [.ref 128, .int w] h (mx_KV (fun h' => AwI g h' (n + 4)) fun _ _ => False) := by
  refine b_X11_addWord 128 w (aw_3 (by decide) (by omega) p fun h1 p1 => aw_3 (by decide) (by omega) p1 fun h2 p2 => aw_3 (by decide) (by omega) p2 fun h3 p3 => aw_3 (by decide) (by omega) p3 fun h4 p4 => ?_)
  exact b_X11_addWord_3 128 _ _ ⟨fun _ => Or.inl ⟨rfl, p4⟩, fun c => absurd (by decide) c⟩
theorem q_append (hd : 1 ≤ d) {x1 x2 x3 x4 x5 : Int32} {X : String → mxH → Prop} : mx_SM mY_X11_append d [.ref 128, .int x1, .int x2, .int x3, .int x4, .int x5] (H0 g) (mx_KI (CA g 20) X) := by
  have e0 : hpI (H0 g) 128 1 = 0 := h0_I128.1
  refine b_X11_append 128 _ _ _ _ _ ⟨sc_k128 h0_SC, fun c => ?_, fun _ => ⟨fun _ => ⟨hd, mx_uV (k_addWord (n := 0) (by decide) ⟨OkH.rf, e0⟩) fun h1 p1 => ⟨sc_k128 p1.1.sc, mx_uV (k_addWord (n := 4) (by decide) p1) fun h2 p2 => ⟨sc_k128 p2.1.sc, mx_uV (k_addWord (n := 8) (by decide) p2) fun h3 p3 => ⟨sc_k128 p3.1.sc, mx_uV (k_addWord (n := 12) (by decide) p3) fun h4 p4 => ⟨sc_k128 p4.1.sc, mx_uV (k_addWord (n := 16) (by decide) p4) fun h5 p5 => ⟨sc_k128 p5.1.sc, Or.inl ⟨_, rfl, p5.2, p5.1⟩⟩⟩⟩⟩⟩⟩, fun c => ?_⟩⟩
  · rw [e0] at c; exact absurd c (by decide)
  · rw [e0] at c; exact absurd (by decide) c
/-- formatHandles -/
def FcI (g h : mxH) (n : Nat) : Prop := OkH g h ∧ hpR h = hpR (H0 g) ∧ hpN h = hpN (H0 g) ∧ hpK h = hpK (H0 g) ∧ hpI h 319 = hpI (H0 g) 319 ∧ hpI h 128 3 = nI n
theorem k_letterOf {v : Int32} (hv : v = 0 ∨ v = 1) : mx_SM mY_X11_letterOf d [.int v] h (mx_KI (fun _ h' => h' = h) fun _ _ => False) := by
  rcases hv with rfl | rfl
  · exact b_X11_letterOf 0 ⟨fun _ => b_X11_letterOf_44 (Or.inl ⟨_, rfl, rfl⟩), fun c => absurd c (by decide), fun c => absurd c (by decide), fun c => absurd c (by decide), fun c => absurd c (by decide)⟩
  · exact b_X11_letterOf 1 ⟨fun c => absurd c (by decide), fun _ => b_X11_letterOf_32 (Or.inl ⟨_, rfl, rfl⟩), fun c => absurd c (by decide), fun c => absurd c (by decide), fun c => absurd c (by decide)⟩
theorem fc_7 (hd : 2 ≤ d) {X : String → mxH → Prop} : ∀ m j h, j + m = 10 → FcI g h j → mx_SX mY_X11_formatHandles d 7 [(0, .ref 128), (1, .int (nI j))] [] h (mx_KI (CA g 10) X) := by
  intro m
  induction m with
  | zero =>
    intro j h hj p
    have : j = 10 := by omega
    subst this
    exact b_X11_formatHandles_7 128 _ ⟨fun _ => ⟨sc_k128 p.1.sc, Or.inl ⟨_, rfl, p.2.2.2.2.2, p.1⟩⟩, fun c => absurd (show nI 10 ≤ nI 10 from nI_le (Nat.le_refl _) (by omega)) c⟩
  | succ m ih =>
    intro j h hj p
    obtain ⟨o, p1, p2, p3, p4, p5⟩ := p
    have s := o.sc
    have at155 : hd_at h 154 135 155 := ⟨(sc_w s).sb.k8, (sc_w s).sb.r8_0, (sc_w s).sb.r8_1, sc_k135 s, (sc_w s).sb.k9, (sc_w s).sb.z9⟩
    have k319 : hpK h 319 = 5 := by rw [p3, h0_KJ]; exact rF_191.1
    have rowj : ∀ j, j < 10 → hpR h 155 j = if j < 3 then some 319 else none := fun j hj => by rw [p1]; exact h0_row hj
    have rw5 : hd_row h 155 := fun j hj b e => by
      rw [rowj j hj] at e
      by_cases cj : j < 3
      · rw [if_pos cj] at e; cases e; exact k319
      · rw [if_neg cj] at e; cases e
    have kv : hd_kind h 155 j = 0 ∨ hd_kind h 155 j = 1 := by
      unfold hd_kind
      rw [rowj j (by omega)]
      by_cases cj : j < 3
      · rw [if_pos cj]
        right
        show hpI h 319 0 = 1
        rw [p4, h0_IJ]; exact rF_191.2.1
      · rw [if_neg cj]
        exact Or.inl rfl
    refine b_X11_formatHandles_7 128 _ ⟨fun c => absurd c (show ¬ nI 10 ≤ nI j from nI_ge (by omega) (by omega)), fun _ => ⟨sc_k128 s, 130, sc_r128_2 s, 140, sc_r128_5 s, (sc_w s).k0, 146, (sc_w s).r8, (sc_w s).sb.k0, 154, (sc_w s).sb.r0_3, by omega, (sc_w s).sb.k8, mx_xKI2 (k_X2_kindOf (by omega) at155 (by omega) rw5 (fun b e => ?_)) (mx_uI (k_letterOf kv) fun v h2 w => ?_)⟩⟩
    · rw [rowj j (by omega)] at e
      by_cases cj : j < 3
      · rw [if_pos cj] at e; cases e; rw [p2, h0_N]; decide
      · rw [if_neg cj] at e; cases e
    · subst w
      refine ⟨sc_k130 s, by rw [sc_z130 s]; exact vp_in_nI (by omega) (by omega), ?_⟩
      rintro _ rfl
      refine ⟨sc_k128 s, ?_⟩
      rintro _ rfl
      rw [nI_1]
      refine ih (j + 1) _ (by omega) ⟨(o.sI (by decide) (by decide)).sI (by decide) (by decide), p1, p2, p3, ?_, ?_⟩
      · rw [show hpI (hsI (hsI h2 130 (nI j).toNatClampNeg (v.toInt8.toInt32).toInt8.toInt32) 128 3 (hpI (hsI h2 130 (nI j).toNatClampNeg (v.toInt8.toInt32).toInt8.toInt32) 128 3 + 1)) 319 = hpI h2 319 from rfl]
        exact p4
      · rw [hpI_sI, if_pos rfl, if_pos rfl, hpI_sIn (by decide), p5, nI_1]
theorem q_formatHandles (hd : 2 ≤ d) {X : String → mxH → Prop} : mx_SM mY_X11_formatHandles d [.ref 128] (H0 g) (mx_KI (CA g 10) X) := by
  refine b_X11_formatHandles 128 ⟨sc_k128 h0_SC, ?_⟩
  rintro _ rfl
  refine fc_7 hd 10 0 _ rfl ⟨OkH.rf.sI (by decide) (by decide), rfl, rfl, rfl, ?_, ?_⟩
  · show hpI (hrI (H0 g) 128 (fup (hpI (H0 g) 128) 3 0)) 319 = _
    rw [hpI_rI, if_neg (by decide)]
  rw [hpI_sI, if_pos rfl, if_pos rfl]; rfl
theorem hsI_id {h : mxH} {v : Int32} (e : hpI h a k = v) : hsI h a k v = h := by
  have : fup (hpI h a) k v = hpI h a := by
    funext j
    unfold fup
    by_cases c : j = k
    · rw [if_pos c, c, e]
    · rw [if_neg c]
  unfold hsI
  rw [this]
  exact hrI_id rfl
theorem srK_no : ∀ a, 320 ≤ a → a < 364 → srK a ≠ 5 ∧ srK a ≠ 18 := by
  have : ∀ i, i < 44 → srK (320 + i) ≠ 5 ∧ srK (320 + i) ≠ 18 := by decide +kernel
  intro a x1 x2
  have := this (a - 320) (by omega)
  rwa [show 320 + (a - 320) = a by omega] at this
/-- remember leaves what the reference has -/
theorem kp_ok (hg : ∀ a, a < 128 → hpK g a = 21) {n : Nat} {w : spW} {F : spF} {jl : List Int32} {OS : List Nat} (kp : KpF (H0 g) h1) (i : IDW D00 (H0 g) h1 n w F jl [146] [] [] OS) : OkH g h1 := by
  obtain ⟨k1, k2, k3, k4⟩ := kp
  obtain ⟨-, -, -, -, -, -, -, -, -, c1, c2, c3, c4, c5, c6, c7⟩ := i
  have N : hpN (H0 g) = 365 := h0_N
  have c3' : OS.length ≤ 82 := c3
  have c5' : hpN h1 + 13 = 365 + 13 * 1 + 2 * 0 + (OS.length - 1) := c5
  have K5 : ∀ a, 320 ≤ a → a < 364 → hpK (H0 g) a ≠ 5 ∧ hpK (H0 g) a ≠ 18 := fun a x1 x2 => by
    have sr := (h0_SR (g := g)).1 a x1 x2
    rw [sr]
    exact srK_no a x1 x2
  refine ⟨k1, fun a x1 x2 => ?_, ?_, ?_, ?_⟩
  · have q := k2 a (by omega) (K5 a x1 x2).1 (by omega) (by omega) (by omega)
    refine ⟨q.1 (by omega), q.2, ?_⟩
    funext k
    exact k4 a k (by omega) (K5 a x1 x2).1 (K5 a x1 x2).2 (Or.inl (by omega)) (by omega)
  · have K0 : hpK (H0 g) 0 = 21 := by rw [show hpK (H0 g) 0 = hpK g 0 from hpK_mkLo (by decide)]; exact hg 0 (by decide)
    rw [(k2 0 (by omega) (by rw [K0]; decide) (by decide) (by decide) (by decide)).1 (by decide)]
    exact hpI_mkLo (by decide)
  · have C : hpC (H0 g) = 237 := rfl
    omega
  · have S : hpS (H0 g) = 952454 := rfl
    omega
theorem q_type (hd : 8 ≤ d) (hg : ∀ a, a < 128 → hpK g a = 21) {X : String → mxH → Prop} : mx_SM mY_X11_type d [.ref 128] (H0 g) (mx_KI (CA g 0) X) := by
  have e0 : hpI (H0 g) 128 1 = 0 := h0_I128.1
  refine b_X11_type 128 ⟨sc_k128 h0_SC, ?_⟩
  rw [hsI_id e0, e0]
  rintro _ rfl
  refine ⟨140, sc_r128_5 h0_SC, (sc_w h0_SC).k0, by omega, mx_xKI2 (v := 0) (h' := H0 g) (b_X11_typedLines 128 _ (b_X11_typedLines_7 128 _ _ _ _ ⟨fun _ => b_X11_typedLines_47 _ _ _ ⟨fun _ => ⟨rfl, rfl⟩, fun c => absurd (by decide) c⟩, fun c => absurd (by decide) c⟩)) ?_⟩
  rw [h0_I128.2.2.2.1]
  refine ⟨fun _ => ⟨sc_k128 h0_SC, (k_X11_remember (d := d - 1) (by omega) (h0_IDW hg) (h0_BK hg) h0_PsW).mono fun r h1 w => ?_⟩, fun c => absurd (by decide) c⟩
  obtain ⟨w1, kp, pi', n', OS', ps, hn, i1⟩ := w
  have s1 := i1.1
  obtain ⟨t9, -, -, ⟨e5, -⟩, -⟩ := i1.2.1.1
  refine Or.inl ⟨w1, b_X11_type_46 128 _ _ _ ⟨fun _ => b_X11_type_101 128 _ _ ⟨fun _ => ⟨sc_k128 s1, 140, sc_r128_5 s1, (sc_w s1).k0, Or.inl ⟨_, rfl, e5, kp_ok hg kp i1⟩⟩, fun c => absurd (by decide) c⟩, fun c => absurd (by decide) c⟩⟩
end MXN1
