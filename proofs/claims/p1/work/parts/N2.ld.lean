/-! LOAD OF AN EMPTY TEXT, class and reference (p1) -/
section MXN2
variable {g h h' h1 h2 : mxH} {d n k a j : Nat} {x y : Int32}
/-- THE REFERENCE -/
theorem n_byteAt (s : SR h) {x : Int32} (e : hpI h 320 4 ≤ x) : mx_SM mY_X12_byteAt d [.ref 320, .int x] h (mx_xct (.inl (some (.int 0))) h) :=
  b_X12_byteAt 320 x ⟨sr_k s, fun _ => ⟨rfl, rfl⟩, fun c => absurd e c⟩
/-- what the empty text's reading keeps; F: the fields of 320 -/
def LdI (h1 h : mxH) (F : Nat → Int32) : Prop := RWr h1 h ∧ hpI h 320 = F
theorem LdI.s {v : Int32} {F : Nat → Int32} (p : LdI h1 h F) : LdI h1 (hsI h 320 k v) (fup F k v) := ⟨p.1.sI, by rw [m_e320, p.2]⟩
theorem LdI.o {v : Int32} {F : Nat → Int32} (p : LdI h1 h F) (ha : 320 ≠ a) : LdI h1 (hsI h a k v) F := ⟨p.1.sI, by rw [show hpI (hsI h a k v) 320 = hpI h 320 by show hpI (hrI h a _) 320 = _; rw [hpI_rI, if_neg ha]]; exact p.2⟩
theorem LdI.oL {v : Int64} {F : Nat → Int32} (p : LdI h1 h F) (n1 : 320 ≠ a) (n2 : 364 ≠ a) : LdI h1 (hsL h a k v) F := ⟨p.1.sL n1 n2, p.2⟩
def ldF0 : Nat → Int32 := fup (fup (fup (fup (fup (fup (fup (rF 192).2.2.1 0 0) 4 0) 3 0) 5 0) 49 0) 9 (-1)) 10 0
def ldF1 : Nat → Int32 := fup (fup (fup (fup ldF0 6 0) 8 1) 7 0) 8 0
def ldF2 : Nat → Int32 := fup ldF1 49 1
def ldF3 : Nat → Int32 := fup ldF2 51 0
def ldF4 : Nat → Int32 := fup (fup ldF3 11 (-1)) 12 0
theorem ldF_v : ldF0 4 = 0 ∧ ldF0 5 = 0 ∧ (fup (fup ldF0 6 0) 8 1) 4 = 0 ∧ (fup (fup ldF0 6 0) 8 1) 5 = 0 ∧ ldF1 49 = 0 ∧ ldF2 6 = 0 ∧ ldF2 9 = -1 ∧ ldF2 7 = 0 ∧ ldF3 7 = 0 ∧ ldF3 51 = 0 ∧ ldF3 9 = -1 ∧ ldF3 10 = 0 ∧ (fup ldF3 11 (-1)) 10 = 0 ∧ ldF4 9 = -1 ∧ ldF4 49 = 1 ∧ (fup ldF4 50 0) 67 = 0 ∧ (fup (fup ldF4 50 0) 82 0) 0 = 0 := by decide +kernel
theorem n_looks (hd : 1 ≤ d) (o : OkH g h1) (p : LdI h1 h ldF0) : mx_SM mY_X12_looks d [.ref 320] h (mx_KV (fun h' => LdI h1 h' ldF1) fun _ _ => False) := by
  have s := p.1.sr o.sr
  refine b_X12_looks 320 ⟨sr_k s, fun _ => b_X12_looks_66 320 ⟨sr_k s, ?_⟩, fun c => ?_⟩
  · rintro _ rfl _ rfl
    rw [p.2, ldF_v.2.1]
    have p2 := (p.s (k := 6) (v := 0)).s (k := 8) (v := 1)
    have s2 := p2.1.sr o.sr
    have e4 : hpI (hsI (hsI h 320 6 0) 320 8 1) 320 4 = 0 := by rw [p2.2]; exact ldF_v.2.2.1
    have e5 : hpI (hsI (hsI h 320 6 0) 320 8 1) 320 5 = 0 := by rw [p2.2]; exact ldF_v.2.2.2.1
    refine ⟨hd, mx_xKI2 (n_byteAt s2 (by rw [e4, e5]; decide)) ⟨sr_k s2, mx_xKI2 (n_byteAt s2 (by rw [e4, e5]; decide)) ⟨sr_k s2, fun c => ?_, fun _ => ?_⟩⟩⟩
    · rw [e4, e5] at c; exact absurd c (by decide)
    · rintro _ rfl _ rfl
      exact Or.inl ⟨rfl, (p2.s (k := 7) (v := 0)).s (k := 8) (v := 0)⟩
  · rw [p.2, ldF_v.1, ldF_v.2.1] at c
    exact absurd (by decide) c
theorem n_node (o : OkH g h1) (p : LdI h1 h ldF1) : mx_SM mY_X12_node d [.ref 320, .int (1 : Int32)] h (mx_KI (fun v h' => v = 0 ∧ LdI h1 h' ldF2) fun _ _ => False) := by
  have s := p.1.sr o.sr
  have e49 : hpI h 320 49 = 0 := by rw [p.2]; exact ldF_v.2.2.2.2.1
  have V : vp_in (0 : Int32) 3000 := vp_in_nI (n := 0) (by decide) (by decide)
  refine b_X12_node 320 _ ⟨sr_k s, ?_⟩
  rw [e49]
  intro k0 e0
  have p0 : LdI h1 k0 ldF2 := by rw [e0]; exact p.s (k := 49) (v := 1)
  have s0 := p0.1.sr o.sr
  clear e0
  refine ⟨331, sr_r41 s0, sr_k331 s0, by rw [sr_z331 s0]; exact V, ?_⟩
  intro k1 e1
  have p1 : LdI h1 k1 ldF2 := by rw [e1]; exact p0.o (by decide)
  have s1 := p1.1.sr o.sr
  clear e1
  refine ⟨332, sr_r42 s1, sr_k332 s1, by rw [sr_z332 s1]; exact V, ?_⟩
  intro k2 e2
  have p2 : LdI h1 k2 ldF2 := by rw [e2]; exact p1.o (by decide)
  have s2 := p2.1.sr o.sr
  clear e2
  refine ⟨333, sr_r43 s2, sr_k333 s2, by rw [sr_z333 s2]; exact V, ?_⟩
  intro k3 e3
  have p3 : LdI h1 k3 ldF2 := by rw [e3]; exact p2.o (by decide)
  have s3 := p3.1.sr o.sr
  clear e3
  refine ⟨334, sr_r44 s3, sr_k334 s3, by rw [sr_z334 s3]; exact V, ?_⟩
  intro k4 e4
  have p4 : LdI h1 k4 ldF2 := by rw [e4]; exact p3.o (by decide)
  have s4 := p4.1.sr o.sr
  clear e4
  refine ⟨335, sr_r45 s4, sr_k335 s4, by rw [sr_z335 s4]; exact V, ?_⟩
  intro k5 e5
  have p5 : LdI h1 k5 ldF2 := by rw [e5]; exact p4.o (by decide)
  have s5 := p5.1.sr o.sr
  clear e5
  refine ⟨336, sr_r46 s5, sr_k336 s5, by rw [sr_z336 s5]; exact V, ?_⟩
  intro k6 e6
  have p6 : LdI h1 k6 ldF2 := by rw [e6]; exact p5.o (by decide)
  have s6 := p6.1.sr o.sr
  clear e6
  refine ⟨337, sr_r47 s6, sr_k337 s6, by rw [sr_z337 s6]; exact V, ?_⟩
  intro k7 e7
  have p7 : LdI h1 k7 ldF2 := by rw [e7]; exact p6.o (by decide)
  have s7 := p7.1.sr o.sr
  clear e7
  refine ⟨338, sr_r48 s7, sr_k338 s7, by rw [sr_z338 s7]; exact V, ?_⟩
  intro k8 e8
  have p8 : LdI h1 k8 ldF2 := by rw [e8]; exact p7.oL (by decide) (by decide)
  have s8 := p8.1.sr o.sr
  clear e8
  exact Or.inl ⟨_, rfl, rfl, p8⟩
theorem n_hasFailed (s : SR h) (e : hpI h 320 9 = -1) : mx_SM mY_X12_hasFailed d [.ref 320] h (mx_xct (.inl (some (.int 0))) h) :=
  b_X12_hasFailed 320 ⟨sr_k s, fun _ => ⟨rfl, rfl⟩, fun c => absurd e c⟩
theorem n_readScript (hd : 2 ≤ d) (o : OkH g h1) (p : LdI h1 h ldF1) : mx_SM mY_X12_readScript d [.ref 320, .int (0 : Int32)] h (mx_KI (fun v h' => v = 0 ∧ LdI h1 h' ldF3) fun _ _ => False) := by
  have s := p.1.sr o.sr
  refine b_X12_readScript 320 _ ⟨by omega, sr_k s, (n_node o p).mono fun r h2 w => ?_⟩
  rcases w with ⟨v, w1, rfl, p2⟩ | ⟨E, -, w⟩
  · have s2 := p2.1.sr o.sr
    have e9 : hpI h2 320 9 = -1 := by rw [p2.2]; exact ldF_v.2.2.2.2.2.2.1
    have e7 : hpI h2 320 7 = 0 := by rw [p2.2]; exact ldF_v.2.2.2.2.2.2.2.1
    refine Or.inl ⟨_, w1, b_X12_readScript_11 320 _ _ _ _ ⟨by omega, sr_k s2, mx_xKI2 (v := 0) (h' := h2) (b_X12_startsChain 320 ⟨by omega, sr_k s2, mx_xKI2 (n_hasFailed s2 e9) ⟨fun _ => ⟨sr_k s2, ?_⟩, fun c => absurd rfl c⟩⟩) ⟨fun _ => ⟨sr_k s2, ?_⟩, fun c => absurd rfl c⟩⟩⟩
    · rw [e7]
      exact ⟨fun c => absurd c (by decide), fun _ => ⟨fun c => absurd c (by decide), fun _ => ⟨fun _ => ⟨fun _ => ⟨rfl, rfl⟩, fun c => absurd c (by decide)⟩, fun c => absurd c (by decide)⟩⟩⟩
    · rintro _ rfl
      exact Or.inl ⟨_, rfl, rfl, p2.s⟩
  · exact w.elim
theorem m_n320 {v : Int32} (ha : 320 ≠ a) : hpI (hsI h a k v) 320 = hpI h 320 := by
  show hpI (hrI h a (fup (hpI h a) k v)) 320 = _
  rw [hpI_rI, if_neg ha]
theorem bg_320 {p : Nat} : hpI (bgH h p) 320 = fup (hpI h 320) 82 0 := by
  unfold bgH
  rw [m_e320]
  unfold bg8
  rw [hpI_rI, if_neg (by decide)]
  unfold bg7
  rw [hpI_rI, if_neg (by decide), m_n320 (by decide), m_n320 (by decide), m_n320 (by decide)]
  unfold bg5
  rw [hpI_rI, if_neg (by decide)]
  unfold bg4
  rw [hpI_rI, if_neg (by decide), m_n320 (by decide)]
  unfold bg2
  rw [hpI_rL]
  unfold bg1
  rw [hpI_rI, if_neg (by decide)]
theorem bg_rw {p : Nat} (r : RWr h1 h) : RWr h1 (bgH h p) := by
  have r1 : RWr h1 (bg1 h) := by unfold bg1; exact r.rI
  have r2 : RWr h1 (bg2 (bg1 h)) := by unfold bg2; exact r1.rL (by decide) (by decide)
  have r3 : RWr h1 (hsI (bg2 (bg1 h)) 354 82 1) := r2.sI
  have r4 : RWr h1 (bg4 (hsI (bg2 (bg1 h)) 354 82 1)) := by unfold bg4; exact r3.rI
  have r5 : RWr h1 (bg5 (bg4 (hsI (bg2 (bg1 h)) 354 82 1))) := by unfold bg5; exact r4.rI
  have r6 : RWr h1 (hsI (hsI (hsI (bg5 (bg4 (hsI (bg2 (bg1 h)) 354 82 1))) 344 p 1) 345 p 0) 346 p 0) := r5.sI.sI.sI
  have r7 : RWr h1 (bg7 (hsI (hsI (hsI (bg5 (bg4 (hsI (bg2 (bg1 h)) 354 82 1))) 344 p 1) 345 p 0) 346 p 0) p) := by unfold bg7; exact r6.rI
  have r8 : RWr h1 (bg8 (bg7 (hsI (hsI (hsI (bg5 (bg4 (hsI (bg2 (bg1 h)) 354 82 1))) 344 p 1) 345 p 0) 346 p 0) p)) := by unfold bg8; exact r7.rI
  unfold bgH
  exact r8.sI
theorem n_97b (hd : 2 ≤ d) (o : OkH g h1) (p : LdI h1 h ldF4) {X : String → mxH → Prop} : mx_SX mY_X12_load d 97 [(0, .ref 320), (1, .int (0 : Int32)), (2, .int (0 : Int32)), (3, .int (1 : Int32))] [] h (mx_KI (RZ0 g h1 0) X) := by
  have s := p.1.sr o.sr
  have e49 : hpI h 320 49 = 1 := by rw [p.2]; exact ldF_v.2.2.2.2.2.2.2.2.2.2.2.2.2.2.1
  refine b_X12_load_97 320 _ _ _ ⟨sr_k s, fun _ => ?_, fun c => ?_⟩
  · intro k1 e1
    have p2 : LdI h1 k1 (fup ldF4 50 0) := by rw [e1]; exact p.s (k := 50) (v := 0)
    clear e1
    have s2 := p2.1.sr o.sr
    have e67 : hpI k1 320 67 = nI 0 := by rw [p2.2]; exact ldF_v.2.2.2.2.2.2.2.2.2.2.2.2.2.2.2.1
    refine ⟨by omega, mx_xKV (k_X12_beginsAnew (d := d - 1) (by omega) s2 e67 (by decide)) (Or.inl ⟨_, rfl, rfl, (bg_rw p2.1).po o ?_⟩)⟩
    rw [bg_320, p2.2]
    exact ldF_v.2.2.2.2.2.2.2.2.2.2.2.2.2.2.2.2
  · rw [e49] at c; exact absurd (by decide) c
theorem n_97 (hd : 2 ≤ d) (o : OkH g h1) (p0 : LdI h1 h ldF4) {X : String → mxH → Prop} : mx_SX mY_X12_load d 97 [(0, .ref 320), (1, .int (0 : Int32)), (2, .int (0 : Int32)), (3, .int (0 : Int32))] [] h (mx_KI (RZ0 g h1 0) X) := by
  have s0 := p0.1.sr o.sr
  have V : vp_in (0 : Int32) 3000 := vp_in_nI (n := 0) (by decide) (by decide)
  have e49 : hpI h 320 49 = 1 := by rw [p0.2]; exact ldF_v.2.2.2.2.2.2.2.2.2.2.2.2.2.2.1
  refine b_X12_load_97 320 _ _ _ ⟨sr_k s0, fun c => ?_, fun _ => ?_⟩
  · rw [e49] at c; exact absurd c (by decide)
  refine ⟨323, sr_r33 s0, 331, sr_r41 s0, sr_k331 s0, by rw [sr_z331 s0]; exact V, sr_k323 s0, by rw [sr_z323 s0]; exact V, ?_⟩
  intro k1 e1
  have p1 : LdI h1 k1 ldF4 := by rw [e1]; exact p0.o (by decide)
  have s1 := p1.1.sr o.sr
  clear e1
  refine ⟨324, sr_r34 s1, 332, sr_r42 s1, sr_k332 s1, by rw [sr_z332 s1]; exact V, sr_k324 s1, by rw [sr_z324 s1]; exact V, ?_⟩
  intro k2 e2
  have p2 : LdI h1 k2 ldF4 := by rw [e2]; exact p1.o (by decide)
  have s2 := p2.1.sr o.sr
  clear e2
  refine ⟨325, sr_r35 s2, 333, sr_r43 s2, sr_k333 s2, by rw [sr_z333 s2]; exact V, sr_k325 s2, by rw [sr_z325 s2]; exact V, ?_⟩
  intro k3 e3
  have p3 : LdI h1 k3 ldF4 := by rw [e3]; exact p2.o (by decide)
  have s3 := p3.1.sr o.sr
  clear e3
  refine ⟨326, sr_r36 s3, 334, sr_r44 s3, sr_k334 s3, by rw [sr_z334 s3]; exact V, sr_k326 s3, by rw [sr_z326 s3]; exact V, ?_⟩
  intro k4 e4
  have p4 : LdI h1 k4 ldF4 := by rw [e4]; exact p3.o (by decide)
  have s4 := p4.1.sr o.sr
  clear e4
  refine ⟨327, sr_r37 s4, 335, sr_r45 s4, sr_k335 s4, by rw [sr_z335 s4]; exact V, sr_k327 s4, by rw [sr_z327 s4]; exact V, ?_⟩
  intro k5 e5
  have p5 : LdI h1 k5 ldF4 := by rw [e5]; exact p4.o (by decide)
  have s5 := p5.1.sr o.sr
  clear e5
  refine ⟨328, sr_r38 s5, 336, sr_r46 s5, sr_k336 s5, by rw [sr_z336 s5]; exact V, sr_k328 s5, by rw [sr_z328 s5]; exact V, ?_⟩
  intro k6 e6
  have p6 : LdI h1 k6 ldF4 := by rw [e6]; exact p5.o (by decide)
  have s6 := p6.1.sr o.sr
  clear e6
  refine ⟨329, sr_r39 s6, 337, sr_r47 s6, sr_k337 s6, by rw [sr_z337 s6]; exact V, sr_k329 s6, by rw [sr_z329 s6]; exact V, ?_⟩
  intro k7 e7
  have p7 : LdI h1 k7 ldF4 := by rw [e7]; exact p6.o (by decide)
  have s7 := p7.1.sr o.sr
  clear e7
  refine ⟨330, sr_r40 s7, 338, sr_r48 s7, sr_k338 s7, by rw [sr_z338 s7]; exact V, sr_k330 s7, by rw [sr_z330 s7]; exact V, ?_⟩
  intro k8 e8
  have p8 : LdI h1 k8 ldF4 := by rw [e8]; exact p7.oL (by decide) (by decide)
  have s8 := p8.1.sr o.sr
  clear e8
  rw [show (0 : Int32) + 1 = 1 from rfl]
  exact n_97b hd o p8
theorem rs_load (hd : 4 ≤ d) (o : OkH g h1) {X : String → mxH → Prop} : mx_SM mY_X12_load d [.ref 320] h1 (mx_KI (RZ0 g h1 0) X) := by
  refine b_X12_load 320 ⟨sr_k o.sr, ?_⟩
  rintro _ rfl
  have e3 : hpI (hsI h1 320 0 0) 320 3 = 0 := by rw [o.tt.2.2.1 3 (by decide)]; exact rF_192.1
  rw [e3]
  rintro _ rfl _ rfl _ rfl _ rfl _ rfl _ rfl
  have p0 : LdI h1 h1 (rF 192).2.2.1 := ⟨RWr.rf, o.I (by decide) (by decide)⟩
  have p7 : LdI h1 (hsI (hsI (hsI (hsI (hsI (hsI (hsI h1 320 0 0) 320 4 0) 320 3 0) 320 5 0) 320 49 0) 320 9 (-1)) 320 10 0) ldF0 := p0.s.s.s.s.s.s.s
  refine ⟨by omega, (n_looks (d := d - 1) (by omega) o p7).mono fun r h2 w => ?_⟩
  rcases w with ⟨w1, p8⟩ | ⟨E, -, w⟩
  · refine Or.inl ⟨w1, sr_k (p8.1.sr o.sr), (n_readScript (d := d - 1) (by omega) o p8).mono fun r h3 w => ?_⟩
    rcases w with ⟨v, w1, rfl, p9⟩ | ⟨E, -, w⟩
    · have s9 := p9.1.sr o.sr
      have e7 : hpI h3 320 7 = 0 := by rw [p9.2]; exact ldF_v.2.2.2.2.2.2.2.2.1
      have e51 : hpI h3 320 51 = 0 := by rw [p9.2]; exact ldF_v.2.2.2.2.2.2.2.2.2.1
      refine Or.inl ⟨_, w1, sr_k s9, fun _ => ?_, fun c => absurd e7 c⟩
      rw [e51]
      refine b_X12_load_65 320 _ _ ⟨sr_k s9, ?_⟩
      rw [show hpI h3 320 9 = -1 by rw [p9.2]; exact ldF_v.2.2.2.2.2.2.2.2.2.2.1]
      rintro _ rfl
      have p10 := p9.s (k := 11) (v := -1)
      rw [show hpI (hsI h3 320 11 (-1)) 320 10 = 0 by rw [p10.2]; exact ldF_v.2.2.2.2.2.2.2.2.2.2.2.2.1]
      rintro _ rfl
      have p11 : LdI h1 (hsI (hsI h3 320 11 (-1)) 320 12 0) ldF4 := p10.s (k := 12) (v := 0)
      have s11 := p11.1.sr o.sr
      refine ⟨by omega, mx_xKI2 (n_hasFailed s11 (by rw [p11.2]; exact ldF_v.2.2.2.2.2.2.2.2.2.2.2.2.2.1)) ⟨sr_k s11, mx_xKI2 r_thr0 ⟨fun _ => n_97 (by omega) o p11, fun c => absurd rfl c⟩⟩⟩
    · exact w.elim
  · exact w.elim
end MXN2
