/-! LOAD OF AN EMPTY TEXT AND RUN OF NO SCRIPT, the class (p1) -/
section MXN3
variable {g h h' h1 h2 : mxH} {d n k a j o t : Nat} {x y : Int32} {F G : Nat → Int32}
def OkN (g h : mxH) (t : Nat) : Prop := FP (H0 g) h ∧ RRow g h ∧ hpI h 0 = hpI g 0 ∧ hpC h + 365 = 237 + hpN h ∧ hpS h + 2190 = 952454 + 6 * hpN h ∧ hpN h ≤ 365 + t
theorem OkN.ok (p : OkN g h t) (ht : t ≤ 1000) : OkH g h := by
  obtain ⟨p1, p2, p3, p4, p5, p6⟩ := p
  exact ⟨p1, p2, p3, by omega, by omega⟩
theorem OkN.rf : OkN g (H0 g) 0 := ⟨FP.rf, fun _ _ _ => ⟨rfl, rfl, rfl⟩, hpI_mkLo (by decide), by show 237 + 365 = 237 + 365; rfl, by show 952454 + 2190 = 952454 + 6 * 365; rfl, by show 365 ≤ 365 + 0; decide⟩
theorem OkN.sc (p : OkN g h t) : SC h := h0_SC.fp p.1
theorem m_Io {v : Int32} {b : Nat} (hb : b ≠ a) : hpI (hsI h a k v) b = hpI h b := by
  show hpI (hrI h a (fup (hpI h a) k v)) b = _
  rw [hpI_rI, if_neg hb]
theorem m_Ro {v : Option Nat} {b : Nat} (hb : b ≠ a) : hpR (hsR h a k v) b = hpR h b := by
  show hpR (hrR h a (fup (hpR h a) k v)) b = _
  rw [hpR_rR, if_neg hb]
theorem m_Is {v : Int32} : hpI (hsI h a k v) a = fup (hpI h a) k v := by
  show hpI (hrI h a (fup (hpI h a) k v)) a = _
  rw [hpI_rI, if_pos rfl]
theorem OkN.sI {v : Int32} (p : OkN g h t) (ha : a < 320) (h0 : a ≠ 0) : OkN g (hsI h a k v) t := by
  obtain ⟨p1, p2, p3, p4⟩ := p
  exact ⟨p1.I, fun b b1 b2 => ⟨by rw [m_Io (by omega)]; exact (p2 b b1 b2).1, (p2 b b1 b2).2⟩, by rw [m_Io (fun e => h0 e.symm)]; exact p3, p4⟩
theorem OkN.sL {v : Int64} (p : OkN g h t) (ha : a < 320) : OkN g (hsL h a k v) t := by
  obtain ⟨p1, p2, p3, p4⟩ := p
  exact ⟨p1.L, fun b b1 b2 => ⟨(p2 b b1 b2).1, by rw [hpL_sLr (by omega)]; exact (p2 b b1 b2).2.1, (p2 b b1 b2).2.2⟩, p3, p4⟩
theorem OkN.sR {v : Option Nat} (p : OkN g h t) (ha : a < 320) (hk : k ∉ fnlL (hpK h a)) : OkN g (hsR h a k v) t := by
  obtain ⟨p1, p2, p3, p4⟩ := p
  exact ⟨p1.R hk, fun b b1 b2 => ⟨(p2 b b1 b2).1, (p2 b b1 b2).2.1, by rw [m_Ro (by omega)]; exact (p2 b b1 b2).2.2⟩, p3, p4⟩
theorem OkN.kd (p : OkN g h t) (hg : ∀ a, a < 128 → hpK g a = 21) : (∀ b, 320 ≤ b → b < 364 → hpK h b ≠ 5 ∧ hpK h b ≠ 18) ∧ hpK h 0 = 21 := by
  refine ⟨fun b b1 b2 => ?_, ?_⟩
  · rw [(p.1.2 b (by rw [h0_N]; omega)).1, (h0_SR (g := g)).1 b b1 b2]
    exact srK_no b b1 b2
  · rw [(p.1.2 0 (by rw [h0_N]; omega)).1, show hpK (H0 g) 0 = hpK g 0 from hpK_mkLo (by decide)]
    exact hg 0 (by decide)
theorem OkN.fro (p : OkN g h t) (hg : ∀ a, a < 128 → hpK g a = 21) (f : FrO h h1) : OkN g h1 t := by
  have kk := p.kd hg
  have s := p.sc
  obtain ⟨p1, p2, p3, p4, p5, p6⟩ := p
  have fp := f.fp (sc_k135 s)
  obtain ⟨f1, f2, f3, f4, f5, f6, f7, f8⟩ := f
  refine ⟨p1.tr fp, fun b b1 b2 => ⟨?_, ?_, ?_⟩, ?_, by rw [f1, f2]; exact p4, by rw [f1, f3]; exact p5, by rw [f1]; exact p6⟩
  · rw [← (p2 b b1 b2).1]; funext k; exact f7 b k (Or.inl (kk.1 b b1 b2).1)
  · rw [f6]; exact (p2 b b1 b2).2.1
  · rw [← (p2 b b1 b2).2.2]; funext k; exact f8 b k (kk.1 b b1 b2).2 (Or.inl (kk.1 b b1 b2).1) (Or.inl (by omega))
  · rw [← p3]; funext k; exact f7 0 k (Or.inl (by rw [kk.2]; decide))
theorem OkN.frn (p : OkN g h t) (hg : ∀ a, a < 128 → hpK g a = 21) (f : FrN h h1 o) (ko : hpK h1 o = 5) : OkN g h1 (t + 1) := by
  have kk := p.kd hg
  obtain ⟨p1, p2, p3, p4, p5, p6⟩ := p
  obtain ⟨f1, f2, f3, f4, f5, f6, f7⟩ := f
  have N := p1.1
  rw [h0_N] at N
  have ne : ∀ b, b < 365 → hpK h b ≠ 5 → b ≠ o := fun b b1 b2 e => by
    subst e
    rw [(f5.2 b (by omega)).1] at ko
    exact b2 ko
  have L : ∀ b, b ≠ o → hpL h1 b = hpL h b := fun b hb => by
    rw [f4]
    by_cases c : hpN h1 = hpN h
    · rw [if_pos c]
    · rw [if_neg c]; unfold fup; rw [if_neg hb]
  refine ⟨p1.tr f5, fun b b1 b2 => ?_, ?_, by omega, by omega, by omega⟩
  · have nb := ne b (by omega) (kk.1 b b1 b2).1
    refine ⟨?_, ?_, ?_⟩
    · rw [← (p2 b b1 b2).1]; funext k; exact f6 b k nb
    · rw [L b nb]; exact (p2 b b1 b2).2.1
    · rw [← (p2 b b1 b2).2.2]; funext k; exact f7 b k nb (Or.inl (by omega))
  · rw [← p3]; funext k; exact f6 0 k (ne 0 (by omega) (by rw [kk.2]; decide))
abbrev RS0 : List Nat := cRS [146] []
theorem m155 : 155 ∈ RS0 := by decide
theorem m_at (s : SC h) : hd_at h 154 135 155 := ⟨(sc_w s).sb.k8, (sc_w s).sb.r8_0, (sc_w s).sb.r8_1, sc_k135 s, (sc_w s).sb.k9, (sc_w s).sb.z9⟩
/-- Handles.beginAnew -/
theorem n_X2_beginAnew (hd : 4 ≤ d) (hg : ∀ a, a < 128 → hpK g a = 21) (p : OkN g h t) (oi : OI h RS0 []) : mx_SM mY_X2_beginAnew d [.ref 154] h (mx_KV (fun h' => OkN g h' (t + 1)) fun _ _ => False) := by
  have s := p.sc
  refine b_X2_beginAnew 154 ⟨by omega, (m_at s).1, mx_uV (c_X2_closeAll (by omega) oi (m_at s) m155) fun h1 w => ?_⟩
  obtain ⟨oi1, fr1, -⟩ := w
  have p1 := p.fro hg fr1
  have s1 := p1.sc
  refine ⟨(m_at s1).1, 135, (m_at s1).2.1, sc_k135 s1, (c_X0_open (d := d - 1) (by omega) oi1 ⟨by have := s1.1; omega, sc_k135 s1⟩).mono fun r h2 w => ?_⟩
  rcases w with ⟨v, w1, o, rfl, oi2, frn, -, -, ko, -⟩ | ⟨E, -, w⟩
  · have p2 := p1.frn hg frn ko.2
    have s2 := p2.sc
    refine Or.inl ⟨_, w1, (m_at s2).1, mx_uV (c_X2_put (i := 0) (new := some o) oi2 (m_at s2) m155 (by decide) (fun b e => by cases e; exact ko) (fun b e => by cases e; exact Or.inr List.mem_cons_self)) fun h3 w => ?_⟩
    obtain ⟨oi3, fr3, row3⟩ := w
    have p3 := p2.fro hg fr3
    have s3 := p3.sc
    have ko3 : mx_kd h3 o 5 := ⟨by rw [fr3.1]; exact ko.1, by rw [fr3.2.2.2.1]; exact ko.2⟩
    have c3 : rcnt (hpR h3) o RS0 ≠ 0 := Nat.ne_of_gt (rcnt_pos (a := 155) (k := 0) RS0 m155 (by decide) (by rw [row3 155 m155 0 (by decide), if_pos ⟨rfl, rfl⟩]))
    refine ⟨(m_at s3).1, mx_uV (c_X2_put (i := 1) (new := some o) oi3 (m_at s3) m155 (by decide) (fun b e => by cases e; exact ko3) (fun b e => by cases e; exact Or.inl c3)) fun h4 w => ?_⟩
    obtain ⟨oi4, fr4, row4⟩ := w
    have p4 := p3.fro hg fr4
    have s4 := p4.sc
    have ko4 : mx_kd h4 o 5 := ⟨by rw [fr4.1]; exact ko3.1, by rw [fr4.2.2.2.1]; exact ko3.2⟩
    have c4 : rcnt (hpR h4) o RS0 ≠ 0 := Nat.ne_of_gt (rcnt_pos (a := 155) (k := 1) RS0 m155 (by decide) (by rw [row4 155 m155 1 (by decide), if_pos ⟨rfl, rfl⟩]))
    refine ⟨(m_at s4).1, mx_uV (c_X2_put (i := 2) (new := some o) oi4 (m_at s4) m155 (by decide) (fun b e => by cases e; exact ko4) (fun b e => by cases e; exact Or.inl c4)) fun h5 w => ?_⟩
    obtain ⟨oi5, fr5, row5⟩ := w
    exact Or.inl ⟨rfl, p4.fro hg fr5⟩
  · exact w.elim
theorem OI.sI {v : Int32} (oi : OI h RS0 []) (ha : hpK h a ≠ 5) : OI (hsI h a k v) RS0 [] :=
  oi.cg rfl rfl rfl (fun _ _ _ _ => rfl) (fun o ho => ⟨by rw [m_Io (fun e => ha (by rw [← e]; exact ho.2))], rfl⟩) rfl
theorem OI.sL {v : Int64} (oi : OI h RS0 []) : OI (hsL h a k v) RS0 [] :=
  oi.cg rfl rfl rfl (fun _ _ _ _ => rfl) (fun _ _ => ⟨rfl, rfl⟩) rfl
theorem OI.sR {v : Option Nat} (oi : OI h RS0 []) (h5 : hpK h a ≠ 5) (h18 : hpK h a ≠ 18) (h135 : a ≠ 135) : OI (hsR h a k v) RS0 [] :=
  oi.cg rfl rfl rfl (fun b hb j hj => by rw [m_Ro (fun e => h18 (by rw [← e]; exact (oi.2.2.1 b hb).1.2))]) (fun o ho => ⟨rfl, by rw [m_Ro (fun e => h5 (by rw [← e]; exact ho.2))]⟩) (by rw [m_Ro (fun e => h135 e.symm)])
/-- Shell.beginAnew, World.beginAnew -/
theorem n_X8_18 (hd : 5 ≤ d) (hg : ∀ a, a < 128 → hpK g a = 21) : ∀ m i h, i + m = 4 → OkN g h t → OI h RS0 [] → mx_SX mY_X8_beginAnew d 18 [(0, .ref 146), (1, .int (nI i))] [] h (mx_KV (fun h' => OkN g h' (t + 1)) fun _ _ => False) := by
  intro m
  induction m with
  | zero =>
    intro i h hi p oi
    have : i = 4 := by omega
    subst this
    have s := p.sc
    refine b_X8_beginAnew_18 146 _ ⟨fun _ => ⟨(sc_w s).sb.k0, 154, (sc_w s).sb.r0_3, by omega, (sc_w s).sb.k8, mx_uV (n_X2_beginAnew (by omega) hg p oi) fun h1 p1 => ?_⟩, fun c => absurd (show nI 4 ≤ nI 4 from nI_le (Nat.le_refl _) (by omega)) c⟩
    have s1 := p1.sc
    refine ⟨(sc_w s1).sb.k0, ?_⟩
    intro h2 e2 h3 e3
    have p3 : OkN g h3 (t + 1) := by rw [e3, e2]; exact (p1.sI (by decide) (by decide)).sI (by decide) (by decide)
    clear e2 e3
    have s3 := p3.sc
    refine mx_xKV (k_X8_prepare (sc_w s3).sb.k0) (Or.inl ⟨rfl, ?_⟩)
    unfold sh_prep
    exact (((((p3.sI (by decide) (by decide)).sI (by decide) (by decide)).sI (by decide) (by decide)).sI (by decide) (by decide)).sR (by decide) (by rw [show hpK (hsI (hsI (hsI (hsI h3 146 9 0) 146 8 0) 146 10 0) 146 12 0) 146 = 8 from (sc_w s3).sb.k0]; decide)).sI (by decide) (by decide)
  | succ m ih =>
    intro i h hi p oi
    have s := p.sc
    refine b_X8_beginAnew_18 146 _ ⟨fun c => absurd c (show ¬ nI 4 ≤ nI i from nI_ge (by omega) (by omega)), fun _ => ⟨(sc_w s).sb.k0, 153, (sc_w s).sb.r0_2, (sc_w s).sb.k7, by rw [(sc_w s).sb.z7]; exact vp_in_nI (by omega) (by omega), ?_⟩⟩
    rintro _ rfl
    rw [nI_1]
    exact ih (i + 1) _ (by omega) (p.sL (by decide)) oi.sL
theorem n_X8_beginAnew (hd : 5 ≤ d) (hg : ∀ a, a < 128 → hpK g a = 21) (p : OkN g h t) (oi : OI h RS0 []) : mx_SM mY_X8_beginAnew d [.ref 146] h (mx_KV (fun h' => OkN g h' (t + 1)) fun _ _ => False) := by
  have s := p.sc
  refine b_X8_beginAnew 146 ⟨(sc_w s).sb.k0, 147, (sc_w s).sb.r0_0, (sc_w s).sb.k1, ?_⟩
  intro h1 e1
  have p1 : OkN g h1 t := by rw [e1]; exact p.sI (by decide) (by decide)
  have o1 : OI h1 RS0 [] := by rw [e1]; exact oi.sI (by rw [(sc_w s).sb.k1]; decide)
  clear e1
  have s1 := p1.sc
  refine ⟨150, (sc_w s1).sb.r0_1, (sc_w s1).sb.k4, ?_⟩
  intro h2 e2
  have p2 : OkN g h2 t := by rw [e2]; exact p1.sI (by decide) (by decide)
  have o2 : OI h2 RS0 [] := by rw [e2]; exact o1.sI (by rw [(sc_w s1).sb.k4]; decide)
  exact n_X8_18 hd hg 4 0 h2 rfl p2 o2
theorem n_X10_beginAnew (hd : 6 ≤ d) (hg : ∀ a, a < 128 → hpK g a = 21) (p : OkN g h t) (oi : OI h RS0 []) : mx_SM mY_X10_beginAnew d [.ref 140] h (mx_KV (fun h' => OkN g h' (t + 1)) fun _ _ => False) := by
  have s := p.sc
  refine b_X10_beginAnew 140 ⟨(sc_w s).k0, 146, (sc_w s).r8, by omega, (sc_w s).sb.k0, mx_uV (n_X8_beginAnew (by omega) hg p oi) fun h1 p1 => ?_⟩
  have s1 := p1.sc
  refine ⟨(sc_w s1).k0, mx_xKV (k_X10_forgetRun (sc_w s1).k0) (Or.inl ⟨rfl, ?_⟩)⟩
  unfold wo_forget
  exact (((p1.sI (by decide) (by decide)).sI (by decide) (by decide)).sI (by decide) (by decide)).sI (by decide) (by decide)
/-- the parser over no text -/
def PaI (g h : mxH) (F G : Nat → Int32) : Prop := OkN g h 0 ∧ OI h RS0 [] ∧ hpI h 281 = F ∧ hpI h 304 = G ∧ hpR h 128 = hpR (H0 g) 128
theorem PaI.sc (p : PaI g h F G) : SC h := p.1.sc
theorem PaI.va {v : Int32} (p : PaI g h F G) : PaI g (hsI h 281 k v) (fup F k v) G := by
  obtain ⟨p1, p2, p3, p4, p5⟩ := p
  exact ⟨p1.sI (by decide) (by decide), p2.sI (by rw [sc_k281 p1.sc]; decide), by rw [m_Is, p3], by rw [m_Io (by decide)]; exact p4, p5⟩
theorem PaI.vb {v : Int32} (p : PaI g h F G) : PaI g (hsI h 304 k v) F (fup G k v) := by
  obtain ⟨p1, p2, p3, p4, p5⟩ := p
  exact ⟨p1.sI (by decide) (by decide), p2.sI (by rw [sc_k304 p1.sc]; decide), by rw [m_Io (by decide)]; exact p3, by rw [m_Is, p4], p5⟩
theorem PaI.vc {v : Int32} (p : PaI g h F G) (h1 : a < 320) (h0 : a ≠ 0) (n1 : 281 ≠ a) (n2 : 304 ≠ a) (h5 : hpK h a ≠ 5) : PaI g (hsI h a k v) F G := by
  obtain ⟨p1, p2, p3, p4, p5⟩ := p
  exact ⟨p1.sI h1 h0, p2.sI h5, by rw [m_Io n1]; exact p3, by rw [m_Io n2]; exact p4, p5⟩
def paF0 : Nat → Int32 := fup (fup (fup (fup (rF 153).2.2.1 1 0) 7 0) 8 (-1)) 5 0
def paG0 : Nat → Int32 := fup (fup (fup (fup (rF 176).2.2.1 3 0) 11 0) 14 0) 17 0
def paF1 : Nat → Int32 := fup (fup (fup paF0 4 0) 3 0) 5 0
theorem pa_v : paF0 5 = 0 ∧ paF0 1 = 0 ∧ (fup paF0 4 0) 1 = 0 ∧ paF1 3 = 0 ∧ paG0 3 = nI 0 ∧ (fup paG0 3 (nI 1)) 3 = nI 1 := by decide +kernel
theorem n_emit (hd : 1 ≤ d) {v : Int32} {m : Nat} (p : PaI g h F G) (e : G 3 = nI m) (hm : m < 2801) : mx_SM mY_X7_emit d [.ref 304, .int v] h (mx_KI (fun _ h' => PaI g h' F (fup G 3 (nI (m + 1)))) fun _ _ => False) := by
  have s := p.sc
  have at4 : pg_at h 304 305 306 307 m := ⟨sc_k304 s, sc_r304_0 s, sc_r304_1 s, sc_r304_2 s, sc_k305 s, sc_k306 s, sc_k307 s, sc_z305 s, sc_z306 s, sc_z307 s, by rw [p.2.2.2.1]; exact e⟩
  refine mx_xKI2 (k_X7_emit hd at4 hm) ?_
  unfold pg_emit
  have q1 := p.vc (a := 305) (k := m) (v := v) (by decide) (by decide) (by decide) (by decide) (by rw [sc_k305 s]; decide)
  have q2 := q1.vc (a := 306) (k := m) (v := 0) (by decide) (by decide) (by decide) (by decide) (by rw [sc_k306 q1.sc]; decide)
  have q3 := q2.vc (a := 307) (k := m) (v := 0) (by decide) (by decide) (by decide) (by decide) (by rw [sc_k307 q2.sc]; decide)
  exact q3.vb
theorem n_parse (hd : 4 ≤ d) (hg : ∀ a, a < 128 → hpK g a = 21) : mx_SM mY_X6_parse d [.ref 281, .int (0 : Int32), .ref 304] (H0 g) (mx_KI (fun v h' => v = 0 ∧ ∃ F G, PaI g h' F G) fun _ _ => False) := by
  have s : SC (H0 g) := h0_SC
  have p0 : PaI g (H0 g) (rF 153).2.2.1 (rF 176).2.2.1 := ⟨OkN.rf, h0_OI hg, h0_IJ, h0_IJ, rfl⟩
  refine b_X6_parse 281 0 304 ⟨sc_k281 s, 129, sc_r281_0 s, sc_k129 s, by omega, ?_⟩
  rw [sc_z129 s, show (if nI 700 < (0 : Int32) then nI 700 else (0 : Int32)) = 0 by decide]
  intro k1 e1 k2 e2 k3 e3 k4 e4 k5 e5
  have r2 : hpR k5 281 2 = some 304 := by rw [e5, e4, e3, e2]; show hpR (hsR k1 281 2 (some 304)) 281 2 = _; rw [hpR_sR, if_pos rfl, if_pos rfl]
  have p5 : PaI g k5 paF0 (rF 176).2.2.1 := by
    have q1 : PaI g k1 (fup (rF 153).2.2.1 1 0) (rF 176).2.2.1 := by rw [e1]; exact p0.va
    have s1 := q1.sc
    have q2 : PaI g k2 (fup (rF 153).2.2.1 1 0) (rF 176).2.2.1 := by
      rw [e2]
      obtain ⟨a1, a2, a3, a4, a5⟩ := q1
      exact ⟨a1.sR (by decide) (by rw [sc_k281 s1]; decide), a2.sR (by rw [sc_k281 s1]; decide) (by rw [sc_k281 s1]; decide) (by decide), a3, a4, by rw [m_Ro (by decide)]; exact a5⟩
    rw [e5, e4, e3]
    exact q2.va.va.va
  clear e1 e2 e3 e4 e5
  have s5 := p5.sc
  refine ⟨sc_k304 s5, ?_⟩
  have p9 : ∀ j1 j2 j3 j4, j1 = hsI k5 304 3 0 → j2 = hsI j1 304 11 0 → j3 = hsI j2 304 14 0 → j4 = hsI j3 304 17 0 → PaI g j4 paF0 paG0 ∧ hpR j4 281 2 = some 304 := fun j1 j2 j3 j4 e1 e2 e3 e4 => by
    rw [e4, e3, e2, e1]
    exact ⟨p5.vb.vb.vb.vb, r2⟩
  refine mx_uV (P := fun h' => PaI g h' paF0 paG0 ∧ hpR h' 281 2 = some 304) (b_X7_makeEmpty 304 ⟨sc_k304 s5, fun j1 e1 j2 e2 j3 e3 j4 e4 => Or.inl ⟨rfl, p9 j1 j2 j3 j4 e1 e2 e3 e4⟩⟩) fun k6 w => ?_
  obtain ⟨p6, r6⟩ := w
  have s6 := p6.sc
  have e5 : hpI k6 281 5 = 0 := by rw [p6.2.2.1]; exact pa_v.1
  have e1 : hpI k6 281 1 = 0 := by rw [p6.2.2.1]; exact pa_v.2.1
  have adv : mx_SM mY_X6_advance (d - 1) [.ref 281] k6 (mx_KV (fun h' => PaI g h' paF1 paG0 ∧ hpR h' 281 2 = some 304) fun _ _ => False) := by
    refine b_X6_advance 281 ⟨sc_k281 s6, ?_⟩
    rw [e5]
    refine b_X6_advance_5 281 0 ⟨sc_k281 s6, fun _ => b_X6_advance_30 281 0 ⟨sc_k281 s6, ?_⟩, fun c => ?_⟩
    · intro j1 f1
      have q1 : PaI g j1 (fup paF0 4 0) paG0 := by rw [f1]; exact p6.va
      have rj : hpR j1 281 2 = some 304 := by rw [f1]; exact r6
      have s1 := q1.sc
      have e11 : hpI j1 281 1 = 0 := by rw [q1.2.2.1]; exact pa_v.2.2.1
      refine ⟨by omega, mx_xKI2 (v := -1) (h' := j1) (b_X6_byteAt 281 0 ⟨fun _ => ⟨rfl, rfl⟩, fun _ => ⟨sc_k281 s1, fun _ => ⟨rfl, rfl⟩, fun c => absurd (by rw [e11]; decide) c⟩⟩) ⟨fun c => absurd c (by decide), fun _ => ⟨sc_k281 s1, ?_⟩⟩⟩
      intro j7 f7 j8 f8
      refine Or.inl ⟨rfl, ?_, ?_⟩
      · rw [f8, f7]; exact q1.va.va
      · rw [f8, f7]; exact rj
    · rw [e1] at c; exact absurd (by decide) c
  refine ⟨sc_k281 s6, mx_uV adv fun k7 w => ?_⟩
  obtain ⟨p7, r7⟩ := w
  have s7 := p7.sc
  have e3 : hpI k7 281 3 = 0 := by rw [p7.2.2.1]; exact pa_v.2.2.2.1
  have sch : mx_SM mY_X6_startsChain (d - 1 - 1) [.ref 281] k7 (mx_xct (.inl (some (.int 0))) k7) := by
    refine b_X6_startsChain 281 ⟨sc_k281 s7, ?_⟩
    rw [e3]
    exact ⟨fun _ => ⟨fun c => absurd c (by decide), fun _ => ⟨fun c => absurd c (by decide), fun _ => ⟨fun _ => ⟨rfl, rfl⟩, fun c => absurd c (by decide)⟩⟩⟩, fun c => absurd c (by decide)⟩
  have scr : mx_SM mY_X6_script (d - 1) [.ref 281, .int (0 : Int32)] k7 (mx_KI (fun v h' => v = 0 ∧ PaI g h' paF1 (fup paG0 3 (nI (0 + 1)))) fun _ _ => False) := by
    refine b_X6_script 281 _ (b_X6_script_2 281 _ _ ⟨fun c => absurd c (by decide), fun _ => ⟨by omega, sc_k281 s7, mx_xKI2 sch ⟨fun _ => b_X6_script_27 281 _ ⟨fun c => absurd rfl c, fun _ => ⟨sc_k281 s7, 304, r7, by omega, sc_k304 s7, mx_uI (n_emit (d := d - 1 - 1) (by omega) p7 pa_v.2.2.2.2.1 (by decide)) fun _ h2 w => Or.inl ⟨_, rfl, rfl, w⟩⟩⟩, fun c => absurd rfl c⟩⟩⟩)
  refine ⟨sc_k281 s7, mx_uI scr fun v k8 w => ?_⟩
  obtain ⟨rfl, p8⟩ := w
  have s8 := p8.sc
  have e38 : hpI k8 281 3 = 0 := by rw [p8.2.2.1]; exact pa_v.2.2.2.1
  refine ⟨sc_k281 s8, mx_xKV (h' := k8) (b_X6_expect 281 0 ⟨sc_k281 s8, fun _ => b_X6_expect_13 281 ⟨sc_k281 s8, fun _ => ⟨rfl, rfl⟩, fun c => absurd e38 c⟩, fun c => absurd e38 c⟩) ⟨sc_k304 s8, mx_uI (n_emit (d := d - 1) (m := 1) (by omega) p8 pa_v.2.2.2.2.2 (by decide)) fun _ h2 w => Or.inl ⟨_, rfl, rfl, _, _, w⟩⟩⟩
theorem q_load (hd : 8 ≤ d) (hg : ∀ a, a < 128 → hpK g a = 21) : mx_SM mY_X11_load d [.ref 128] (H0 g) (mx_KI (CA g 0) fun _ _ => False) := by
  have e0 : hpI (H0 g) 128 1 = 0 := h0_I128.1
  have s : SC (H0 g) := h0_SC
  refine b_X11_load 128 ⟨sc_k128 s, ?_⟩
  rw [hsI_id e0, e0]
  rintro _ rfl
  refine ⟨281, sc_r128_8 s, 304, by rw [h0_RJ]; exact rF_C.2.2.2.2.2.2.2.2, by omega, sc_k281 s, mx_uI (n_parse (by omega) hg) fun v h2 w => ?_⟩
  obtain ⟨rfl, F, G, p2⟩ := w
  have s2 := p2.sc
  refine ⟨sc_k128 s2, 289, by rw [p2.2.2.2.2, h0_RJ]; exact rF_C.2.2.2.2.2.2.2.1, 304, by rw [p2.2.2.2.2, h0_RJ]; exact rF_C.2.2.2.2.2.2.2.2, ?_⟩
  intro h3 e3 h4 e4
  have q4 : OkN g h4 0 ∧ OI h4 RS0 [] := by
    rw [e4, e3]
    have a1 := p2.1.sR (a := 128) (k := 10) (v := some 304) (by decide) (by rw [sc_k128 s2]; decide)
    have b1 := p2.2.1.sR (a := 128) (k := 10) (v := some 304) (by rw [sc_k128 s2]; decide) (by rw [sc_k128 s2]; decide) (by decide)
    exact ⟨a1.sR (by decide) (by rw [sc_k128 a1.sc]; decide), b1.sR (by rw [sc_k128 a1.sc]; decide) (by rw [sc_k128 a1.sc]; decide) (by decide)⟩
  clear e3 e4
  have s4 := q4.1.sc
  refine ⟨140, sc_r128_5 s4, (sc_w s4).k0, mx_uV (n_X10_beginAnew (by omega) hg q4.1 q4.2) fun h5 p5 => ?_⟩
  refine ⟨sc_k128 p5.sc, ?_⟩
  rintro _ rfl
  exact Or.inl ⟨_, rfl, rfl, (p5.sI (by decide) (by decide)).ok (by decide)⟩
end MXN3
