/-! ShellCore.remember and undo, whole -/
section MXK4
variable {B h h1 h2 h3 h' : mxH} {D : pmC} {d n n' j k r W s nv : Nat} {L M : List Nat} {w w' : spW} {F F' : spF} {jl jl' : List Int32} {XL FS VS OS : List Nat} {pi : Nat → Nat} {p : Nat → Prop} {P : List cSn}
theorem BK.cg (b : BK h) (eN : hpN h1 = hpN h) (eK : hpK h1 = hpK h) : BK h1 := ⟨fun a ha => by rw [eK]; exact b.1 a ha, ⟨by rw [eN]; exact b.2.1.1, by rw [eK]; exact b.2.1.2⟩, fun o ho => b.2.2 o ⟨by rw [← eN]; exact ho.1, by rw [← eK]; exact ho.2⟩⟩
/-- the kept states after one more -/
def kpP (P : List cSn) (q : cSn) : List cSn := (if P.length < 6 then P else P.tail) ++ [q]
/-- the kept states' worlds -/
def PsW (D : pmC) (h : mxH) (pi : Nat → Nat) (P : List cSn) : Prop := PsA h pi P.length ∧ ∀ k (hk : k < P.length), WQ D h (161 + 20 * pi k) P[k].1 P[k].2.1 P[k].2.2
theorem R160.rf : R160 h h := ⟨rfl, rfl, rfl, rfl, rfl, fun _ _ => rfl, fun _ _ => rfl, rfl, fun _ _ => rfl⟩
theorem k_X11_remember (hd : 6 ≤ d) (i : IDW D B h n w F jl XL FS VS OS) (bk : BK h) (ps : PsW D h pi P) :
    mx_SM mY_X11_remember d [.ref 128] h (fun x h1 => x = .inl none ∧ KpF h h1 ∧ ∃ pi' n' OS', PsW D h1 pi' (kpP P (w, F, jl)) ∧ n' ≤ 2880 ∧ IDW D B h1 n' w F jl XL FS VS OS') := by
  obtain ⟨pa, hq⟩ := ps
  have s0 := i.1
  have c6 := pa.2.1
  refine b_X11_remember 128 ⟨sc_k128 s0, ?_⟩
  rw [pa.1]
  refine ⟨fun c => ?_, fun c => ?_⟩
  · have lt : P.length < 6 := by
      rcases Nat.lt_or_ge P.length 6 with x | x
      · exact x
      · have e : P.length = 6 := by omega
        rw [e] at c
        exact absurd c (by decide)
    refine (x_rem56 hd i bk pa lt hq).mono ?_
    rintro x h1 ⟨rfl, k1, k2, k3, n', OS', k4, k5⟩
    refine ⟨rfl, k1, pi, n', OS', ?_, k4, k5⟩
    unfold kpP
    rw [if_pos lt]
    exact ⟨k2, k3⟩
  · have e6 : P.length = 6 := by
      rcases Nat.lt_or_ge P.length 6 with x | x
      · exact absurd (show nI P.length < nI 6 from nI_lt x (by decide)) c
      · omega
    rw [e6] at pa
    obtain ⟨p1, p2, p3, p4⟩ := id pa
    refine ⟨160, sc_r128_6 s0, sc_k160 s0, by rw [sc_z160 s0]; show vp_in (nI 0) 6; exact vp_in_nI (by decide) (by decide), ?_⟩
    have e0 : hpR h 160 (0 : Int32).toNatClampNeg = some (161 + 20 * pi 0) := (p3 0 (by decide)).2
    rw [e0]
    refine x_rem18 s0 pa (fun h1 r pa1 => ?_) 5 1 h rfl (Nat.le_refl _) R160.rf rfl (fun j hj => by rw [if_neg (by omega)]; exact (p3 j hj).2)
    have tl : P.tail.length = 5 := by rw [List.length_tail, e6]
    refine (x_rem56 hd (i.r160 r) (bk.cg r.1 r.2.2.2.1) (P := P.tail) (pi := rotP pi) (by rw [tl]; exact pa1) (by rw [tl]; decide) (fun k hk => ?_)).mono ?_
    · rw [tl] at hk
      have e : rotP pi k = pi (k + 1) := by unfold rotP; rw [if_pos hk]
      rw [e, List.getElem_tail]
      exact (hq (k + 1) (by omega)).r160 r s0 (Or.inl (by omega))
    · rintro x h2 ⟨rfl, k1, k2, k3, n', OS', k4, k5⟩
      refine ⟨rfl, (r.kp s0).tr k1, rotP pi, n', OS', ?_, k4, k5⟩
      unfold kpP
      rw [if_neg (by omega)]
      exact ⟨k2, k3⟩
theorem k_X11_undo_no (sc : SC h) (ps : PsW D h pi []) : mx_SM mY_X11_undo d [.ref 128] h (fun x h1 => x = .inl (some (.int (-1))) ∧ h1 = h) := by
  refine b_X11_undo 128 ⟨sc_k128 sc, ?_⟩
  rw [ps.1.1]
  exact ⟨fun _ => ⟨rfl, rfl⟩, fun c => absurd (show nI 0 ≤ 0 from by decide) c⟩
theorem k_X11_undo (hd : 6 ≤ d) (i : IDW D B h n w F jl XL FS VS OS) (bk : BK h) {q : cSn} (ps : PsW D h pi (P ++ [q])) (cn : ∀ k, k < 10 → fH q.2.1 k = cnH (fH q.2.1) k) :
    mx_SM mY_X11_undo d [.ref 128] h (fun x h1 => x = .inl (some (.int (nI P.length))) ∧ KpF h h1 ∧ PsW D h1 pi P ∧ ∃ OS', IDW D B h1 n q.1 (unF F q.2.1) q.2.2 XL FS VS OS') := by
  obtain ⟨⟨p1, p2, p3, p4⟩, hq⟩ := ps
  have s0 := i.1
  have N := s0.1
  have len : (P ++ [q]).length = P.length + 1 := by rw [List.length_append]; rfl
  rw [len] at p1 p2
  refine b_X11_undo 128 ⟨sc_k128 s0, ?_⟩
  rw [p1]
  refine ⟨fun c => absurd c (show ¬ nI (P.length + 1) ≤ nI 0 from nI_ge (Nat.succ_pos _) (by omega)), fun _ => ⟨fun _ => ?_, fun c => absurd (show nI (P.length + 1) ≤ nI 6 from nI_le (by omega) (by decide)) c⟩⟩
  intro h1 e1
  have em : nI (P.length + 1) - 1 = nI P.length := by rw [show (1 : Int32) = nI 1 from rfl, nI_sb (by omega), Nat.add_sub_cancel]
  rw [em] at e1
  obtain ⟨x1, y1⟩ := xs_I e1
  have r : R160 h h1 := ⟨x1.1, x1.2.1, x1.2.2.1, x1.2.2.2.1, x1.2.2.2.2.1, fun b hb => x1.2.2.2.2.2.2.1 b hb, fun k hk => by rw [y1, fup_n hk], funext fun b => x1.2.2.2.2.2.2.2 b id, fun b _ => by rw [x1.2.2.2.2.2.1]⟩
  have i1 := i.r160 r
  have s1 := i1.1
  have j7 : hpI h1 128 7 = nI P.length := by rw [y1, fup_e]
  obtain ⟨pl, pr⟩ := p3 P.length (by omega)
  have wb : WB h1 (161 + 20 * pi P.length) := s1.2.2.2 _ (pw_in pl).2
  have ql : WQ D h1 (161 + 20 * pi P.length) q.1 q.2.1 q.2.2 := by
    have t := hq P.length (by rw [len]; omega)
    rw [show (P ++ [q])[P.length] = q by
      rw [List.getElem_append_right (Nat.le_refl _)]
      simp only [Nat.sub_self, List.getElem_cons_zero]] at t
    exact t.r160 r s0 (Or.inl (by omega))
  rw [j7]
  refine ⟨140, sc_r128_5 s1, 160, sc_r128_6 s1, sc_k160 s1, by rw [sc_z160 s1]; exact vp_in_nI (by omega) (by decide), 161 + 20 * pi P.length, by rw [nI_clamp (by omega), x1.2.2.2.2.2.1]; exact pr, by omega, (sc_w s1).k0, (x_undo (d := d - 1) (by omega) i1 (bk.cg r.1 r.2.2.2.1) pl ql cn).mono ?_⟩
  rintro x h2 ⟨rfl, f, oth, OS', i2⟩
  have s2 := i2.1
  have k128 : hpI h2 128 = hpI h1 128 := (f.2.2.2.1 128 (by have := s1.1; omega) (by rw [sc_k128 s1]; decide) (by unfold wblk; omega)).1
  have r160 : hpR h2 160 = hpR h1 160 := by funext k; exact f.2.2.2.2.1 160 k (by have := s1.1; omega) (by rw [sc_k160 s1]; decide) (by rw [sc_k160 s1]; decide) (Or.inl (by decide))
  refine Or.inl ⟨rfl, sc_k128 s2, by rw [k128, j7], (r.kp s0).tr ⟨f.1, fun b hb hk q1 q2 q3 => ?_, fun k _ => by rw [k128], fun b k hb q1 q2 q3 _ => f.2.2.2.2.1 b k hb q1 q2 q3⟩, ⟨⟨by rw [k128]; exact j7, by omega, fun j hj => by rw [r160, x1.2.2.2.2.2.1]; exact p3 j hj, p4⟩, fun k hk => ?_⟩, OS', i2⟩
  · have t := f.2.2.2.1 b hb hk (by unfold wblk; omega)
    exact ⟨fun _ => t.1, t.2⟩
  · have t := hq k (by rw [len]; omega)
    rw [List.getElem_append_left hk] at t
    exact oth (pi k) (p3 k (by omega)).1 D _ _ _ (t.r160 r s0 (Or.inl (by omega)))
end MXK4
