/-! Commands.read -/
section MXRE
variable {h h1 h2 hA hB : mxH} {d x g c s n : Nat} {w w' : spW} {D : pmC} {F : spF} {nc na : Nat} {fa fd : Nat → Nat} {A : Nat → Option Nat} {oh : Option Nat} {l l0 : spL} {v : Int32} {as : List spL} {bg : Bool}
theorem rd_end : (rdLine w oh bg).1.1 ≠ 0 → (rdLine w oh bg).1.2 = [] := by
  cases oh with
  | none => intro _; rfl
  | some o =>
    unfold rdLine
    simp only []
    repeat' split
    all_goals first
      | (intro _; rfl)
      | (intro h; exact absurd rfl h)
theorem i0n {v : Int32} (h : 0 ≤ v) : ¬ v < 0 := Int32.not_lt.mpr h
theorem o_read (hd : 4 ≤ d) (k : LK h A g x D nc na fa fd s n w F) (hc : c < nc) : mx_SM mY_X1_read d [.ref 283, .ref g, .ref x, .int (nI c)] h (OpE D A x s n h (opRead ((kAr D c).map (evA F)) w F)) := by
  obtain ⟨a, hx, cw, cu, ch⟩ := k
  refine b_X1_read 283 g x (nI c) ⟨by omega, sc_k283 a.1, (k_X1_nameArgument (idx := 0) (by omega) a hc (by omega)).mono ?_⟩
  rintro _ h1 ⟨rfl, e1⟩
  have a1 := a.ex e1
  have w1 := cw.tx e1
  have b1 := a1.1.pb a1.2.2.2.1
  have len : ((kAr D c).map (evA F)).length = (kAr D c).length := List.length_map ..
  have l7 : (kAr D c).length ≤ 700 := by
    have q1 := (a.2.2.2.2.1.2.2.1.2.2 c hc).2.1
    have q2 := a.2.2.2.2.1.2.2.1.1
    omega
  refine Or.inl ⟨_, rfl, b1.1, mx_xKI2 (p_argumentsOf (by omega) b1 a1.2.2.2.2.1 hc) ?_⟩
  rw [lg_cmp_eq]
  generalize (kAr D c).map (evA F) = as at len ⊢
  have bad : (as.length ≠ 1 ∨ nmL (as.getD 0 []) = 0) → OpE D A x s n h (opRead as w F) (.inl (some (.int 2))) h1 := fun q => by
    have eo : opRead as w F = (2, w, F) := by unfold opRead; rw [if_pos q]
    rw [eo]
    exact ⟨rfl, LC.ofT e1 cw a.2.2.1, w1, a1.2.2.2.2.2.1, CU_tx cu e1, fun v l c => by rw [CLn_tx e1]; exact c⟩
  refine ⟨fun c1 => bad (Or.inl fun e => c1 (by rw [← len, e]; rfl)), fun c1 => ⟨fun c2 => ⟨sc_k283 a1.1, ?_⟩, fun c2 => bad (Or.inr c2)⟩⟩
  have l1 : as.length = 1 := by rw [len]; exact (nI_eq (b := 1) (by omega) (by omega)).mp c1
  have ng : ¬ (as.length ≠ 1 ∨ nmL (as.getD 0 []) = 0) := fun q => q.elim (fun q => q l1) c2
  have ch1 : RHc A (hpR h1 (x + 9) 0) (fH F 0) := by rw [e1.2.2.2.2.2.2.1]; exact ch 0 (by decide)
  have cf1 := a1.2.2.2.2.2.1
  have hbg : hpI h1 x 5 = if fG F = true then 1 else 0 := cf1.2.2.2.2.1
  refine (k_X1_readLine (by omega) w1 a1.2.1 ch1 hbg).mono ?_
  rintro r h2 ⟨v, rfl, rd, w2, fr⟩
  obtain ⟨m1, m2, m3⟩ := fr.more w1 a1.2.1 hx cf1
  have s2 := a1.2.1.fp fr.1.fp
  have lc := (LC.ofT e1 cw a.2.2.1).tr (LC.ofR fr w1 a1.2.1 hx)
  have ln : ∀ v l, CLn h v l → CLn h2 v l := fun v l c => by rw [m1, CLn_tx e1]; exact c
  have cu2 := m3 _ (CU_tx cu e1)
  have t2 := s2.tv m2.1.1 m2.1.2.1
  have ed := rd_end (w := w) (oh := fH F 0) (bg := fG F)
  refine Or.inl ⟨v, rfl, ?_⟩
  have eo : opRead as w F = if (rdLine w (fH F 0) (fG F)).1.1 = 3 then ((-2 : Int32), (rdLine w (fH F 0) (fG F)).2, F) else if (rdLine w (fH F 0) (fG F)).1.1 = 2 then (1, (rdLine w (fH F 0) (fG F)).2, F) else match asgn F (nmL (as.getD 0 [])) (rdLine w (fH F 0) (fG F)).1.2 with
    | none => (1, (rdLine w (fH F 0) (fG F)).2, F)
    | some f1 => (if (rdLine w (fH F 0) (fG F)).1.1 = 0 then 0 else 1, (rdLine w (fH F 0) (fG F)).2, f1) := by
    unfold opRead; rw [if_neg ng]; rfl
  rw [eo]
  clear eo
  generalize rdLine w (fH F 0) (fG F) = q at rd w2 ed ⊢
  generalize nmL (as.getD 0 []) = nm at c2 ⊢
  have pt : ∀ u, CLn h2 u q.1.2 → (asgn F nm q.1.2 = none ∧ mx_SM mY_X9_put (d - 1) [.ref (x + 1), .long nm, .int u] h2 (mx_xct (.inl (some (.int 0))) h2)) ∨ ∃ F1, asgn F nm q.1.2 = some F1 ∧ mx_SM mY_X9_put (d - 1) [.ref (x + 1), .long nm, .int u] h2 (mx_xct (.inl (some (.int 1))) (tb_put h2 (x + 1) (x + 2) (x + 3) (fV F).length nm u)) ∧ ∀ st : Int32, OpE D A x s n h (st, q.2, F1) (.inl (some (.int st))) (tb_put h2 (x + 1) (x + 2) (x + 3) (fV F).length nm u) := by
    intro u hu
    rcases ea : asgn F nm q.1.2 with _ | F1
    · obtain ⟨l20, ix⟩ := asgn_no m2 ea
      exact Or.inl ⟨rfl, k_X9_put_no (by omega) t2 (by rw [s2.z2]; exact l20) ix⟩
    · obtain ⟨cf3, room⟩ := m2.put hu ea
      obtain ⟨u1, u2, u3⟩ := w2.tbp (N := (fV F).length) (k := nm) (v := u) s2 hx
      exact Or.inr ⟨F1, rfl, k_X9_put (by omega) t2 (by rw [s2.z2]; exact room), fun st => ⟨rfl, lc.tr (LC.ofP s2 w2 hx), u1, by rw [u2]; exact cf3, u3 _ cu2, fun v l c => by rw [u2]; exact ln v l c⟩⟩
  rcases rd with ⟨q0, cl⟩ | ⟨q1, rfl⟩ | ⟨q2, rfl⟩ | ⟨q3, rfl⟩
  · have v0 := CLn_ge cl
    refine ⟨fun _ => ⟨fun _ => ⟨fun c3 => absurd c3 (i0n v0), fun _ => ⟨s2.k0, x + 1, s2.r0_0, s2.k1, ?_⟩⟩, fun c2 => absurd v0 (by rw [c2]; decide)⟩, fun c1 => absurd v0 (by rw [c1]; decide)⟩
    rw [if_neg (by omega), if_neg (by omega)]
    rcases pt v (by rw [m1]; exact cl) with ⟨ea, k⟩ | ⟨F1, ea, k, o⟩
    · rw [ea]
      exact mx_xKI2 k ⟨fun _ => ⟨rfl, lc, w2, m2, cu2, ln⟩, fun c => absurd rfl c⟩
    · rw [ea]
      simp only []
      rw [if_pos q0]
      exact mx_xKI2 k ⟨fun c => absurd c (by decide), fun _ => o 0⟩
  · refine ⟨fun _ => ⟨fun c2 => absurd rfl c2, fun _ => ⟨s2.k0, x + 1, s2.r0_0, s2.k1, ?_⟩⟩, fun c => absurd c (by decide)⟩
    rw [if_neg (by omega), if_neg (by omega)]
    have e0 : q.1.2 = [] := ed (by omega)
    rcases pt 0 (by rw [e0]; exact cu2.nil) with ⟨ea, k⟩ | ⟨F1, ea, k, o⟩
    · rw [ea]
      exact mx_xKI2 k ⟨rfl, lc, w2, m2, cu2, ln⟩
    · rw [ea]
      simp only []
      rw [if_neg (by omega)]
      exact mx_xKI2 k (o 1)
  · refine ⟨fun _ => ⟨fun _ => ⟨fun _ => ?_, fun c => absurd (by decide) c⟩, fun c => absurd c (by decide)⟩, fun c => absurd c (by decide)⟩
    rw [if_neg (by omega), if_pos q2]
    exact ⟨rfl, lc, w2, m2, cu2, ln⟩
  · refine ⟨fun c => absurd rfl c, fun _ => ?_⟩
    rw [if_pos q3]
    exact ⟨rfl, lc, w2, m2, cu2, ln⟩
end MXRE
