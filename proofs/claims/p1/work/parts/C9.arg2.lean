/-! Commands.signalNamed, addArgument -/
section MXA2
variable {h h1 h2 : mxH} {d x g c i : Nat} {l l0 : spL} {D : pmC} {F : spF} {nc na : Nat} {fa fd : Nat → Nat}
theorem sigK_if (v : Int64) : sigK v = if v = 11745 then some 0 else if v = 12859 then some 1 else if v = 1020584 then some 2 else if v = 286474 then some 3 else none := by
  unfold sigK sigNames
  simp only [List.findIdx?_cons, List.findIdx?_nil, decide_eq_true_eq, eq_comm (b := v)]
  by_cases c1 : v = 11745
  · simp [c1]
  by_cases c2 : v = 12859
  · simp [c2]
  by_cases c3 : v = 1020584
  · simp [c3]
  by_cases c4 : v = 286474
  · simp [c4]
  simp [c1, c2, c3, c4]
/-- the signals' names -/
def SGN (h : mxH) : Prop := hpZ h 2 = 4 ∧ hpL h 2 0 = 11745 ∧ hpL h 2 1 = 12859 ∧ hpL h 2 2 = 1020584 ∧ hpL h 2 3 = 286474
theorem k_X1_signalNamed (s : SGN h) {v : Int64} : mx_SM mY_X1_signalNamed d [.long v] h (mx_xct (.inl (some (.int (ixI (sigK v))))) h) := by
  obtain ⟨z, s0, s1, s2, s3⟩ := s
  have z0 : (0 : Int32).toNatClampNeg = 0 := rfl
  have z1 : ((0 : Int32) + 1).toNatClampNeg = 1 := rfl
  have z2 : ((0 : Int32) + 1 + 1).toNatClampNeg = 2 := rfl
  have z3 : ((0 : Int32) + 1 + 1 + 1).toNatClampNeg = 3 := rfl
  rw [sigK_if]
  refine b_X1_signalNamed v (b_X1_signalNamed_2 v _ ⟨fun c => absurd c (by decide), fun _ => ⟨by rw [z]; exact vp_in_nI (n := 0) (by omega) (by omega), fun c0 => ?_, fun c0 => ?_⟩⟩)
  all_goals rw [z0, s0, lg_cmp_eq, eq_comm] at c0
  case refine_2 => rw [if_pos c0]; exact ⟨rfl, rfl⟩
  rw [if_neg c0]
  refine b_X1_signalNamed_2 v _ ⟨fun c => absurd c (by decide), fun _ => ⟨by rw [z]; exact vp_in_nI (n := 1) (by omega) (by omega), fun c1 => ?_, fun c1 => ?_⟩⟩
  all_goals rw [z1, s1, lg_cmp_eq, eq_comm] at c1
  case refine_2 => rw [if_pos c1]; exact ⟨rfl, rfl⟩
  rw [if_neg c1]
  refine b_X1_signalNamed_2 v _ ⟨fun c => absurd c (by decide), fun _ => ⟨by rw [z]; exact vp_in_nI (n := 2) (by omega) (by omega), fun c2 => ?_, fun c2 => ?_⟩⟩
  all_goals rw [z2, s2, lg_cmp_eq, eq_comm] at c2
  case refine_2 => rw [if_pos c2]; exact ⟨rfl, rfl⟩
  rw [if_neg c2]
  refine b_X1_signalNamed_2 v _ ⟨fun c => absurd c (by decide), fun _ => ⟨by rw [z]; exact vp_in_nI (n := 3) (by omega) (by omega), fun c3 => ?_, fun c3 => ?_⟩⟩
  all_goals rw [z3, s3, lg_cmp_eq, eq_comm] at c3
  case refine_2 => rw [if_pos c3]; exact ⟨rfl, rfl⟩
  rw [if_neg c3]
  exact b_X1_signalNamed_2 v _ ⟨fun _ => ⟨rfl, rfl⟩, fun c => absurd (by decide) c⟩
/-- the text that a command's arguments make -/
def TX (h : mxH) (l : spL) : Prop := hpI h 283 4 = nI l.length ∧ l.length ≤ 80 ∧ ∀ k (hk : k < l.length), hpI h 284 k = l[k] ∧ isB l[k]
abbrev pTX : Nat → Prop := fun b => b = 283 ∨ b = 284
theorem TX.put (z : hpZ h 284 = 80) (t : TX h l0) (p : PutT h 284 l0.length l h1) (hb : ∀ k (hk : k < l.length), isB l[k]) : TX (hsI h1 283 4 (nI (l0.length + min l.length (80 - l0.length)))) ((l0 ++ l).take 80) := by
  obtain ⟨G, rfl, f1, f2⟩ := p
  obtain ⟨t1, t2, t3⟩ := t
  have el : ((l0 ++ l).take 80).length = l0.length + min l.length (80 - l0.length) := by
    rw [List.length_take, List.length_append]; omega
  refine ⟨by rw [el, hpI_sI, if_pos rfl, if_pos rfl], by rw [el]; omega, fun k hk => ?_⟩
  rw [el] at hk
  rw [hpI_sIn (by decide), hpI_rIs, List.getElem_take]
  by_cases e : k < l0.length
  · rw [List.getElem_append_left e, f1 k e]
    exact t3 k e
  · rw [List.getElem_append_right (by omega)]
    have := f2 (k - l0.length) (by omega) (by rw [z]; omega)
    rw [show l0.length + (k - l0.length) = k by omega] at this
    exact ⟨this, hb _ _⟩
theorem spell_B : ∀ n v c, c ∈ spell n v → isB c
  | 0, _, c, h => nomatch h
  | n + 1, v, c, h => by
    unfold spell at h
    rcases List.mem_append.mp h with h | h
    · by_cases g : 37 ≤ v
      · rw [if_pos g] at h; exact spell_B n _ c h
      · rw [if_neg g] at h; exact nomatch h
    · rw [List.mem_singleton.mp h]
      exact byte2 _
theorem k_X1_addArgument (hd : 2 ≤ d) (s : SC h) (sx : SB h x) (b : PB h g) (pd : PD D (hpI h) (hpL h) g nc na fa fd) (hc : c < nc) (hi : i < (kAr D c).length) (t : TX h l0) (cf : CF D (CLn h) h x F) (hst : ∃ k, k < 1000 ∧ fS F = nI k) (hw : (kAr D c)[i].1 = 0 → 0 < (kAr D c)[i].2 ∧ fitW 12 (kAr D c)[i].2) :
    mx_SM mY_X1_addArgument d [.ref 283, .ref g, .ref x, .int (nI (fa c + i))] h (fun r h1 => r = .inl none ∧ ExI pTX h h1 ∧ TX h1 ((l0 ++ evA F (kAr D c)[i]).take 80)) := by
  obtain ⟨⟨v1, v2, v3⟩, -, -, -, -, est, -⟩ := cf
  have le7 : fa c + i < 2 ^ 31 := by
    have q1 := (pd.2.2.1.2.2 c hc).2.1
    have q2 := pd.2.2.1.1
    omega
  have lk : (kAr D c)[i].1 ≤ 2 := ((pd.2.2.1.2.2 c hc).2.2.2 i hi).2.1
  have z8 := sc_z284 s
  have lt := t.2.1
  have fin : ∀ (h1 : mxH) (l : spL), (∀ k (hk : k < l.length), isB l[k]) → PutT h 284 l0.length l h1 → l = evA F (kAr D c)[i] → ExI pTX h (hsI h1 283 4 (nI (l0.length + min l.length (hpZ h 284 - l0.length)))) ∧ TX (hsI h1 283 4 (nI (l0.length + min l.length (hpZ h 284 - l0.length)))) ((l0 ++ evA F (kAr D c)[i]).take 80) := by
    intro h1 l hb p el
    rw [← el, z8]
    refine ⟨?_, t.put z8 p hb⟩
    obtain ⟨G, rfl, -, -⟩ := p
    exact (ExI.rf.rI (Or.inr rfl)).I (Or.inl rfl)
  refine b_X1_addArgument 283 g x _ ⟨fun _ => ⟨by omega, b.1, mx_xKI2 (p_argumentKind b pd hc hi) ⟨b.1, mx_xKL2 (p_argumentName b pd hc hi) ⟨fun c1 => ⟨fun c2 => ⟨sx.k0, x + 1, sx.r0_0, sx.k1, ?_⟩, fun c2 => ⟨sx.k0, ?_⟩⟩, fun c1 => ⟨sc_k283 s, 284, sc_r283_3 s, ?_⟩⟩⟩⟩, fun q => absurd (nI_pos' le7) q⟩
  · have n0 : (kAr D c)[i].1 ≠ 0 := fun e => c1 (by rw [e]; rfl)
    have n2 : (kAr D c)[i].1 ≠ 2 := fun e => c2 (by rw [e]; rfl)
    refine mx_xKI2 (k_X9_find sx.k1 sx.r1_0 sx.k2 v1 (by rw [sx.z2]; exact v2) (by rw [sx.z2]; decide)) ?_
    rw [ix_tbF (fun j hj => (v3 j hj).1)]
    rcases e : tbF (fV F) (kAr D c)[i].2 with _ | j
    · have ev : evA F (kAr D c)[i] = [] := by unfold evA; rw [if_neg n0, if_neg n2, e]
      refine ⟨fun _ => ⟨rfl, ExI.rf, ?_⟩, fun q => absurd (by decide) q⟩
      rw [ev, List.append_nil, List.take_of_length_le lt]
      exact t
    · have jl : j < (fV F).length := by
        have := List.findIdx?_eq_some_iff_findIdx_eq.mp e
        exact this.1
      have ev : evA F (kAr D c)[i] = (fV F)[j].2 := by
        unfold evA; rw [if_neg n0, if_neg n2, e]; show ((fV F).getD j (0, [])).2 = _; rw [gd_at jl]
      refine ⟨fun q => absurd q (nI_pos (by omega)), fun _ => ⟨sc_k283 s, 131, sc_r283_2 s, sx.k0, x + 1, sx.r0_0, sx.k1, mx_xKI2 (k_X9_valueAt (i := j) sx.k1 sx.r1_1 sx.k3 (by rw [sx.z3]; omega) (by rw [sx.z3]; decide)) ⟨sc_k283 s, 284, sc_r283_3 s, sc_k131 s, ?_⟩⟩⟩
      rw [t.1]
      refine (k_X3_copyTo (by omega) s (v3 j jl).2 (sc_k284 s) (by rw [z8]; decide) (by rw [z8]; exact lt)).mono ?_
      rintro r h1 ⟨G, rfl, rfl, f1, f2⟩
      refine Or.inl ⟨_, rfl, sc_k283 s, ?_⟩
      rintro _ rfl
      have lb : ∀ k (hk : k < (fV F)[j].2.length), isB (fV F)[j].2[k] := fun k hk => by
        obtain ⟨_, _, _, _, _, _, q⟩ := (v3 j jl).2
        exact (q k hk).2
      exact ⟨rfl, fin _ _ lb ⟨G, rfl, f1, f2⟩ ev.symm⟩
  · obtain ⟨k, hk, ek⟩ := hst
    have n2 : (kAr D c)[i].1 = 2 := (nI_eq (b := 2) (by omega) (by omega)).mp c2
    have ev : evA F (kAr D c)[i] = digits 10 k := by
      unfold evA
      rw [if_neg (by omega), if_pos n2, ek, nI_clamp (by omega)]
    obtain ⟨o1, o2, o3⟩ := nmO_ok hk
    refine mx_xKL2 k_X1_nameOfNumber ⟨sc_k283 s, 284, sc_r283_3 s, ?_⟩
    rw [est, ek, t.1]
    refine (k_X11_spell (by omega) (sc_k284 s) (by rw [z8]; decide) (by rw [z8]; exact lt) o1 o2).mono ?_
    rintro r h1 ⟨rfl, p⟩
    have kc : hpK h1 283 = 1 := by
      obtain ⟨G, rfl, -, -⟩ := p
      exact sc_k283 s
    refine Or.inl ⟨_, rfl, kc, ?_⟩
    rintro _ rfl
    exact ⟨rfl, fin _ _ (fun k hk => spell_B 13 _ _ (List.getElem_mem _)) p (by rw [o3]; exact ev.symm)⟩
  · have n0 : (kAr D c)[i].1 = 0 := (nI_eq (b := 0) (by omega) (by omega)).mp c1
    have ev : evA F (kAr D c)[i] = spell 13 (kAr D c)[i].2 := by
      unfold evA
      rw [if_pos n0]
    obtain ⟨o1, o2⟩ := hw n0
    rw [t.1]
    refine (k_X11_spell (by omega) (sc_k284 s) (by rw [z8]; decide) (by rw [z8]; exact lt) o1 o2).mono ?_
    rintro r h1 ⟨rfl, p⟩
    have kc : hpK h1 283 = 1 := by
      obtain ⟨G, rfl, -, -⟩ := p
      exact sc_k283 s
    refine Or.inl ⟨_, rfl, kc, ?_⟩
    rintro _ rfl
    exact ⟨rfl, fin _ _ (fun k hk => spell_B 13 _ _ (List.getElem_mem _)) p ev.symm⟩
end MXA2
