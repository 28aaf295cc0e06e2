/-! Commands.nameArgument, numberArgument -/
section MXAN
variable {h h1 h2 : mxH} {d x g c i idx : Nat} {l l0 : spL} {D : pmC} {F : spF} {nc na : Nat} {fa fd : Nat → Nat}
/-- where arguments are evaluated -/
def AC (h : mxH) (g x : Nat) (D : pmC) (nc na : Nat) (fa fd : Nat → Nat) (F : spF) : Prop := SC h ∧ SB h x ∧ (x + 13 ≤ 283 ∨ 285 ≤ x) ∧ (g = 289 ∨ g = 304) ∧ PD D (hpI h) (hpL h) g nc na fa fd ∧ CF D (CLn h) h x F ∧ (∃ k, k < 1000 ∧ fS F = nI k) ∧
  ∀ c, c < nc → ∀ i (hi : i < (kAr D c).length), (kAr D c)[i].1 = 0 → 0 < (kAr D c)[i].2 ∧ fitW 12 (kAr D c)[i].2
theorem AC.ex (a : AC h g x D nc na fa fd F) (e : ExI pTX h h1) : AC h1 g x D nc na fa fd F := by
  obtain ⟨a1, a2, a3, a4, a5, a6, a7, a8⟩ := a
  have r : ∀ b, b ≠ 283 → b ≠ 284 → hpI h1 b = hpI h b := fun b h1 h2 => e.2.2.2.2.2.2.2 b (fun c => c.elim h1 h2)
  have eL : hpL h1 = hpL h := e.2.2.2.2.2.1
  refine ⟨a1.fp e.fp, a2.fp e.fp, a3, a4, ?_, ?_, a7, a8⟩
  · unfold PD at a5 ⊢
    rw [r g (by omega) (by omega), r (g + 1) (by omega) (by omega), r (g + 2) (by omega) (by omega), r (g + 3) (by omega) (by omega), r (g + 4) (by omega) (by omega), r (g + 5) (by omega) (by omega), r (g + 7) (by omega) (by omega), r (g + 8) (by omega) (by omega), r (g + 9) (by omega) (by omega), r (g + 10) (by omega) (by omega), r (g + 11) (by omega) (by omega), r (g + 13) (by omega) (by omega), eL]
    exact a5
  · have e1 : CLn h1 = CLn h := by
      show CLr (hpI h1 132) (hpI h1 133) (hpI h1 134) = _
      rw [r 132 (by decide) (by decide), r 133 (by decide) (by decide), r 134 (by decide) (by decide)]
    unfold CF at a6 ⊢
    rw [e1, r x (by omega) (by omega), r (x + 1) (by omega) (by omega), r (x + 3) (by omega) (by omega), r (x + 4) (by omega) (by omega), r (x + 6) (by omega) (by omega), eL]
    exact a6
theorem evA_len {ln : Int32 → spL → Prop} (cf : CF D ln h x F) (hl : ∀ v l, ln v l → l.length ≤ 80) (a : spA) : (evA F a).length ≤ 80 := by
  have v3 := cf.1.2.2
  unfold evA
  split
  · have := spell_len 13 a.2; omega
  · split
    · have := digits_len 10 (fS F).toNatClampNeg; omega
    · split
      · exact Nat.zero_le _
      · rename_i j e
        have jl : j < (fV F).length := (List.findIdx?_eq_some_iff_findIdx_eq.mp e).1
        rw [gd_at jl]
        exact hl _ _ (v3 j jl).2
theorem k_X1_addArgument_no {x0 x1 x2 : Nat} : mx_SM mY_X1_addArgument d [.ref x0, .ref x1, .ref x2, .int (-1)] h (mx_xct (.inl none) h) := b_X1_addArgument x0 x1 x2 _ ⟨fun c => absurd c (by decide), fun _ => ⟨rfl, rfl⟩⟩
/-- an argument is looked up and added -/
theorem AC.one (hd : 2 ≤ d) (a : AC h g x D nc na fa fd F) (t : TX h l0) (hc : c < nc) (hx : idx < 2 ^ 31) : ∃ v, mx_SM mY_X7_argumentAt d [.ref g, .int (nI c), .int (nI idx)] h (mx_xct (.inl (some (.int v))) h) ∧
    mx_SM mY_X1_addArgument d [.ref 283, .ref g, .ref x, .int v] h (fun r h1 => r = .inl none ∧ ExI pTX h h1 ∧ TX h1 ((l0 ++ ((kAr D c).map (evA F)).getD idx []).take 80)) := by
  obtain ⟨a1, a2, a3, a4, a5, a6, a7, a8⟩ := a
  have b := a1.pb a4
  by_cases g1 : idx < (kAr D c).length
  · refine ⟨_, p_argumentAt (by omega) b a5 hc g1, ?_⟩
    have k := k_X1_addArgument (d := d) hd a1 a2 b a5 hc g1 t a6 a7 (a8 c hc idx g1)
    have e : ((kAr D c).map (evA F)).getD idx [] = evA F (kAr D c)[idx] := by
      rw [gd_at (by rw [List.length_map]; exact g1), List.getElem_map]
    rw [e]
    exact k
  · refine ⟨_, p_argumentAt_no (by omega) b a5 hc (by omega) hx, ?_⟩
    refine k_X1_addArgument_no.mono ?_
    rintro r _ ⟨rfl, rfl⟩
    refine ⟨rfl, ExI.rf, ?_⟩
    rw [gd_out (by rw [List.length_map]; omega), List.append_nil, List.take_of_length_le t.2.1]
    exact t
theorem TX.nil (e : hpI h 283 4 = 0) : TX h [] := ⟨e, Nat.zero_le _, fun k hk => absurd hk (Nat.not_lt_zero _)⟩
theorem AC.len (a : AC h g x D nc na fa fd F) (hc : c < nc) (idx : Nat) : (((kAr D c).map (evA F)).getD idx []).length ≤ 80 := by
  rcases Nat.lt_or_ge idx (kAr D c).length with g1 | g1
  · rw [gd_at (by rw [List.length_map]; exact g1), List.getElem_map]
    exact evA_len a.2.2.2.2.2.1 (fun v l q => by obtain ⟨_, _, _, _, q, _⟩ := q; exact q) _
  · rw [gd_out (by rw [List.length_map]; omega)]
    exact Nat.zero_le _
theorem k_X1_nameArgument (hd : 3 ≤ d) (a : AC h g x D nc na fa fd F) (hc : c < nc) (hx : idx < 2 ^ 31) : mx_SM mY_X1_nameArgument d [.ref 283, .ref g, .ref x, .int (nI c), .int (nI idx)] h (fun r h1 => r = .inl (some (.long (nmL (((kAr D c).map (evA F)).getD idx [])))) ∧ ExI pTX h h1) := by
  refine b_X1_nameArgument 283 g x _ _ ⟨sc_k283 a.1, ?_⟩
  rintro _ rfl
  have e0 : ExI pTX h (hsI h 283 4 0) := ExI.rf.I (Or.inl rfl)
  have aH := a.ex e0
  have len := aH.len hc idx
  obtain ⟨v, k1, k2⟩ := aH.one (d := d - 1) (idx := idx) (c := c) (by omega) (TX.nil (by rw [hpI_sI, if_pos rfl, if_pos rfl])) hc hx
  refine ⟨by omega, (a.1.pb a.2.2.2.1).1, mx_xKI2 k1 ⟨sc_k283 a.1, k2.mono ?_⟩⟩
  rintro r h3 ⟨rfl, e3, t3⟩
  rw [List.nil_append, List.take_of_length_le len] at t3
  have s3 := aH.1.fp e3.fp
  refine Or.inl ⟨rfl, sc_k283 s3, 284, sc_r283_3 s3, ?_⟩
  rw [t3.1]
  refine mx_xKL2 (k_X11_nameIn (by omega) (sc_k284 s3) (by rw [sc_z284 s3]; exact len) (by rw [sc_z284 s3]; decide) (fun k hk => (t3.2.2 k hk).1)) ⟨rfl, e0.tr e3⟩
theorem k_X1_numberArgument (hd : 3 ≤ d) (a : AC h g x D nc na fa fd F) (hc : c < nc) (hx : idx < 2 ^ 31) : mx_SM mY_X1_numberArgument d [.ref 283, .ref g, .ref x, .int (nI c), .int (nI idx)] h (fun r h1 => r = .inl (some (.int (nuL (((kAr D c).map (evA F)).getD idx [])))) ∧ ExI pTX h h1) := by
  refine b_X1_numberArgument 283 g x _ _ ⟨sc_k283 a.1, ?_⟩
  rintro _ rfl
  have e0 : ExI pTX h (hsI h 283 4 0) := ExI.rf.I (Or.inl rfl)
  have aH := a.ex e0
  have len := aH.len hc idx
  obtain ⟨v, k1, k2⟩ := aH.one (d := d - 1) (idx := idx) (c := c) (by omega) (TX.nil (by rw [hpI_sI, if_pos rfl, if_pos rfl])) hc hx
  refine ⟨by omega, (a.1.pb a.2.2.2.1).1, mx_xKI2 k1 ⟨sc_k283 a.1, k2.mono ?_⟩⟩
  rintro r h3 ⟨rfl, e3, t3⟩
  rw [List.nil_append, List.take_of_length_le len] at t3
  have s3 := aH.1.fp e3.fp
  refine Or.inl ⟨rfl, sc_k283 s3, 284, sc_r283_3 s3, ?_⟩
  rw [t3.1]
  refine mx_xKI2 (k_X11_numberIn (sc_k284 s3) (by rw [sc_z284 s3]; exact len) (by rw [sc_z284 s3]; decide) t3.2.2) ⟨rfl, e0.tr e3⟩
end MXAN
