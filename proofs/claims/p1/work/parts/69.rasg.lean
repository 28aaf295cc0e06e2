/-! THE REFERENCE: assigns, defines -/
section MXAS
variable {d : Nat} {h0 h : mxH} {w : spW} {G : List spE} {V : List (Option (Option Nat))} {P : List spX} {N : spN} {n m xs : Nat} {Q : mxRes → mxH → Prop} {f : Nat → Int32} {g : Nat → Int64} {ln : Int32 → spL → Prop} {F : spF}
theorem RF.vset (r : RF ln f g F) {i : Nat} {v : Int32} {k : Int64} {l : spL} (hi : i < (fV F).length) (hk : (fV F)[i].1 = k) (hv : ln v l) : RF ln (fup f (1 + i) v) g (vV F ((fV F).set i (k, l))) := by
  obtain ⟨⟨a1, a2, a3⟩, ⟨b1, b2, b3⟩, c, d1, d2, d3, d4, d5, d6, d7, d8⟩ := r
  refine ⟨⟨by rw [fup_n (by omega)]; show _ = nI ((fV F).set i (k, l)).length; rw [List.length_set]; exact a1, by show ((fV F).set i (k, l)).length ≤ 20; rw [List.length_set]; exact a2, fun j hj => ?_⟩, ⟨by rw [fup_n (by omega)]; exact b1, b2, fun j hj => ?_⟩, c, by rw [fup_n (by omega)]; exact d1, by rw [fup_n (by omega)]; exact d2, by rw [fup_n (by omega)]; exact d3, by rw [fup_n (by omega)]; exact d4, by rw [fup_n (by omega)]; exact d5, d6, by rw [fup_n (by omega)]; exact d7, d8⟩
  · have hj' : j < ((fV F).set i (k, l)).length := hj
    show g j = ((fV F).set i (k, l))[j].1 ∧ ln _ ((fV F).set i (k, l))[j].2
    rw [List.length_set] at hj'
    by_cases e : j = i
    · subst e
      rw [List.getElem_set_self, fup_e]
      exact ⟨(a3 j hi).1.trans hk, hv⟩
    · rw [List.getElem_set_ne (fun q => e q.symm), fup_n (by omega)]
      exact a3 j hj'
  · have hj' : j < (fU F).length := hj
    rw [fup_n (by omega)]; exact b3 j hj'
theorem RF.vnew (r : RF ln f g F) {v : Int32} {k : Int64} {l : spL} (hl : (fV F).length < 20) (hv : ln v l) : RF ln (fup (fup f 0 (nI ((fV F).length + 1))) (1 + (fV F).length) v) (fup g (fV F).length k) (vV F (fV F ++ [(k, l)])) := by
  obtain ⟨⟨a1, a2, a3⟩, ⟨b1, b2, b3⟩, c, d1, d2, d3, d4, d5, d6, d7, d8⟩ := r
  have ll : (fV F ++ [(k, l)]).length = (fV F).length + 1 := by rw [List.length_append]; rfl
  refine ⟨⟨by rw [fup_n (by omega), fup_e]; show _ = nI (fV F ++ [(k, l)]).length; rw [ll], by show (fV F ++ [(k, l)]).length ≤ 20; rw [ll]; omega, fun j hj => ?_⟩, ⟨by rw [fup_n (by omega), fup_n (by omega)]; exact b1, b2, fun j hj => ?_⟩, fun j hj => by rw [fup_n (by omega)]; exact c j hj, by rw [fup_n (by omega), fup_n (by omega)]; exact d1, by rw [fup_n (by omega), fup_n (by omega)]; exact d2, by rw [fup_n (by omega), fup_n (by omega)]; exact d3, by rw [fup_n (by omega), fup_n (by omega)]; exact d4, by rw [fup_n (by omega), fup_n (by omega)]; exact d5, d6, by rw [fup_n (by omega), fup_n (by omega)]; exact d7, d8⟩
  · have hj' : j < (fV F ++ [(k, l)]).length := hj
    rw [ll] at hj'
    show fup g (fV F).length k j = (fV F ++ [(k, l)])[j].1 ∧ ln _ (fV F ++ [(k, l)])[j].2
    by_cases e : j = (fV F).length
    · subst e
      rw [List.getElem_append_right (Nat.le_refl _), fup_e, fup_e]
      simp only [Nat.sub_self, List.getElem_cons_zero]
      exact ⟨by trivial, hv⟩
    · rw [List.getElem_append_left (by omega), fup_n e, fup_n (by omega), fup_n (by omega)]
      exact a3 j (by omega)
  · have hj' : j < (fU F).length := hj
    rw [fup_n (by omega), fup_n (by omega), fup_n (by omega)]; exact b3 j hj'
theorem RF.uset (r : RF ln f g F) {i : Nat} {v : Int32} {k : Int64} (hi : i < (fU F).length) (hk : (fU F)[i].1 = k) : RF ln (fup f (22 + i) v) g (vU F ((fU F).set i (k, v))) := by
  obtain ⟨⟨a1, a2, a3⟩, ⟨b1, b2, b3⟩, c, d1, d2, d3, d4, d5, d6, d7, d8⟩ := r
  refine ⟨⟨by rw [fup_n (by omega)]; exact a1, a2, fun j hj => ?_⟩, ⟨by rw [fup_n (by omega)]; show _ = nI ((fU F).set i (k, v)).length; rw [List.length_set]; exact b1, by show ((fU F).set i (k, v)).length ≤ 10; rw [List.length_set]; exact b2, fun j hj => ?_⟩, c, by rw [fup_n (by omega)]; exact d1, by rw [fup_n (by omega)]; exact d2, by rw [fup_n (by omega)]; exact d3, by rw [fup_n (by omega)]; exact d4, by rw [fup_n (by omega)]; exact d5, d6, by rw [fup_n (by omega)]; exact d7, d8⟩
  · have hj' : j < (fV F).length := hj
    rw [fup_n (by omega)]; exact a3 j hj'
  · have hj' : j < ((fU F).set i (k, v)).length := hj
    show g (20 + j) = ((fU F).set i (k, v))[j].1 ∧ _ = ((fU F).set i (k, v))[j].2
    rw [List.length_set] at hj'
    by_cases e : j = i
    · subst e
      rw [List.getElem_set_self, fup_e]
      exact ⟨(b3 j hi).1.trans hk, rfl⟩
    · rw [List.getElem_set_ne (fun q => e q.symm), fup_n (by omega)]
      exact b3 j hj'
theorem RF.unew (r : RF ln f g F) {v : Int32} {k : Int64} (hl : (fU F).length < 10) : RF ln (fup (fup f 21 (nI ((fU F).length + 1))) (22 + (fU F).length) v) (fup g (20 + (fU F).length) k) (vU F (fU F ++ [(k, v)])) := by
  obtain ⟨⟨a1, a2, a3⟩, ⟨b1, b2, b3⟩, c, d1, d2, d3, d4, d5, d6, d7, d8⟩ := r
  have ll : (fU F ++ [(k, v)]).length = (fU F).length + 1 := by rw [List.length_append]; rfl
  refine ⟨⟨by rw [fup_n (by omega), fup_n (by omega)]; exact a1, a2, fun j hj => ?_⟩, ⟨by rw [fup_n (by omega), fup_e]; show _ = nI (fU F ++ [(k, v)]).length; rw [ll], by show (fU F ++ [(k, v)]).length ≤ 10; rw [ll]; omega, fun j hj => ?_⟩, fun j hj => by rw [fup_n (by omega)]; exact c j hj, by rw [fup_n (by omega), fup_n (by omega)]; exact d1, by rw [fup_n (by omega), fup_n (by omega)]; exact d2, by rw [fup_n (by omega), fup_n (by omega)]; exact d3, by rw [fup_n (by omega), fup_n (by omega)]; exact d4, by rw [fup_n (by omega), fup_n (by omega)]; exact d5, d6, by rw [fup_n (by omega), fup_n (by omega)]; exact d7, d8⟩
  · have hj' : j < (fV F).length := hj
    rw [fup_n (by omega), fup_n (by omega), fup_n (by omega)]; exact a3 j hj'
  · have hj' : j < (fU F ++ [(k, v)]).length := hj
    rw [ll] at hj'
    show fup g (20 + (fU F).length) k (20 + j) = (fU F ++ [(k, v)])[j].1 ∧ _ = (fU F ++ [(k, v)])[j].2
    by_cases e : j = (fU F).length
    · subst e
      rw [List.getElem_append_right (Nat.le_refl _), fup_e, fup_e]
      simp only [Nat.sub_self, List.getElem_cons_zero]
      exact ⟨by trivial, by trivial⟩
    · rw [List.getElem_append_left (by omega), fup_n (by omega), fup_n (by omega), fup_n (by omega)]
      exact b3 j (by omega)
/-- a variable's line is set -/
theorem RG.vset {s : Nat} {S : spS} {js : List Nat} (r : RG h0 h w ((s, S, js) :: G) V P N n m xs) {i : Nat} {v : Int32} {k : Int64} {l : spL} (hi : i < (fV S.1).length) (hk : (fV S.1)[i].1 = k) (hv : (v, l) ∈ N.1) : RG h0 (hsI h 354 (83 * s + (1 + i)) v) w ((s, (vV S.1 ((fV S.1).set i (k, l)), S.2), js) :: G) V P N n m xs := by
  obtain ⟨hs, rf, rj⟩ := r.own
  have h20 := rf.1.2.1
  have h82 : hpI h 354 (83 * s + 82) = 1 := by
    obtain ⟨A, B, Qs, -, -, -, -, -, -, he, -⟩ := r
    exact (he.1 _ List.mem_cons_self).2.1
  have := RG.row r (S' := (vV S.1 ((fV S.1).set i (k, l)), S.2)) (js' := js) (f := fup (hpI h 354) (83 * s + (1 + i)) v) (g := hpL h 355) (offS.rf.up (by omega)) offN.rf (by rw [fup_n (by omega)]; exact h82) (fun ln A o => by
    rw [shR_up]
    exact ⟨o.1.vset hi hk (o.2.2.2.2.1 _ hv), o.2.1.other (by omega), o.2.2.1.other (by omega)⟩) (fun L hL hN j hj => by
    rw [shR_up] at hj ⊢
    rw [fup_n (by omega)] at hj
    by_cases e : 1 + j = 1 + i
    · rw [e, fup_e]; exact hN _ hv
    · rw [fup_n e]; exact hL j hj) (fun _ L hL _ _ k hk => by rw [fup_n (by omega)]; exact hL k hk)
  have e : hrL (hrI h 354 (fup (hpI h 354) (83 * s + (1 + i)) v)) 355 (hpL h 355) = hsI h 354 (83 * s + (1 + i)) v := hrL_self (h := hsI h 354 (83 * s + (1 + i)) v)
  rw [e] at this
  exact this
theorem RG.vnew {s : Nat} {S : spS} {js : List Nat} (r : RG h0 h w ((s, S, js) :: G) V P N n m xs) {v : Int32} {k : Int64} {l : spL} (hl : (fV S.1).length < 20) (hv : (v, l) ∈ N.1) :
    RG h0 (hsI (hsL (hsI h 354 (83 * s + 0) (nI ((fV S.1).length + 1))) 355 (34 * s + (fV S.1).length) k) 354 (83 * s + (1 + (fV S.1).length)) v) w ((s, (vV S.1 (fV S.1 ++ [(k, l)]), S.2), js) :: G) V P N n m xs := by
  obtain ⟨hs, rf, rj⟩ := r.own
  have h82 : hpI h 354 (83 * s + 82) = 1 := by
    obtain ⟨A, B, Qs, -, -, -, -, -, -, he, -⟩ := r
    exact (he.1 _ List.mem_cons_self).2.1
  have := RG.row r (S' := (vV S.1 (fV S.1 ++ [(k, l)]), S.2)) (js' := js) (f := fup (fup (hpI h 354) (83 * s + 0) (nI ((fV S.1).length + 1))) (83 * s + (1 + (fV S.1).length)) v) (g := fup (hpL h 355) (34 * s + (fV S.1).length) k) ((offS.rf.up (by omega)).up (by omega)) (offN.rf.up (by omega)) (by rw [fup_n (by omega), fup_n (by omega)]; exact h82) (fun ln A o => by
    rw [shR_up, shR_up, shN_up]
    exact ⟨o.1.vnew hl (o.2.2.2.2.1 _ hv), (o.2.1.other (by omega)).other (by omega), (o.2.2.1.other (by omega)).other (by omega)⟩) (fun L hL hN j hj => by
    rw [shR_up, shR_up] at hj ⊢
    rw [fup_n (by omega), fup_e, nI_clamp (by omega)] at hj
    have z1 : shR (hpI h 354) s 0 = nI (fV S.1).length := rf.1.1
    by_cases e : 1 + j = 1 + (fV S.1).length
    · rw [e, fup_e]; exact hN _ hv
    · rw [fup_n e, fup_n (by omega)]
      exact hL j (by rw [z1, nI_clamp (by omega)]; omega)) (fun _ L hL _ _ k hk => by rw [fup_n (by omega), fup_n (by omega)]; exact hL k hk)
  have e : hsI (hsL (hsI h 354 (83 * s + 0) (nI ((fV S.1).length + 1))) 355 (34 * s + (fV S.1).length) k) 354 (83 * s + (1 + (fV S.1).length)) v = hrL (hsI (hsI h 354 (83 * s + 0) (nI ((fV S.1).length + 1))) 354 (83 * s + (1 + (fV S.1).length)) v) 355 (fup (hpL h 355) (34 * s + (fV S.1).length) k) := rfl
  have e2 : hsI (hsI h 354 (83 * s + 0) (nI ((fV S.1).length + 1))) 354 (83 * s + (1 + (fV S.1).length)) v = hrI h 354 (fup (fup (hpI h 354) (83 * s + 0) (nI ((fV S.1).length + 1))) (83 * s + (1 + (fV S.1).length)) v) := hsI_hrI
  rw [e, e2]
  exact this
theorem RG.uset {s : Nat} {S : spS} {js : List Nat} (r : RG h0 h w ((s, S, js) :: G) V P N n m xs) {i : Nat} {v : Int32} {k : Int64} (hi : i < (fU S.1).length) (hk : (fU S.1)[i].1 = k) : RG h0 (hsI h 354 (83 * s + (22 + i)) v) w ((s, (vU S.1 ((fU S.1).set i (k, v)), S.2), js) :: G) V P N n m xs := by
  have h10 := r.own.2.1.2.1.2.1
  exact r.place (S' := (vU S.1 ((fU S.1).set i (k, v)), S.2)) (by omega) (by omega) (by omega) rfl (fun _ _ _ q => q.uset hi hk) (fun _ q => q.other (by omega))
theorem RG.unew {s : Nat} {S : spS} {js : List Nat} (r : RG h0 h w ((s, S, js) :: G) V P N n m xs) {v : Int32} {k : Int64} (hl : (fU S.1).length < 10) :
    RG h0 (hsI (hsL (hsI h 354 (83 * s + 21) (nI ((fU S.1).length + 1))) 355 (34 * s + (20 + (fU S.1).length)) k) 354 (83 * s + (22 + (fU S.1).length)) v) w ((s, (vU S.1 (fU S.1 ++ [(k, v)]), S.2), js) :: G) V P N n m xs := by
  obtain ⟨hs, rf, rj⟩ := r.own
  have h82 : hpI h 354 (83 * s + 82) = 1 := by
    obtain ⟨A, B, Qs, -, -, -, -, -, -, he, -⟩ := r
    exact (he.1 _ List.mem_cons_self).2.1
  have := RG.row r (S' := (vU S.1 (fU S.1 ++ [(k, v)]), S.2)) (js' := js) (f := fup (fup (hpI h 354) (83 * s + 21) (nI ((fU S.1).length + 1))) (83 * s + (22 + (fU S.1).length)) v) (g := fup (hpL h 355) (34 * s + (20 + (fU S.1).length)) k) ((offS.rf.up (by omega)).up (by omega)) (offN.rf.up (by omega)) (by rw [fup_n (by omega), fup_n (by omega)]; exact h82) (fun ln A o => by
    rw [shR_up, shR_up, shN_up]
    exact ⟨o.1.unew hl, (o.2.1.other (by omega)).other (by omega), (o.2.2.1.other (by omega)).other (by omega)⟩) (fun L hL hN j hj => by
    rw [shR_up, shR_up] at hj ⊢
    rw [fup_n (by omega), fup_n (by omega)] at hj
    have z1 : shR (hpI h 354) s 0 = nI (fV S.1).length := rf.1.1
    have z2 : (fV S.1).length ≤ 20 := rf.1.2.1
    have hj2 : j < (fV S.1).length := by rw [z1, nI_clamp (by omega)] at hj; exact hj
    rw [fup_n (by omega), fup_n (by omega)]
    exact hL j hj) (fun _ L hL _ _ k hk => by rw [fup_n (by omega), fup_n (by omega)]; exact hL k hk)
  have e : hsI (hsL (hsI h 354 (83 * s + 21) (nI ((fU S.1).length + 1))) 355 (34 * s + (20 + (fU S.1).length)) k) 354 (83 * s + (22 + (fU S.1).length)) v = hrL (hsI (hsI h 354 (83 * s + 21) (nI ((fU S.1).length + 1))) 354 (83 * s + (22 + (fU S.1).length)) v) 355 (fup (hpL h 355) (34 * s + (20 + (fU S.1).length)) k) := rfl
  have e2 : hsI (hsI h 354 (83 * s + 21) (nI ((fU S.1).length + 1))) 354 (83 * s + (22 + (fU S.1).length)) v = hrI h 354 (fup (fup (hpI h 354) (83 * s + 21) (nI ((fU S.1).length + 1))) (83 * s + (22 + (fU S.1).length)) v) := hsI_hrI
  rw [e, e2]
  exact this
theorem k_X12_assigns (hd : 2 ≤ d) {s : Nat} {S : spS} {js : List Nat} (r : RG h0 h w ((s, S, js) :: G) V P N n m xs) {v : Int32} {k : Int64} {l : spL} (hv : (v, l) ∈ N.1) : mx_SM mY_X12_assigns d [.ref 320, .int (nI s), .long k, .int v] h (mx_KI (fun b h1 => match asgn S.1 k l with
      | none => b = 0 ∧ RG h0 h1 w ((s, S, js) :: G) V P N n m xs
      | some f1 => b = 1 ∧ RG h0 h1 w ((s, (f1, S.2), js) :: G) V P N n m xs) fun _ _ => False) := by
  obtain ⟨hs, rf, rj⟩ := r.own
  have sr := r.sr
  have h20 : (fV S.1).length ≤ 20 := rf.1.2.1
  have h0' : hpI h 354 (83 * s) = nI (fV S.1).length := rf.1.1
  refine b_X12_assigns 320 _ _ _ ⟨by omega, sr_k sr, mx_xKI2 (k_X12_variableOf (by omega) r) ?_⟩
  unfold asgn tbP
  cases e : tbF (fV S.1) k with
  | some i =>
    obtain ⟨hi, hk⟩ := tbF_at e
    refine ⟨fun _ => b_X12_assigns_27 320 _ _ _ _ ⟨fun _ => b_X12_assigns_59 320 _ _ _ ⟨by omega, sr_k sr, ?_⟩, fun c => absurd c (ixI_some (by omega))⟩, fun c => absurd c (ixI_some (by omega))⟩
    rw [show (1 : Int32) + ixI (some i) = nI (1 + i) from nI_add 1 i]
    exact mx_xKV (k_X12_sets sr (by omega)) (Or.inl ⟨_, rfl, rfl, r.vset hi hk hv⟩)
  | none =>
    refine ⟨fun c => absurd rfl c, fun _ => ⟨sr_k sr, mx_xKI2 (k_X12_of (j := 0) sr (by omega)) ?_⟩⟩
    rw [Nat.add_zero, h0']
    refine ⟨fun c => ?_, fun c => ?_⟩
    · have lt : (fV S.1).length < 20 := by
        rcases Nat.lt_or_ge (fV S.1).length 20 with g | g
        · exact g
        · have : (fV S.1).length = 20 := by omega
          rw [this] at c; exact absurd rfl c
      refine b_X12_assigns_27 320 _ _ _ _ ⟨fun c => absurd rfl c, fun _ => ⟨by omega, sr_k sr, mx_xKI2 (k_X12_of (j := 0) sr (by omega)) ⟨sr_k sr, ?_⟩⟩⟩
      rw [Nat.add_zero, h0', nI_1]
      refine mx_xKV (k_X12_sets (j := 0) sr (by omega)) ⟨sr_k sr, mx_xKV (k_X12_setsName (h := hsI h 354 (83 * s + 0) (nI ((fV S.1).length + 1))) sr (by omega)) ?_⟩
      have s3 : SR (hsL (hsI h 354 (83 * s + 0) (nI ((fV S.1).length + 1))) 355 (34 * s + (fV S.1).length) k) := SR.sL sr (by decide)
      refine b_X12_assigns_59 320 _ _ _ ⟨by omega, sr_k s3, ?_⟩
      rw [show (1 : Int32) + nI (fV S.1).length = nI (1 + (fV S.1).length) from nI_add 1 _]
      refine mx_xKV (k_X12_sets s3 (by omega)) (Or.inl ⟨_, rfl, ?_⟩)
      have h9 : ¬ 20 ≤ (fV S.1).length := by omega
      simp only [if_neg h9]
      exact ⟨by trivial, r.vnew lt hv⟩
    · have : (fV S.1).length = 20 := (nI_eq (b := 20) (by omega) (by omega)).mp c
      refine Or.inl ⟨_, rfl, ?_⟩
      have h9 : 20 ≤ (fV S.1).length := by omega
      simp only [if_pos h9]
      exact ⟨by trivial, r⟩
end MXAS
