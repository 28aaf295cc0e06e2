/-! A variable's cells; Commands.assign -/
section MXAS
variable {h h1 h2 : mxH} {d x g c n : Nat} {l : spL} {D : pmC} {F F1 : spF} {nc na : Nat} {fa fd : Nat → Nat} {ln ln' : Int32 → spL → Prop}
theorem CF.cg (cf : CF D ln h x F) (eI : ∀ i, (i = 0 ∨ i = 1 ∨ i = 3 ∨ i = 4 ∨ i = 6) → hpI h1 (x + i) = hpI h (x + i)) (eL : ∀ i, (i = 2 ∨ i = 5 ∨ i = 7) → hpL h1 (x + i) = hpL h (x + i)) (m : ∀ v l, ln v l → ln' v l) : CF D ln' h1 x F := by
  obtain ⟨⟨v1, v2, v3⟩, u, r⟩ := cf
  have e0 : hpI h1 x = hpI h x := eI 0 (Or.inl rfl)
  unfold CF
  rw [e0, eI 1 (by omega), eI 3 (by omega), eI 4 (by omega), eI 6 (by omega), eL 2 (by omega), eL 5 (by omega), eL 7 (by omega)]
  exact ⟨⟨v1, v2, fun k hk => ⟨(v3 k hk).1, m _ _ (v3 k hk).2⟩⟩, u, r⟩
/-- a variable gets a line -/
theorem CF.put {k : Int64} {v : Int32} (cf : CF D ln h x F) (hv : ln v l) (e : asgn F k l = some F1) : CF D ln (tb_put h (x + 1) (x + 2) (x + 3) (fV F).length k v) x F1 ∧ ((fV F).length < 20 ∨ 0 ≤ mx_ix (hpL h (x + 2)) k (fV F).length 0) := by
  obtain ⟨⟨v1, v2, v3⟩, u, r⟩ := cf
  have ei := ix_tbF (f := hpL h (x + 2)) (k := k) (l := fV F) (fun j hj => (v3 j hj).1)
  unfold asgn at e
  rcases ej : tbF (fV F) k with _ | j
  · rw [ej] at e ei
    have e : (if 20 ≤ (fV F).length then none else some (vV F (tbP (fV F) k l))) = some F1 := e
    by_cases c : 20 ≤ (fV F).length
    · rw [if_pos c] at e; exact nomatch e
    · rw [if_neg c] at e
      obtain rfl := Option.some.inj e
      refine ⟨?_, Or.inl (by omega)⟩
      have et : tbP (fV F) k l = fV F ++ [(k, l)] := by unfold tbP; rw [ej]
      rw [tb_put, ei, et]
      rw [if_neg (show ¬ (0 : Int32) ≤ ixI none from by decide)]
      have f1 : hpI (hsI (hsI (hsL h (x + 2) (fV F).length k) (x + 1) 2 (nI ((fV F).length + 1))) (x + 3) (fV F).length v) (x + 1) 2 = nI ((fV F).length + 1) := by rw [hpI_sIn (by omega), hpI_sI, if_pos rfl, if_pos rfl]
      have f2 : hpL (hsI (hsI (hsL h (x + 2) (fV F).length k) (x + 1) 2 (nI ((fV F).length + 1))) (x + 3) (fV F).length v) (x + 2) = fup (hpL h (x + 2)) (fV F).length k := by
        show (if x + 2 = x + 2 then fup (hpL h (x + 2)) (fV F).length k else _) = _
        rw [if_pos rfl]
      have f3 : hpI (hsI (hsI (hsL h (x + 2) (fV F).length k) (x + 1) 2 (nI ((fV F).length + 1))) (x + 3) (fV F).length v) (x + 3) = fup (hpI h (x + 3)) (fV F).length v := by
        rw [hpI_sIe]
        congr 1
        funext j
        rw [hpI_sIn (by omega)]; rfl
      have fo : ∀ a, a ≠ x + 1 → a ≠ x + 3 → hpI (hsI (hsI (hsL h (x + 2) (fV F).length k) (x + 1) 2 (nI ((fV F).length + 1))) (x + 3) (fV F).length v) a = hpI h a := fun a h1 h2 => by
        funext j
        rw [hpI_sIn h2, hpI_sIn h1]; rfl
      have fl : ∀ a, a ≠ x + 2 → hpL (hsI (hsI (hsL h (x + 2) (fV F).length k) (x + 1) 2 (nI ((fV F).length + 1))) (x + 3) (fV F).length v) a = hpL h a := fun a h1 => by
        show (if a = x + 2 then fup (hpL h (x + 2)) (fV F).length k else hpL h a) = _
        rw [if_neg h1]
      generalize hsI (hsI (hsL h (x + 2) (fV F).length k) (x + 1) 2 (nI ((fV F).length + 1))) (x + 3) (fV F).length v = H at f1 f2 f3 fo fl ⊢
      have eL : (fV F ++ [(k, l)]).length = (fV F).length + 1 := by rw [List.length_append]; rfl
      unfold CF
      rw [fo x (by omega) (by omega), fo (x + 4) (by omega) (by omega), fo (x + 6) (by omega) (by omega), fl (x + 5) (by omega), fl (x + 7) (by omega), f2, f3]
      refine ⟨⟨by rw [f1]; show _ = nI (fV F ++ [(k, l)]).length; rw [eL], by show (fV F ++ [(k, l)]).length ≤ 20; rw [eL]; omega, fun j hj => ?_⟩, u, r⟩
      have hj' : j < (fV F ++ [(k, l)]).length := hj
      show _ = (fV F ++ [(k, l)])[j].1 ∧ ln _ (fV F ++ [(k, l)])[j].2
      by_cases q : j < (fV F).length
      · rw [List.getElem_append_left q, fup_n (by omega), fup_n (by omega)]
        exact v3 j q
      · have qe : j = (fV F).length := by rw [eL] at hj'; omega
        subst qe
        rw [List.getElem_append_right (Nat.le_refl _), fup_e, fup_e]
        simp only [Nat.sub_self, List.getElem_cons_zero]
        exact ⟨trivial, hv⟩
  · rw [ej] at e ei
    have e : some (vV F (tbP (fV F) k l)) = some F1 := e
    obtain rfl := Option.some.inj e
    obtain ⟨jl, jk⟩ := tbF_at ej
    have ei : mx_ix (hpL h (x + 2)) k (fV F).length 0 = nI j := ei
    have p0 : (0 : Int32) ≤ nI j := nI_pos' (by omega)
    refine ⟨?_, Or.inr (by rw [ei]; exact p0)⟩
    have et : tbP (fV F) k l = (fV F).set j (k, l) := by unfold tbP; rw [ej]
    rw [tb_put, ei, et]
    rw [if_pos p0, nI_clamp (by omega)]
    have f3 : hpI (hsI h (x + 3) j v) (x + 3) = fup (hpI h (x + 3)) j v := hpI_sIe
    have fo : ∀ a, a ≠ x + 3 → hpI (hsI h (x + 3) j v) a = hpI h a := fun a h2 => by
      funext j
      rw [hpI_sIn h2]
    have fl : hpL (hsI h (x + 3) j v) = hpL h := rfl
    generalize hsI h (x + 3) j v = H at f3 fo fl ⊢
    have eL : ((fV F).set j (k, l)).length = (fV F).length := List.length_set ..
    unfold CF
    rw [fo x (by omega), fo (x + 1) (by omega), fo (x + 4) (by omega), fo (x + 6) (by omega), fl, f3]
    refine ⟨⟨by rw [v1]; show _ = nI ((fV F).set j (k, l)).length; rw [eL], by show ((fV F).set j (k, l)).length ≤ 20; rw [eL]; exact v2, fun i hi => ?_⟩, u, r⟩
    have hi' : i < ((fV F).set j (k, l)).length := hi
    have hil : i < (fV F).length := by rw [← eL]; exact hi'
    show _ = ((fV F).set j (k, l))[i].1 ∧ ln _ ((fV F).set j (k, l))[i].2
    rw [List.getElem_set]
    by_cases q : j = i
    · subst q
      rw [if_pos rfl, fup_e]
      exact ⟨(v3 j jl).1.trans jk, hv⟩
    · rw [if_neg q, fup_n (fun c => q c.symm)]
      exact v3 i hil
/-- no place for one more variable -/
theorem asgn_no {ln : Int32 → spL → Prop} {k : Int64} (cf : CF D ln h x F) (e : asgn F k l = none) : (fV F).length = 20 ∧ mx_ix (hpL h (x + 2)) k (fV F).length 0 = -1 := by
  obtain ⟨⟨v1, v2, v3⟩, u, r⟩ := cf
  have ei := ix_tbF (f := hpL h (x + 2)) (k := k) (l := fV F) (fun j hj => (v3 j hj).1)
  unfold asgn at e
  rcases ej : tbF (fV F) k with _ | j
  · rw [ej] at e ei
    have e : (if 20 ≤ (fV F).length then none else some (vV F (tbP (fV F) k l))) = none := e
    by_cases c : 20 ≤ (fV F).length
    · exact ⟨by omega, ei⟩
    · rw [if_neg c] at e; exact nomatch e
  · rw [ej] at e
    have e : some (vV F (tbP (fV F) k l)) = none := e
    exact nomatch e
end MXAS
