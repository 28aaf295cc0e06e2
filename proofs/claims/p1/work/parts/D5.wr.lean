/-! Commands.writeLine -/
section MXWR
variable {h h1 h2 : mxH} {d x s W : Nat} {w w' : spW} {A : Nat → Option Nat} {oh : Option Nat} {l : spL} {v : Int32} {ln : Int32 → spL → Prop}
theorem putAt_n {ls : List spL} {p : Nat} : (putAt ls p l).length = if p < ls.length then ls.length else p + 1 := by
  unfold putAt
  split
  · exact List.length_set ..
  · rw [List.length_append, List.length_append, List.length_replicate, List.length_singleton]; omega
theorem putAt_g {ls : List spL} {p k : Nat} (hk : k < (putAt ls p l).length) : (putAt ls p l)[k] = if k = p then l else if hk : k < ls.length then ls[k] else [] := by
  have hl := hk
  rw [putAt_n] at hl
  by_cases c : p < ls.length
  · have e : putAt ls p l = ls.set p l := by unfold putAt; rw [if_pos c]
    rw [if_pos c] at hl
    simp only [e, List.getElem_set, dif_pos hl]
    by_cases q : p = k
    · rw [if_pos q, if_pos q.symm]
    · rw [if_neg q, if_neg (fun c => q c.symm)]
  · have e : putAt ls p l = ls ++ List.replicate (p - ls.length) [] ++ [l] := by unfold putAt; rw [if_neg c]
    rw [if_neg c] at hl
    simp only [e]
    by_cases q : k = p
    · subst q
      rw [if_pos rfl, List.getElem_append_right (by rw [List.length_append, List.length_replicate]; omega)]
      simp
    · rw [if_neg q, List.getElem_append_left (by rw [List.length_append, List.length_replicate]; omega)]
      by_cases g : k < ls.length
      · rw [dif_pos g, List.getElem_append_left g]
      · rw [dif_neg g, List.getElem_append_right (by omega), List.getElem_replicate]
theorem putAt_R {ls : List spL} {f : Nat → Int32} {j p : Nat} (r : RLs ln f (40 * j) ls) (hv : ln v l) (h0 : ln 0 []) : RLs ln (fup (padF f j ls.length p) (40 * j + p) v) (40 * j) (putAt ls p l) := by
  intro k hk
  have hl := hk
  rw [putAt_n] at hl
  rw [putAt_g hk]
  by_cases q : k = p
  · rw [if_pos q, q, fup_e]; exact hv
  · rw [if_neg q, fup_n (by omega)]
    by_cases g : k < ls.length
    · rw [dif_pos g]
      unfold padF
      rw [if_neg (by omega)]
      exact r k g
    · rw [dif_neg g]
      have np : ¬ p < ls.length := fun c => by rw [if_pos c] at hl; exact g hl
      unfold padF
      rw [if_neg np] at hl
      rw [if_pos (by omega)]
      exact h0
theorem k_X10_putLine_no {j p : Nat} (hj : j < 8) (hp : 40 ≤ p) (hp2 : p < 2 ^ 31) : mx_SM mY_X10_putLine d [.ref W, .int (nI j), .int (nI p), .int v] h (mx_xct (.inl (some (.int 0))) h) :=
  b_X10_putLine W (nI j) (nI p) v ⟨fun c => absurd c (nI_pos (by omega)), fun _ => ⟨fun c => absurd c (show ¬ nI 8 ≤ nI j from nI_ge (by omega) (by omega)), fun _ => ⟨fun c => absurd c (nI_pos (by omega)), fun _ => ⟨fun c => absurd c (fun c => absurd ((nI_ltI (b := 40) hp2 (by omega)).mp c) (by omega)), fun _ => ⟨rfl, rfl⟩⟩⟩⟩⟩
/-- a line is put into a file -/
theorem WC.put {j p : Nat} (c : WC h A s w) (hj : j < (wF w).length) (hp : p < 40) (hv : CLn h v l) (h0 : CLn h 0 []) : WC (wo_put h 140 j (lnsOf w j).length p v) A s (setF w j (putAt (lnsOf w j) p l)) ∧ FrR A h (wo_put h 140 j (lnsOf w j).length p v) ∧ hpI h 142 j = nI (lnsOf w j).length ∧ (lnsOf w j).length ≤ 40 ∧ ∀ o k, A o ≠ none → hpI (wo_put h 140 j (lnsOf w j).length p v) o k = hpI h o k := by
  obtain ⟨c1, c2, c3, c4⟩ := c
  obtain ⟨-, f8, fl⟩ := c2.1
  obtain ⟨-, n1, n2, n3⟩ := fl j hj
  have el : lnsOf w j = (wF w)[j].2 := by show ((wF w).getD j (0, [])).2 = _; rw [gd_at hj]
  rw [el]
  have ex : ExI (pRD A) h (wo_put h 140 j (wF w)[j].2.length p v) := by
    unfold wo_put
    exact (ExI.rf.rI (Or.inr (Or.inl (by decide)))).rI (Or.inr (Or.inl (by decide)))
  have e2 : hpI (wo_put h 140 j (wF w)[j].2.length p v) 142 = if p < (wF w)[j].2.length then hpI h 142 else fup (hpI h 142) j (nI (p + 1)) := by
    unfold wo_put; exact hpI_rIs
  have e3 : hpI (wo_put h 140 j (wF w)[j].2.length p v) 143 = fup (padF (hpI h 143) j (wF w)[j].2.length p) (40 * j + p) v := by
    unfold wo_put
    rw [hpI_rI, if_neg (by decide)]
    exact hpI_rIs
  have eo : ∀ b, b ≠ 142 → b ≠ 143 → hpI (wo_put h 140 j (wF w)[j].2.length p v) b = hpI h b := fun b h1 h2 => by
    unfold wo_put
    rw [hpI_rI, if_neg h1, hpI_rI, if_neg h2]
  have ea : ∀ o k, A o ≠ none → hpI (wo_put h 140 j (wF w)[j].2.length p v) o k = hpI h o k := fun o k ho => by
    rw [eo o (c4.far ho (sc_ne5 c1 (by decide))) (c4.far ho (sc_ne5 c1 (by decide)))]
  have eL : hpL (wo_put h 140 j (wF w)[j].2.length p v) = hpL h := rfl
  have eK : hpK (wo_put h 140 j (wF w)[j].2.length p v) = hpK h := rfl
  have eN : hpN (wo_put h 140 j (wF w)[j].2.length p v) = hpN h := rfl
  have pl := putAt_n (ls := (wF w)[j].2) (p := p) (l := l)
  generalize wo_put h 140 j (wF w)[j].2.length p v = H at ex e2 e3 eo ea eL eK eN ⊢
  refine ⟨⟨c1.fp ex.fp, ?_, CPh_cg (w := setF w j _) c3 (fun b hb => eo b (by omega) (by omega)), c4.cg eN eK ea rfl ?_ (Nat.le_refl _)⟩, ⟨ex, fun o k ho _ => ea o k ho⟩, n1, n2, ea⟩
  · show CW (CLn H) (hpI H 140) (hpI H 142) (hpI H 143) (hpI H 144) (hpI H 145) (hpI H 159) (hpL H 141) s _
    rw [CLn_cg (h := h) (fun b h1 h2 => eo b (by omega) (by omega)), eo 140 (by decide) (by decide), eo 144 (by decide) (by decide), eo 145 (by decide) (by decide), eo 159 (by decide) (by decide), eL]
    refine c2.stf hj ?_ ?_ ?_ (fun i hi => ?_) (fun k hk => ?_)
    · rw [e2, pl]
      by_cases q : p < (wF w)[j].2.length
      · rw [if_pos q, if_pos q]; exact n1
      · rw [if_neg q, if_neg q, fup_e]
    · rw [pl]; split <;> omega
    · rw [e3]; exact putAt_R n3 hv h0
    · rw [e2]
      split
      · rfl
      · rw [fup_n hi]
    · rw [e3, fup_n (by omega)]
      unfold padF
      rw [if_neg (by omega)]
  · show (wF w).length ≤ ((wF w).set j _).length
    rw [List.length_set]; exact Nat.le_refl _
end MXWR
