/-! A new pipe; a free line -/
section MXLN
variable {h h1 h2 : mxH} {a d : Nat} {w : spW} {ln : Int32 → spL → Prop}
theorem gd_app {α : Type} {l : List α} {i : Nat} {x d : α} : (l ++ [x]).getD i d = if i = l.length then x else l.getD i d := by
  by_cases e : i = l.length
  · rw [if_pos e, e, List.getD_eq_getElem?_getD, List.getElem?_append_right (Nat.le_refl _), Nat.sub_self]; rfl
  · rw [if_neg e]
    rcases Nat.lt_or_ge i l.length with g | g
    · rw [List.getD_eq_getElem?_getD, List.getElem?_append_left g, List.getD_eq_getElem?_getD]
    · rw [gd_out (by rw [List.length_append, List.length_singleton]; omega), gd_out g]
theorem totU_new : totU (uU w (wU w ++ [[]])) = totU w := by
  show (((wU w) ++ [[]]).map fun l : List spL => l.length).sum = _
  rw [List.map_append, List.sum_append]
  rfl
theorem k_X0_makePipe (s : SC h) (b : CP ln (hpI h 135) (hpI h 136) (hpI h 137) (hpI h 138) (hpI h 139) w) (room : (wU w).length < 302) :
    mx_SM mY_X0_makePipe d [.ref 135] h (fun r h1 => r = .inl (some (.int (nI (wU w).length))) ∧ ExI pPI h h1 ∧ CP ln (hpI h1 135) (hpI h1 136) (hpI h1 137) (hpI h1 138) (hpI h1 139) (uU w (wU w ++ [[]]))) := by
  obtain ⟨Qs, fr, made, a1, a2, a3, a4, a5, a6, a7, a8, a9, a10, a11⟩ := b
  refine b_X0_makePipe 135 ⟨sc_k135 s, ?_⟩
  rw [a1]
  refine ⟨fun c => absurd c (nI_pos (by omega)), fun _ => ⟨fun _ => ⟨136, sc_r135_1 s, sc_k136 s, by rw [sc_z136 s]; exact vp_in_nI room (by omega), ?_⟩, fun c => absurd (show nI (wU w).length < nI 302 from nI_lt room (by omega)) c⟩⟩
  rw [nI_clamp (by omega)]
  rintro _ rfl
  refine ⟨137, sc_r135_2 s, sc_k137 s, by show vp_in _ (hpZ h 137); rw [sc_z137 s]; exact vp_in_nI room (by omega), ?_⟩
  rintro _ rfl _ rfl
  have e3 : hpI (hsI (hsI h 136 (wU w).length (-1)) 137 (wU w).length (-1)) 135 3 = nI (wU w).length := by
    rw [hpI_sIn (by decide), hpI_sIn (by decide)]; exact a1
  rw [e3, nI_1]
  refine ⟨rfl, ((ExI.rf.I (by decide)).I (by decide)).I (by decide), ?_⟩
  show CP ln (fup (hpI h 135) 3 (nI ((wU w).length + 1))) (fup (hpI h 136) (wU w).length (-1)) (fup (hpI h 137) (wU w).length (-1)) (hpI h 138) (hpI h 139) _
  have eL : (wU w ++ [[]]).length = (wU w).length + 1 := by rw [List.length_append]; rfl
  refine ⟨Qs, fr, made, by rw [fup_e]; show _ = nI (wU w ++ [[]]).length; rw [eL], by show (wU w ++ [[]]).length ≤ 302; rw [eL]; omega, by rw [fup_n (by decide)]; exact a3, a4, by rw [fup_n (by decide)]; exact a5, fun y hy => ?_, a7, fun y hy => a8 y (by have : (wU w ++ [[]]).length ≤ y := hy; omega), a9, a10, by rw [totU_new]; exact a11⟩
  have hy' : y < (wU w).length + 1 := by rw [← eL]; exact hy
  show CQ (hpI h 139) (fup (hpI h 136) (wU w).length (-1) y) (Qs y) ∧ (Qs y = [] → fup (hpI h 137) (wU w).length (-1) y = -1) ∧ (∀ x, (Qs y).getLast? = some x → fup (hpI h 137) (wU w).length (-1) y = nI x) ∧ (Qs y).length = ((wU w ++ [[]]).getD y []).length ∧ ∀ k (h1 : k < (Qs y).length) (h2 : k < ((wU w ++ [[]]).getD y []).length), ln (hpI h 138 (Qs y)[k]) ((wU w ++ [[]]).getD y [])[k]
  by_cases e : y = (wU w).length
  · have e0 : Qs y = [] := a8 y (Nat.le_of_eq e.symm)
    have f2 : (wU w ++ [[]]).getD y [] = [] := by rw [gd_app, if_pos e]
    rw [f2, e0, e, fup_e, fup_e]
    exact ⟨rfl, fun _ => rfl, fun x hx => (nomatch hx), rfl, fun k k1 => absurd k1 (Nat.not_lt_zero _)⟩
  · have f2 : (wU w ++ [[]]).getD y [] = (wU w).getD y [] := by rw [gd_app, if_neg e]
    rw [f2, fup_n e, fup_n e]
    exact a6 y (by omega)
/-- no more things than places -/
theorem nd_le {α : Type} [BEq α] [LawfulBEq α] : ∀ {l m : List α}, l.Nodup → (∀ x, x ∈ l → x ∈ m) → l.length ≤ m.length
  | [], _, _, _ => Nat.zero_le _
  | x :: l, m, nd, hs => by
    have n := List.nodup_cons.mp nd
    have xm := hs x List.mem_cons_self
    have := nd_le (l := l) (m := m.erase x) n.2 (fun y hy => (List.mem_erase_of_ne (fun c => n.1 (by rw [← c]; exact hy))).mpr (hs y (List.mem_cons_of_mem _ hy)))
    rw [List.length_erase_of_mem xm] at this
    have : 0 < m.length := List.length_pos_of_mem xm
    rw [List.length_cons]; omega
theorem CU.free {n : Nat} (c : CU h n) (hn : n < 3199) : ∃ i j, hpI h 131 3 = nI i ∧ 1 ≤ i ∧ i ≤ j ∧ j < 3200 ∧ hpI h 134 j = 0 ∧ ∀ k, i ≤ k → k < j → hpI h 134 k = 1 := by
  obtain ⟨-, i, h1, h2, h3, h4, -, h6, l, hl, h7⟩ := c
  have ex : ∃ j, j < 3200 ∧ 1 ≤ j ∧ hpI h 134 j = 0 := Classical.byContradiction fun no => by
    have sub : ∀ x, x ∈ List.range' 1 3199 → x ∈ l := fun x hx => by
      have := List.mem_range'_1.mp hx
      refine h7 x (by omega) (by omega) ((h6 x (by omega)).resolve_left fun e => no ⟨x, by omega, by omega, e⟩)
    have := nd_le List.nodup_range' sub
    rw [List.length_range'] at this
    omega
  obtain ⟨j, j1, j2, j3⟩ := ex
  have key : ∀ m j, j < m → i ≤ j → j < 3200 → hpI h 134 j = 0 → ∃ j', i ≤ j' ∧ j' < 3200 ∧ hpI h 134 j' = 0 ∧ ∀ k, i ≤ k → k < j' → hpI h 134 k = 1 := by
    intro m
    induction m with
    | zero => intro j c; omega
    | succ m ih =>
      intro j c1 c2 c3 c4
      by_cases e : ∃ k, i ≤ k ∧ k < j ∧ hpI h 134 k = 0
      · obtain ⟨k, k1, k2, k3⟩ := e
        exact ih k (by omega) k1 (by omega) k3
      · exact ⟨j, c2, c3, c4, fun k k1 k2 => (h6 k (by omega)).resolve_left fun e' => e ⟨k, k1, k2, e'⟩⟩
  have ij : i ≤ j := by
    rcases Nat.lt_or_ge j i with g | g
    · have := h4 j j2 g
      rw [j3] at this
      exact absurd this (by decide)
    · exact g
  obtain ⟨j', q1, q2, q3, q4⟩ := key (j + 1) j (Nat.lt_succ_self _) ij j1 j3
  exact ⟨i, j', h1, h2, q1, q2, q3, q4⟩
theorem k_X3_make_41 {x st : Nat} {kp : Int32} {Q : mxRes → mxH → Prop} {j : Nat} (hj : j < 3200) : ∀ m i (h : mxH), i + m = j → SC h → hpI h 131 3 = nI i → hpI h 134 j = 0 → (∀ k, i ≤ k → k < j → hpI h 134 k = 1) →
    mx_SX mY_X3_make d 76 [(0, .ref 131), (1, .ref x), (2, .int (nI st)), (4, .int kp)] [] (hrI h 131 (fup (hpI h 131) 3 (nI j))) Q → mx_SX mY_X3_make d 41 [(0, .ref 131), (1, .ref x), (2, .int (nI st)), (4, .int kp)] [] h Q := by
  intro m
  induction m with
  | zero =>
    intro i h e s h3 hu hb K
    obtain rfl : i = j := by omega
    refine b_X3_make_41 131 x (nI st) kp ⟨sc_k131 s, ?_⟩
    rw [h3]
    refine ⟨fun c => absurd c (show ¬ nI 3200 ≤ nI i from nI_ge hj (by omega)), fun _ => ⟨134, sc_r131_2 s, sc_k134 s, by rw [sc_z134 s]; exact vp_in_nI hj (by omega), ?_⟩⟩
    rw [nI_clamp (by omega), hu]
    refine ⟨fun _ => ?_, fun c => absurd rfl c⟩
    have e2 : fup (hpI h 131) 3 (nI i) = hpI h 131 := by
      funext k
      by_cases c : k = 3
      · rw [c, fup_e, h3]
      · rw [fup_n c]
    rw [e2, hrI_self] at K
    exact K
  | succ m ih =>
    intro i h e s h3 hu hb K
    refine b_X3_make_41 131 x (nI st) kp ⟨sc_k131 s, ?_⟩
    rw [h3]
    refine ⟨fun c => absurd c (show ¬ nI 3200 ≤ nI i from nI_ge (by omega) (by omega)), fun _ => ⟨134, sc_r131_2 s, sc_k134 s, by rw [sc_z134 s]; exact vp_in_nI (by omega) (by omega), ?_⟩⟩
    rw [nI_clamp (by omega), hb i (Nat.le_refl _) (by omega)]
    refine ⟨fun c => absurd c (by decide), fun _ => ?_⟩
    rintro _ rfl
    rw [nI_1]
    have r4 : hpI (hsI h 131 3 (nI (i + 1))) 134 = hpI h 134 := rfl
    refine ih (i + 1) _ (by omega) (s.fp FP.rf.I) (by rw [hpI_sI, if_pos rfl, if_pos rfl]) (by rw [r4]; exact hu) (fun k k1 k2 => by rw [r4]; exact hb k (by omega) k2) ?_
    rw [show hpI (hsI h 131 3 (nI (i + 1))) 131 = fup (hpI h 131) 3 (nI (i + 1)) from rfl, fup_fup, show hrI (hsI h 131 3 (nI (i + 1))) 131 (fup (hpI h 131) 3 (nI j)) = hrI h 131 (fup (hpI h 131) 3 (nI j)) from hrI_hrI]
    exact K
end MXLN
