/-! THE PIPES: putIn, takeFrom, makePipe -/
section MXP2
variable {h h1 h2 : mxH} {a d : Nat} {w : spW} {qn qn' fi la ql c : Nat → Int32} {ln : Int32 → spL → Prop}
theorem CQ_nil {v : Int32} {l : List Nat} (h : CQ qn v l) (e : v < 0) : l = [] := by
  cases l with
  | nil => rfl
  | cons x l => exact absurd (h.1 ▸ e) (nI_pos (by have := h.2.1; omega))
theorem k_X0_putIn (hd : 1 ≤ d) (s : SC h) (b : CP ln (hpI h 135) (hpI h 136) (hpI h 137) (hpI h 138) (hpI h 139) w) (ha : a < (wU w).length) {v : Int32} {l : spL} (hv : ln v l) (room : totU w < 12040) :
    mx_SM mY_X0_putIn d [.ref 135, .int (nI a), .int v] h (fun r h1 => r = .inl (some (.int 1)) ∧ ExI pPI h h1 ∧ CP ln (hpI h1 135) (hpI h1 136) (hpI h1 137) (hpI h1 138) (hpI h1 139) (uU w ((wU w).set a ((wU w).getD a [] ++ [l])))) := by
  obtain ⟨Qs, fr, made, b⟩ := CPB.of b
  have la3 : (wU w).length ≤ 302 := b.2.1
  refine b_X0_putIn 135 (nI a) v ⟨hd, sc_k135 s, (k_X0_takeNode s b room).mono ?_⟩
  rintro r h1 ⟨q, c, fr', made', rfl, rfl, q1, b'⟩
  have x1 : ExI pPI h (hrI h 135 c) := ExI.rf.rI (by decide)
  have s1 := s.fp x1.fp
  obtain ⟨Ha, hHa⟩ : ∃ H, H = hrI h 135 c := ⟨_, rfl⟩
  have r6 : hpI Ha 136 = hpI h 136 := by rw [hHa]; rfl
  have r7 : hpI Ha 137 = hpI h 137 := by rw [hHa]; rfl
  have r8 : hpI Ha 138 = hpI h 138 := by rw [hHa]; rfl
  have r9 : hpI Ha 139 = hpI h 139 := by rw [hHa]; rfl
  have r5 : hpI Ha 135 = c := by rw [hHa]; rfl
  rw [← hHa] at s1 x1 ⊢
  refine Or.inl ⟨nI q, rfl, fun c => absurd c (nI_pos (by omega)), fun _ => ⟨fun c => absurd c (show ¬ nI 302 ≤ nI a from nI_ge (by omega) (by omega)), fun _ => ⟨fun c => absurd c (nI_pos (by omega)), fun _ => ⟨fun _ => ⟨sc_k135 s1, 138, sc_r135_4 s1, sc_k138 s1, by rw [sc_z138 s1]; exact vp_in_nI q1 (by omega), ?_⟩, fun c => absurd (show nI q < nI 12040 from nI_lt q1 (by omega)) c⟩⟩⟩⟩
  rw [nI_clamp (by omega), nI_clamp (by omega)]
  rintro _ rfl
  refine ⟨139, sc_r135_5 s1, sc_k139 s1, by show vp_in _ (hpZ Ha 139); rw [sc_z139 s1]; exact vp_in_nI q1 (by omega), ?_⟩
  rintro _ rfl
  refine ⟨137, sc_r135_2 s1, sc_k137 s1, by show vp_in _ (hpZ Ha 137); rw [sc_z137 s1]; exact vp_in_nI (by omega) (by omega), ?_⟩
  have x3 : ExI pPI h (hsI (hsI Ha 138 q v) 139 q (-1)) := (x1.I (by decide)).I (by decide)
  have s3 := s.fp x3.fp
  obtain ⟨Hb, hHb⟩ : ∃ H, H = hsI (hsI Ha 138 q v) 139 q (-1) := ⟨_, rfl⟩
  have t5 : hpI Hb 135 = c := by rw [hHb, ← r5]; rfl
  have t6 : hpI Hb 136 = hpI h 136 := by rw [hHb, ← r6]; rfl
  have t7 : hpI Hb 137 = hpI h 137 := by rw [hHb, ← r7]; rfl
  have t8 : hpI Hb 138 = fup (hpI h 138) q v := by rw [hHb, ← r8]; rfl
  have t9 : hpI Hb 139 = fup (hpI h 139) q (-1) := by rw [hHb, ← r9]; rfl
  rw [← hHb] at x3 s3 ⊢
  rw [t7]
  obtain ⟨a6, a6b, a6c, -⟩ := b'.2.2.2.2.2.1 a ha
  have bq := b'.2.2.2.2.2.2.2.2.2.2.2 q rfl
  rcases hl : (Qs a).getLast? with _ | x
  · have e0 : Qs a = [] := List.getLast?_eq_none_iff.mp hl
    rw [a6b e0]
    refine ⟨fun _ => b_X0_putIn_75 135 (nI a) (nI q) ⟨sc_k135 s3, 136, sc_r135_1 s3, sc_k136 s3, by rw [sc_z136 s3]; exact vp_in_nI (by omega) (by omega), ?_⟩, fun c => absurd (by decide) c⟩
    rw [nI_clamp (by omega)]
    rintro _ rfl
    refine ⟨137, sc_r135_2 s3, sc_k137 s3, by show vp_in _ (hpZ Hb 137); rw [sc_z137 s3]; exact vp_in_nI (by omega) (by omega), ?_⟩
    rintro _ rfl
    refine ⟨rfl, (x3.I (by decide)).I (by decide), ?_⟩
    show CP ln (hpI Hb 135) (fup (hpI Hb 136) a (nI q)) (fup (hpI Hb 137) a (nI q)) (hpI Hb 138) (hpI Hb 139) _
    rw [t5, t6, t7, t8, t9]
    refine b'.put ha hv ?_ (fun x hx => fup_n hx) (fun x _ hx => fup_n hx)
    rw [fup_e, e0]
    exact ⟨rfl, q1, by rw [fup_e]; rfl⟩
  · have lx : x < 12040 := CQ_lt a6 x (List.mem_of_getLast? hl)
    rw [a6c x hl]
    refine ⟨fun c => absurd c (nI_pos (by omega)), fun _ => ⟨fun c => absurd c (show ¬ nI 12040 ≤ nI x from nI_ge lx (by omega)), fun _ => ⟨139, sc_r135_5 s3, sc_k139 s3, by rw [sc_z139 s3]; exact vp_in_nI lx (by omega), ?_⟩⟩⟩
    rw [nI_clamp (by omega)]
    rintro _ rfl
    refine ⟨137, sc_r135_2 s3, sc_k137 s3, by show vp_in _ (hpZ Hb 137); rw [sc_z137 s3]; exact vp_in_nI (by omega) (by omega), ?_⟩
    rintro _ rfl
    refine ⟨rfl, (x3.I (by decide)).I (by decide), ?_⟩
    show CP ln (hpI Hb 135) (hpI Hb 136) (fup (hpI Hb 137) a (nI q)) (hpI Hb 138) (fup (hpI Hb 139) x (nI q)) _
    rw [t5, t6, t7, t8, t9]
    refine b'.put ha hv (CQ_snoc q1 hl (b'.2.2.2.2.2.2.1.2.1 a) (bq.2.1 a) a6) (fun x hx => rfl) (fun y y1 y2 => ?_)
    rw [fup_n (fun c => y1 (by rw [c]; exact List.mem_of_getLast? hl)), fup_n y2]
/-- the first line is taken out -/
theorem CPB.take {Qs : Nat → List Nat} {fr : List Nat} {made q a : Nat} {r : List Nat} {l : spL} {rs : List spL} {la' c' : Nat → Int32} (b : CPB ln c fi la ql qn w none Qs fr made) (ha : a < (wU w).length) (e1 : Qs a = q :: r) (e2 : (wU w).getD a [] = l :: rs)
    (h1 : r = [] → la' a = -1) (h2 : r ≠ [] → la' a = la a) (h3 : ∀ x, x ≠ a → la' x = la x) (h4 : ∀ j, j ≠ 7 → c' j = c j) (h5 : c' 7 = nI q) : CP ln c' (fup fi a (qn q)) la' ql (fup qn q (c 7)) (uU w ((wU w).set a rs)) ∧ ln (ql q) l := by
  obtain ⟨a1, a2, a3, a4, a5, a6, ⟨a7, a7b, a7c, a7d⟩, a8, a9, a10, a11, -⟩ := b
  simp only [Option.isSome_none, Bool.false_eq_true, if_false, Nat.add_zero] at a11
  have eL : ((wU w).set a rs).length = (wU w).length := List.length_set ..
  have eT := totU_set (w := w) (p := a) (x := rs) ha
  rw [e2, List.length_cons] at eT
  have qa : q ∈ Qs a := by rw [e1]; exact List.mem_cons_self
  have nd := a7b a
  rw [e1] at nd
  have nd := List.nodup_cons.mp nd
  obtain ⟨b1, b2, b3, b4, b5⟩ := a6 a ha
  have l1 : ln (ql q) l := by
    have := b5 0 (by rw [e1]; exact Nat.succ_pos _) (by rw [e2]; exact Nat.succ_pos _)
    simp only [e1, e2, List.getElem_cons_zero] at this
    exact this
  refine ⟨⟨fup Qs a r, q :: fr, made, by rw [h4 3 (by decide)]; show c 3 = nI ((wU w).set a rs).length; rw [eL]; exact a1, by show ((wU w).set a rs).length ≤ 302; rw [eL]; exact a2, by rw [h4 6 (by decide)]; exact a3, a4, ⟨h5, CQ_lt b1 q qa, ?_⟩, fun y hy => ?_, ⟨List.nodup_cons.mpr ⟨a7c a q qa, a7⟩, fun y => ?_, fun y x hx => ?_, fun y z x hyz hx => ?_⟩, fun y hy => ?_, fun x hx => ?_, fun y x hx => ?_, ?_⟩, l1⟩
  · rw [fup_e]
    exact CQ_congr (fun x hx => fup_n (fun c => a7c a q qa (by rw [← c]; exact hx))) a5
  · have hy' : y < (wU w).length := by rw [← eL]; exact hy
    show CQ (fup qn q (c 7)) (fup fi a (qn q) y) (fup Qs a r y) ∧ (fup Qs a r y = [] → la' y = -1) ∧ (∀ x, (fup Qs a r y).getLast? = some x → la' y = nI x) ∧ (fup Qs a r y).length = (((wU w).set a rs).getD y []).length ∧ ∀ k (h1 : k < (fup Qs a r y).length) (h2 : k < (((wU w).set a rs).getD y []).length), ln (ql (fup Qs a r y)[k]) (((wU w).set a rs).getD y [])[k]
    by_cases e : y = a
    · subst e
      have f1 : fup Qs y r y = r := fup_e
      have f2 : ((wU w).set y rs).getD y [] = rs := getD_set_self ha
      rw [f1, f2, fup_e]
      rw [e1] at b1 b4
      rw [e2] at b4
      refine ⟨CQ_congr (fun x hx => fup_n (fun c => nd.1 (by rw [← c]; exact hx))) b1.2.2, h1, fun x hx => ?_, by simp only [List.length_cons] at b4; omega, fun k k1 k2 => ?_⟩
      · have rn : r ≠ [] := fun c => by rw [c] at hx; exact nomatch hx
        rw [h2 rn]
        refine b3 x ?_
        rw [e1]
        cases r with
        | nil => exact absurd rfl rn
        | cons z r => exact hx
      · have := b5 (k + 1) (by rw [e1]; exact Nat.succ_lt_succ k1) (by rw [e2]; exact Nat.succ_lt_succ k2)
        simp only [e1, e2, List.getElem_cons_succ] at this
        exact this
    · obtain ⟨g1, g2, g3, g4, g5⟩ := a6 y hy'
      have f1 : fup Qs a r y = Qs y := fup_n e
      have f2 : ((wU w).set a rs).getD y [] = (wU w).getD y [] := getD_set_ne (fun c => e c.symm)
      rw [f2, f1, fup_n e, h3 y e]
      exact ⟨CQ_congr (fun x hx => fup_n (fun c => a7d y a x e hx (by rw [c]; exact qa))) g1, g2, g3, g4, g5⟩
  · by_cases e : y = a
    · rw [e, fup_e]; exact nd.2
    · rw [fup_n e]; exact a7b y
  · have hx' : x ∈ Qs y ∧ x ≠ q := by
      by_cases e : y = a
      · rw [e, fup_e] at hx
        rw [e, e1]
        exact ⟨List.mem_cons_of_mem _ hx, fun c => nd.1 (by rw [← c]; exact hx)⟩
      · rw [fup_n e] at hx
        exact ⟨hx, fun c => a7d y a x e hx (by rw [c]; exact qa)⟩
    intro c
    rcases List.mem_cons.mp c with c | c
    · exact hx'.2 c
    · exact a7c y x hx'.1 c
  · have sb : ∀ y x, x ∈ fup Qs a r y → x ∈ Qs y := fun y x hx => by
      by_cases e : y = a
      · rw [e, fup_e] at hx
        rw [e, e1]; exact List.mem_cons_of_mem _ hx
      · rw [fup_n e] at hx; exact hx
    exact fun c => a7d y z x hyz (sb y x hx) (sb z x c)
  · have hy' : (wU w).length ≤ y := by rw [← eL]; exact hy
    rw [fup_n (by omega)]; exact a8 y hy'
  · rcases List.mem_cons.mp hx with c | c
    · rw [c]; exact a10 a q qa
    · exact a9 x c
  · by_cases e : y = a
    · rw [e, fup_e] at hx
      exact a10 a x (by rw [e1]; exact List.mem_cons_of_mem _ hx)
    · rw [fup_n e] at hx; exact a10 y x hx
  · rw [List.length_cons]; omega
theorem k_X0_takeFrom_61 {q : Nat} (s : SC h) (hq : q < 12040) : mx_SX mY_X0_takeFrom d 61 [(0, .ref 135), (2, .int (nI q))] [] h (mx_xct (.inl (some (.int (hpI h 138 q)))) (hsI (hsI h 139 q (hpI h 135 7)) 135 7 (nI q))) := by
  refine b_X0_takeFrom_61 135 (nI q) ⟨sc_k135 s, 139, sc_r135_5 s, sc_k139 s, by rw [sc_z139 s]; exact vp_in_nI hq (by omega), ?_⟩
  rw [nI_clamp (by omega)]
  rintro _ rfl _ rfl
  exact ⟨138, sc_r135_4 s, sc_k138 s, by show vp_in _ (hpZ h 138); rw [sc_z138 s]; exact vp_in_nI hq (by omega), rfl, rfl⟩
theorem k_X0_takeFrom_no (s : SC h) (b : CP ln (hpI h 135) (hpI h 136) (hpI h 137) (hpI h 138) (hpI h 139) w) (ha : a < (wU w).length) (he : (wU w).getD a [] = []) : mx_SM mY_X0_takeFrom d [.ref 135, .int (nI a)] h (mx_xct (.inl (some (.int (-1)))) h) := by
  obtain ⟨Qs, fr, made, b⟩ := CPB.of b
  have la3 : (wU w).length ≤ 302 := b.2.1
  obtain ⟨a6, -, -, a6d, -⟩ := b.2.2.2.2.2.1 a ha
  have e0 : Qs a = [] := List.length_eq_zero_iff.mp (by rw [a6d, he]; rfl)
  rw [e0] at a6
  have a6 : hpI h 136 a = -1 := a6
  refine b_X0_takeFrom 135 (nI a) ⟨fun c => absurd c (nI_pos (by omega)), fun _ => ⟨fun _ => ⟨sc_k135 s, 136, sc_r135_1 s, sc_k136 s, by rw [sc_z136 s]; exact vp_in_nI (by omega) (by omega), ?_⟩, fun c => absurd (show nI a < nI 302 from nI_lt (by omega) (by omega)) c⟩⟩
  rw [nI_clamp (by omega), a6]
  exact ⟨fun _ => ⟨rfl, rfl⟩, fun c => absurd (by decide) c⟩
theorem k_X0_takeFrom (s : SC h) (b : CP ln (hpI h 135) (hpI h 136) (hpI h 137) (hpI h 138) (hpI h 139) w) (ha : a < (wU w).length) {l : spL} {rs : List spL} (he : (wU w).getD a [] = l :: rs) :
    mx_SM mY_X0_takeFrom d [.ref 135, .int (nI a)] h (fun r h1 => ∃ v, r = .inl (some (.int v)) ∧ ln v l ∧ ExI pPI h h1 ∧ CP ln (hpI h1 135) (hpI h1 136) (hpI h1 137) (hpI h1 138) (hpI h1 139) (uU w ((wU w).set a rs))) := by
  obtain ⟨Qs, fr, made, b⟩ := CPB.of b
  have la3 : (wU w).length ≤ 302 := b.2.1
  obtain ⟨a6, -, -, a6d, -⟩ := b.2.2.2.2.2.1 a ha
  rcases e1 : Qs a with _ | ⟨q, r⟩
  · rw [e1, he] at a6d; exact nomatch a6d
  · rw [e1] at a6
    obtain ⟨f1, q1, f2⟩ := a6
    have x0 : ExI pPI h h := ExI.rf
    refine b_X0_takeFrom 135 (nI a) ⟨fun c => absurd c (nI_pos (by omega)), fun _ => ⟨fun _ => ⟨sc_k135 s, 136, sc_r135_1 s, sc_k136 s, by rw [sc_z136 s]; exact vp_in_nI (by omega) (by omega), ?_⟩, fun c => absurd (show nI a < nI 302 from nI_lt (by omega) (by omega)) c⟩⟩
    rw [nI_clamp (by omega), f1, nI_clamp (by omega)]
    refine ⟨fun c => absurd c (nI_pos (by omega)), fun _ => ⟨fun _ => ⟨139, sc_r135_5 s, sc_k139 s, by rw [sc_z139 s]; exact vp_in_nI q1 (by omega), ?_⟩, fun c => absurd (show nI q < nI 12040 from nI_lt q1 (by omega)) c⟩⟩
    rintro _ rfl
    refine ⟨136, sc_r135_1 s, sc_k136 s, by show vp_in _ (hpZ h 136); rw [sc_z136 s]; exact vp_in_nI (by omega) (by omega), ?_⟩
    have e3 : hpI (hsI h 136 a (hpI h 139 q)) 136 a = hpI h 139 q := by rw [hpI_sI, if_pos rfl, if_pos rfl]
    rw [e3]
    have x1 : ExI pPI h (hsI h 136 a (hpI h 139 q)) := x0.I (by decide)
    cases r with
    | nil =>
      have f2 : hpI h 139 q = -1 := f2
      refine ⟨fun c => absurd c (by rw [f2]; decide), fun _ => ⟨137, sc_r135_2 s, sc_k137 s, by show vp_in _ (hpZ h 137); rw [sc_z137 s]; exact vp_in_nI (by omega) (by omega), ?_⟩⟩
      rintro _ rfl
      have x2 : ExI pPI h (hsI (hsI h 136 a (hpI h 139 q)) 137 a (-1)) := x1.I (by decide)
      refine (k_X0_takeFrom_61 (s.fp x2.fp) q1).mono ?_
      rintro _ _ ⟨rfl, rfl⟩
      have k := CPB.take (la' := fup (hpI h 137) a (-1)) (c' := fup (hpI h 135) 7 (nI q)) b ha e1 he (fun _ => fup_e) (fun c => absurd rfl c) (fun x hx => fup_n hx) (fun j hj => fup_n hj) fup_e
      exact ⟨_, rfl, k.2, (x2.I (by decide)).I (by decide), k.1⟩
    | cons y r =>
      refine ⟨fun _ => ?_, fun c => absurd (by rw [f2.1]; exact nI_pos' (by have := f2.2.1; omega)) c⟩
      refine (k_X0_takeFrom_61 (s.fp x1.fp) q1).mono ?_
      rintro _ _ ⟨rfl, rfl⟩
      have k := CPB.take (la' := hpI h 137) (c' := fup (hpI h 135) 7 (nI q)) b ha e1 he (fun c => nomatch c) (fun _ => rfl) (fun x hx => rfl) (fun j hj => fup_n hj) fup_e
      exact ⟨_, rfl, k.2, (x1.I (by decide)).I (by decide), k.1⟩
end MXP2
