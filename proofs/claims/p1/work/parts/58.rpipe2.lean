/-! THE REFERENCE'S PIPES: making, taking, adding, closing -/
section MXPJ
variable {d : Nat} {h0 h : mxH} {w : spW} {G : List spE} {V : List (Option (Option Nat))} {P : List spX} {n m xs : Nat} {Q : mxRes → mxH → Prop}
def RPs (fi la ip qn : Nat → Int32) (qf : Int32) (Qs : Nat → List Nat) (fr : List Nat) : Prop := RQ qn qf fr ∧
    (∀ b, b < 400 → RQ qn (fi b) (Qs b) ∧ (Qs b = [] → la b = -1) ∧ (∀ x, (Qs b).getLast? = some x → la b = nI x) ∧ (ip b = 0 → Qs b = [])) ∧
    (∀ b, 400 ≤ b → Qs b = []) ∧ (fr.Nodup ∧ (∀ b, (Qs b).Nodup) ∧ (∀ b x, x ∈ Qs b → x ∉ fr) ∧ ∀ b c x, b ≠ c → x ∈ Qs b → x ∉ Qs c) ∧
    (∀ x, x < 13000 → x ∈ fr ∨ ∃ b, b < 400 ∧ x ∈ Qs b)
variable {fi la ip qn : Nat → Int32} {qf : Int32} {Qs : Nat → List Nat} {fr : List Nat}
theorem RPs.take {b q : Nat} {l : List Nat} (r : RPs fi la ip qn qf Qs fr) (hb : b < 400) (hq : Qs b = q :: l) :
    RPs (fup fi b (qn q)) (if qn q = -1 then fup la b (-1) else la) ip (fup qn q qf) (nI q) (fup Qs b l) (q :: fr) := by
  obtain ⟨c1, c2, c3, ⟨n1, n2, n3, n4⟩, c5⟩ := r
  have hqm : q ∈ Qs b := by rw [hq]; exact List.mem_cons_self
  have nb := n2 b
  rw [hq] at nb
  obtain ⟨nb1, nb2⟩ := List.nodup_cons.mp nb
  have rb := (c2 b hb).1
  rw [hq] at rb
  obtain ⟨-, rb2, rb3⟩ := rb
  have sub : ∀ c x, x ∈ fup Qs b l c → x ∈ Qs c ∧ x ≠ q := fun c x hx => by
    by_cases e : c = b
    · subst e; rw [fup_e] at hx
      exact ⟨by rw [hq]; exact List.mem_cons_of_mem _ hx, fun e => nb1 (e ▸ hx)⟩
    · rw [fup_n e] at hx
      exact ⟨hx, fun e2 => n4 c b x e hx (by rw [e2]; exact hqm)⟩
  refine ⟨⟨rfl, rb2, ?_⟩, fun c hc => ?_, fun c hc => ?_, ⟨List.nodup_cons.mpr ⟨n3 b q hqm, n1⟩, fun c => ?_, fun c x hx hm => ?_, fun c e x hne hx hx2 => ?_⟩, fun x hx => ?_⟩
  · rw [fup_e]; exact RQ.up (n3 b q hqm) c1
  · by_cases e : c = b
    · subst e
      rw [fup_e, fup_e]
      refine ⟨RQ.up nb1 rb3, fun e => ?_, fun x hx => ?_, fun e => ?_⟩
      · subst e
        have : qn q = -1 := rb3
        rw [if_pos this, fup_e]
      · have hl : l ≠ [] := fun e => by rw [e] at hx; cases hx
        have : qn q ≠ -1 := fun e => by
          cases l with
          | nil => exact hl rfl
          | cons y l => obtain ⟨z1, z2, -⟩ := rb3; rw [z1] at e; exact (nI_neg1 (by omega)).mp e
        rw [if_neg this]
        refine (c2 c hb).2.2.1 x ?_
        rw [hq, ← hx]
        cases l with
        | nil => exact absurd rfl hl
        | cons y l => simp [List.getLast?_cons_cons]
      · have := (c2 c hb).2.2.2 e
        rw [hq] at this; cases this
    · rw [fup_n e, fup_n e]
      obtain ⟨z1, z2, z3, z4⟩ := c2 c hc
      have la' : (if qn q = -1 then fup la b (-1) else la) c = la c := by
        split
        · exact fup_n e
        · rfl
      rw [la']
      exact ⟨RQ.up (fun hm => n4 c b q e hm hqm) z1, z2, z3, z4⟩
  · rw [fup_n (by omega)]; exact c3 c hc
  · by_cases e : c = b
    · subst e; rw [fup_e]; exact nb2
    · rw [fup_n e]; exact n2 c
  · rcases List.mem_cons.mp hm with e | hm
    · exact (sub c x hx).2 e
    · exact n3 c x (sub c x hx).1 hm
  · exact n4 c e x hne (sub c x hx).1 (sub e x hx2).1
  · by_cases e : x = q
    · exact Or.inl (e ▸ List.mem_cons_self)
    · rcases c5 x hx with g | ⟨c, g1, g2⟩
      · exact Or.inl (List.mem_cons_of_mem _ g)
      · refine Or.inr ⟨c, g1, ?_⟩
        by_cases ec : c = b
        · subst ec; rw [fup_e]; rw [hq] at g2
          exact (List.mem_cons.mp g2).resolve_left e
        · rw [fup_n ec]; exact g2
/-- takesFirst: the rows behind it -/
def tkF (h : mxH) (b q : Nat) : mxH :=
  let h1 := hsI h 347 b (hpI h 351 q)
  let h2 := if hpI h 351 q = -1 then hsI h1 348 b (-1) else h1
  hsI (hsI h2 351 q (hpI h 320 66)) 320 66 (nI q)
theorem k_X12_takesFirst_raw (s : SR h) {b q : Nat} (hb : b < 400) (hq : hpI h 347 b = nI q) (hq2 : q < 13000) : mx_SM mY_X12_takesFirst d [.ref 320, .int (nI b)] h (mx_xct (.inl (some (.int (hpI h 350 q)))) (tkF h b q)) := by
  refine b_X12_takesFirst 320 _ ⟨sr_k s, 347, sr_r61 s, sr_k347 s, ?_⟩
  rw [nI_clamp (n := b) (by omega), hq, nI_clamp (n := q) (by omega)]
  refine ⟨by rw [sr_z347 s]; exact vp_in_nI hb (by omega), 351, sr_r65 s, sr_k351 s, by rw [sr_z351 s]; exact vp_in_nI hq2 (by omega), ?_⟩
  have tail : ∀ g : mxH, SR g → hpI g 320 66 = hpI h 320 66 → hpI g 350 = hpI h 350 → mx_SX mY_X12_takesFirst d 36 [(0, .ref 320), (2, .int (nI q))] [] g (mx_xct (.inl (some (.int (hpI h 350 q)))) (hsI (hsI g 351 q (hpI h 320 66)) 320 66 (nI q))) := fun g sg e1 e2 => by
    refine b_X12_takesFirst_36 320 _ ⟨sr_k sg, 351, sr_r65 sg, sr_k351 sg, by rw [sr_z351 sg]; exact vp_in_nI hq2 (by omega), ?_⟩
    rw [nI_clamp (n := q) (by omega), e1]
    rintro _ rfl _ rfl
    refine ⟨350, sr_r64 sg, sr_k350 sg, by show vp_in _ (hpZ g 350); rw [sr_z350 sg]; exact vp_in_nI hq2 (by omega), ?_, rfl⟩
    rw [hpI_sIo (by decide), hpI_sIo (by decide), e2]
  rintro _ rfl
  refine ⟨347, sr_r61 s, sr_k347 s, by show vp_in _ (hpZ h 347); rw [sr_z347 s]; exact vp_in_nI hb (by omega), ?_⟩
  rw [hpI_sIs, fup_e]
  refine ⟨fun c => ?_, fun c => ⟨348, sr_r62 s, sr_k348 s, by show vp_in _ (hpZ h 348); rw [sr_z348 s]; exact vp_in_nI hb (by omega), ?_⟩⟩
  · have := tail (hsI h 347 b (hpI h 351 q)) s (by rw [hpI_sIo (by decide)]) (by rw [hpI_sIo (by decide)])
    rw [tkF, if_neg c]; exact this
  · rintro _ rfl
    have := tail (hsI (hsI h 347 b (hpI h 351 q)) 348 b (-1)) s (by rw [hpI_sIo (by decide), hpI_sIo (by decide)]) (by rw [hpI_sIo (by decide), hpI_sIo (by decide)])
    rw [tkF, if_pos c]; exact this
section
variable {b q : Nat}
theorem tkF_I {a : Nat} (h1 : a ≠ 347) (h2 : a ≠ 348) (h3 : a ≠ 351) (h4 : a ≠ 320) : hpI (tkF h b q) a = hpI h a := by
  unfold tkF
  dsimp only
  rw [hpI_sIo h4, hpI_sIo h3]
  split
  · rw [hpI_sIo h2, hpI_sIo h1]
  · rw [hpI_sIo h1]
theorem tkF_347 : hpI (tkF h b q) 347 = fup (hpI h 347) b (hpI h 351 q) := by
  unfold tkF
  dsimp only
  rw [hpI_sIo (by decide), hpI_sIo (by decide)]
  split
  · rw [hpI_sIo (by decide), hpI_sIs]
  · rw [hpI_sIs]
theorem tkF_348 : hpI (tkF h b q) 348 = if hpI h 351 q = -1 then fup (hpI h 348) b (-1) else hpI h 348 := by
  unfold tkF
  dsimp only
  rw [hpI_sIo (by decide), hpI_sIo (by decide)]
  split
  · rw [hpI_sIs, hpI_sIo (by decide)]
  · rw [hpI_sIo (by decide)]
theorem tkF_351 : hpI (tkF h b q) 351 = fup (hpI h 351) q (hpI h 320 66) := by
  unfold tkF
  dsimp only
  rw [hpI_sIo (by decide), hpI_sIs]
  split
  · rw [hpI_sIo (by decide), hpI_sIo (by decide)]
  · rw [hpI_sIo (by decide)]
theorem tkF_66 : hpI (tkF h b q) 320 66 = nI q := by
  unfold tkF
  dsimp only
  rw [hpI_sIs, fup_e]
theorem tkF_F {k : Nat} (hk : k ≠ 66) : hpI (tkF h b q) 320 k = hpI h 320 k := by
  unfold tkF
  dsimp only
  rw [hpI_sIs, fup_n hk, hpI_sIo (by decide)]
  split
  · rw [hpI_sIo (by decide), hpI_sIo (by decide)]
  · rw [hpI_sIo (by decide)]
theorem tkF_SR (s : SR h) : SR (tkF h b q) := by
  unfold tkF
  dsimp only
  split <;> exact s
theorem tkF_L : hpL (tkF h b q) = hpL h := by
  unfold tkF
  dsimp only
  split <;> rfl
theorem tkF_RLn : RLn (tkF h b q) = RLn h := by
  show RLr (hpI (tkF h b q) 339) (hpI (tkF h b q) 340) (hpI (tkF h b q) 341) = _
  rw [tkF_I (by decide) (by decide) (by decide) (by decide), tkF_I (by decide) (by decide) (by decide) (by decide), tkF_I (by decide) (by decide) (by decide) (by decide)]
theorem tkF_Fr (r : Fr h0 h) : Fr h0 (tkF h b q) := by
  unfold tkF
  dsimp only
  split
  · exact (((r.rI (a := 347) rfl).rI (a := 348) rfl).rI (a := 351) rfl).sF (k := 66) rfl
  · exact ((r.rI (a := 347) rfl).rI (a := 351) rfl).sF (k := 66) rfl
end
theorem RPs.tk {b q : Nat} {l : List Nat} (r : RPs (hpI h 347) (hpI h 348) (hpI h 349) (hpI h 351) (hpI h 320 66) Qs fr) (hb : b < 400) (hq : Qs b = q :: l) :
    RPs (hpI (tkF h b q) 347) (hpI (tkF h b q) 348) (hpI (tkF h b q) 349) (hpI (tkF h b q) 351) (hpI (tkF h b q) 320 66) (fup Qs b l) (q :: fr) := by
  rw [tkF_347, tkF_348, tkF_I (a := 349) (by decide) (by decide) (by decide) (by decide), tkF_351, tkF_66]
  exact r.take hb hq
/-- takesFirst -/
theorem k_X12_takesFirst {X : List (Int32 × spL)} {Y Z : List (Int32 × Nat)} (r : RG h0 h w G V P (X, Y, Z) n m xs) {b p : Nat} (hz : (nI b, p) ∈ Z) {l : spL} {ls : List spL} (hl : (wU w).getD p [] = l :: ls) :
    mx_SM mY_X12_takesFirst d [.ref 320, .int (nI b)] h (mx_KI (fun v h1 => RG h0 h1 (uU w ((wU w).set p ls)) G V P ((v, l) :: X, Y, Z) n m xs) fun _ _ => False) := by
  obtain ⟨A, B, Qs, fr, sr, hw, ht, ho, ⟨frr, c1, c2, c3, c4, c5, c6, c7, c8, c9⟩, he, hv, hk, ⟨Lr, l1, l2, l3, l4, l5, l6⟩, hd, hzz, hN1, hN2, hN3⟩ := r
  obtain ⟨b', b1, b2⟩ := hN3 _ hz
  obtain ⟨y1, y2, y3, y4, y5⟩ := c6 p b' b2
  have bb : b = b' ∨ ¬ b < 2 ^ 31 := by
    by_cases g : b < 2 ^ 31
    · exact Or.inl ((nI_eq g (by omega)).mp b1)
    · exact Or.inr g
  have e0 : nI b = nI b' := b1
  rw [e0]
  rw [hl] at y4
  obtain ⟨q, lq, hq⟩ : ∃ q lq, Qs b' = q :: lq := by
    cases e : Qs b' with
    | nil => rw [e] at y4; cases y4
    | cons q lq => exact ⟨q, lq, rfl⟩
  have rq := (c2 b' y2).1
  rw [hq] at rq
  obtain ⟨rq1, rq2, rq3⟩ := rq
  refine (k_X12_takesFirst_raw sr y2 rq1 rq2).mono fun r1 h1 e => ?_
  obtain ⟨rfl, rfl⟩ := e
  have rp := RPs.tk (h := h) ⟨c1, c2, c3, c4, c5⟩ y2 hq
  obtain ⟨d1, d2, d3, d4, d5⟩ := rp
  have hp0 : ((wU w).getD p [])[0]? = some l := by rw [hl]; rfl
  have hln : RLn h (hpI h 350 q) l := by
    have := y5 0 (by rw [hq]; exact Nat.succ_pos _) (by rw [hl]; exact Nat.succ_pos _)
    simp only [hq, hl, List.getElem_cons_zero] at this
    exact this
  refine Or.inl ⟨_, rfl, A, B, fup Qs b' lq, tkF_Fr fr, tkF_SR sr, ?_⟩
  simp (disch := decide) only [tkF_I, tkF_F, tkF_L, tkF_RLn]
  rw [tkF_I (a := 349) (by decide) (by decide) (by decide) (by decide)] at d2
  refine ⟨hw, ht, ho, ⟨q :: frr, d1, d2, d3, d4, d5, fun a c hc => ?_, c7, c8, c9⟩, he, hv, hk, ⟨Lr, l1, l2, l3, fun c hc x hx => ?_, l5, fun z hz => ?_⟩, hd, hzz, fun z hz => ?_, hN2, hN3⟩
  · obtain ⟨z1, z2, z3, z4, z5⟩ := c6 a c hc
    have sl : (wU (uU w ((wU w).set p ls))).length = (wU w).length := List.length_set
    refine ⟨by rw [sl]; exact z1, z2, z3, ?_⟩
    by_cases ec : c = b'
    · subst ec
      have ea : a = p := c7 _ _ _ hc b2
      subst ea
      have g1 : (wU (uU w ((wU w).set a ls))).getD a [] = ls := by
        show ((wU w).set a ls).getD a [] = ls
        rw [List.getD_eq_getElem?_getD, List.getElem?_set_self z1]; rfl
      rw [fup_e, g1]
      rw [hq] at y4
      refine ⟨by simpa using y4, fun k h1 h2 => ?_⟩
      have := y5 (k + 1) (by rw [hq]; simpa using h1) (by rw [hl]; simpa using h2)
      simp only [hq, hl, List.getElem_cons_succ] at this
      exact this
    · have ea : p ≠ a := fun e => ec (by rw [← e] at hc; rw [b2] at hc; exact ((Option.some.injEq _ _).mp hc).symm)
      have g1 : (wU (uU w ((wU w).set p ls))).getD a [] = (wU w).getD a [] := by
        show ((wU w).set p ls).getD a [] = _
        rw [List.getD_eq_getElem?_getD, List.getElem?_set_ne ea, ← List.getD_eq_getElem?_getD]
      rw [fup_n ec, g1]
      exact ⟨z4, z5⟩
  · by_cases ec : c = b'
    · subst ec; rw [fup_e] at hx; exact l4 c hc x (by rw [hq]; exact List.mem_cons_of_mem _ hx)
    · rw [fup_n ec] at hx; exact l4 c hc x hx
  · rcases List.mem_cons.mp hz with rfl | hz
    · exact l4 b' y2 q (by rw [hq]; exact List.mem_cons_self)
    · exact l6 z hz
  · rcases List.mem_cons.mp hz with rfl | hz
    · exact hln
    · exact hN1 z hz
end MXPJ
