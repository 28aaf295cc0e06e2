/-! THE REFERENCE'S PIPES: addsTo, pipe -/
section MXPM
variable {d : Nat} {h0 h : mxH} {w : spW} {G : List spE} {V : List (Option (Option Nat))} {P : List spX} {n m xs : Nat} {Q : mxRes → mxH → Prop}
theorem getD_set_self {α : Type} {l : List α} {i : Nat} {x d : α} (h : i < l.length) : (l.set i x).getD i d = x := by
  rw [List.getD_eq_getElem?_getD, List.getElem?_set_self h]; rfl
theorem getD_set_ne {α : Type} {l : List α} {i j : Nat} {x d : α} (h : i ≠ j) : (l.set i x).getD j d = l.getD j d := by
  rw [List.getD_eq_getElem?_getD, List.getElem?_set_ne h, ← List.getD_eq_getElem?_getD]
theorem k_X12_addsTo {X : List (Int32 × spL)} {Y Z : List (Int32 × Nat)} (r : RG h0 h w G V P (X, Y, Z) n m xs) {b p : Nat} {v : Int32} {l : spL} (hz : (nI b, p) ∈ Z) (hx : (v, l) ∈ X) (htot : totU w < 13000) :
    mx_SM mY_X12_addsTo d [.ref 320, .int (nI b), .int v] h (mx_KV (fun h1 => RG h0 h1 (uU w ((wU w).set p ((wU w).getD p [] ++ [l]))) G V P (X, Y, Z) n m xs) fun _ _ => False) := by
  obtain ⟨A, B, Qs, fr, sr, hw, ht, ho, ⟨frr, c1, c2, c3, c4, c5, c6, c7, c8, c9⟩, he, hv, hk, ⟨Lr, l1, l2, l3, l4, l5, l6⟩, hd, hzz, hN1, hN2, hN3⟩ := r
  obtain ⟨b', b1, b2⟩ := hN3 _ hz
  obtain ⟨y1, y2, y3, y4, y5⟩ := c6 p b' b2
  have e0 : nI b = nI b' := b1
  rw [e0]
  have fne : frr ≠ [] := fr_ne (w := w) c5 (fun a b hb => ⟨(c6 a b hb).1, (c6 a b hb).2.2.2.1⟩) c8 (fun b hb hi => (c2 b hb).2.2.2 hi) c9 htot
  obtain ⟨q, fr', rfl⟩ : ∃ q fr', frr = q :: fr' := by
    cases frr with
    | nil => exact absurd rfl fne
    | cons q fr' => exact ⟨q, fr', rfl⟩
  have hla : hpI h 348 b' = -1 ∨ ∃ x, hpI h 348 b' = nI x ∧ x < 13000 := by
    cases e : (Qs b').getLast? with
    | none => exact Or.inl ((c2 b' y2).2.1 (List.getLast?_eq_none_iff.mp e))
    | some x =>
      refine Or.inr ⟨x, (c2 b' y2).2.2.1 x e, ?_⟩
      have : ∀ (l : List Nat) (v : Int32), RQ (hpI h 351) v l → x ∈ l → x < 13000 := fun l => by
        induction l with
        | nil => intro v _ h; cases h
        | cons y l ih =>
          intro v r h
          rcases List.mem_cons.mp h with rfl | h
          · exact r.2.1
          · exact ih _ r.2.2 h
      exact this _ _ (c2 b' y2).1 (List.mem_of_getLast? e)
  refine (k_X12_addsTo_raw sr y2 c1.1 c1.2.1 hla).mono fun r1 h1 e => ?_
  obtain ⟨rfl, rfl⟩ := e
  obtain ⟨d1, d2, d3, d4, d5⟩ := RPs.add ⟨c1, c2, c3, c4, c5⟩ y2 y3
  have nq : ∀ c, q ∉ Qs c := fun c hm => c4.2.2.1 c q hm List.mem_cons_self
  have ne : ∀ c x, x ∈ Qs c → x ≠ q := fun c x hm e => nq c (by rw [← e]; exact hm)
  refine Or.inl ⟨rfl, A, B, fup Qs b' (Qs b' ++ [q]), adF_Fr fr, adF_SR sr, ?_⟩
  simp (disch := decide) only [adF_I, adF_F, adF_L, adF_RLn, adF_66, adF_347, adF_348, adF_350, adF_351]
  refine ⟨hw, ht, ho, ⟨fr', d1, d2, d3, d4, d5, fun a c hc => ?_, c7, c8, c9⟩, he, hv, hk, ⟨Lr, l1, l2, l3, fun c hc x hx' => ?_, l5, l6⟩, hd, hzz, hN1, hN2, hN3⟩
  · obtain ⟨z1, z2, z3, z4, z5⟩ := c6 a c hc
    refine ⟨by show a < ((wU w).set p _).length; rw [List.length_set]; exact z1, z2, z3, ?_⟩
    by_cases ec : c = b'
    · subst ec
      have ea : a = p := c7 _ _ _ hc b2
      subst ea
      have g1 : (wU (uU w ((wU w).set a ((wU w).getD a [] ++ [l])))).getD a [] = (wU w).getD a [] ++ [l] := getD_set_self z1
      rw [fup_e, g1]
      refine ⟨by rw [List.length_append, List.length_append, z4]; rfl, fun k h1 h2 => ?_⟩
      by_cases ck : k < (Qs c).length
      · rw [List.getElem_append_left ck, List.getElem_append_left (by omega), fup_n (ne c _ (List.getElem_mem ck))]
        exact z5 k ck (by omega)
      · have ek : k = (Qs c).length := by rw [List.length_append] at h1; simp at h1; omega
        subst ek
        rw [List.getElem_append_right (Nat.le_refl _), List.getElem_append_right (by omega)]
        simp only [Nat.sub_self, List.getElem_cons_zero, z4, fup_e]
        exact hN1 _ hx
    · have ea : p ≠ a := fun e => ec (by rw [← e] at hc; rw [b2] at hc; exact ((Option.some.injEq _ _).mp hc).symm)
      have g1 : (wU (uU w ((wU w).set p ((wU w).getD p [] ++ [l])))).getD a [] = (wU w).getD a [] := getD_set_ne ea
      rw [fup_n ec, g1]
      refine ⟨z4, fun k h1 h2 => ?_⟩
      rw [fup_n (ne c _ (List.getElem_mem h1))]
      exact z5 k h1 h2
  · by_cases ec : c = b'
    · subst ec; rw [fup_e] at hx'
      rcases List.mem_append.mp hx' with g | g
      · rw [fup_n (ne c _ g)]; exact l4 c hc x g
      · rw [List.mem_singleton.mp g, fup_e]; exact l6 _ hx
    · rw [fup_n ec] at hx'; rw [fup_n (ne c _ hx')]; exact l4 c hc x hx'
/-- a number that is not among the images of the numbers below m: fewer than n of them -/
theorem pig_ip {n : Nat} {B : Nat → Option Nat} {ip : Nat → Int32} {k : Nat} (hk : k < n) (h1 : ∀ b, b < n → ip b = 0 ∨ ip b = 1) (h2 : ∀ b, b < n → ip b = 1 → ∃ a, B a = some b ∧ a < k) (h3 : ∀ a c b, B a = some b → B c = some b → a = c) : ∃ b, b < n ∧ ip b = 0 := by
  obtain ⟨b, b1, b2⟩ := out_of n ((List.range k).map fun a => (B a).getD n) (by rw [List.length_map, List.length_range]; exact hk)
  refine ⟨b, b1, ?_⟩
  rcases h1 b b1 with g | g
  · exact g
  · obtain ⟨a, a1, a2⟩ := h2 b b1 g
    exact absurd (List.mem_map.mpr ⟨a, List.mem_range.mpr a2, by rw [a1]; rfl⟩) b2
theorem pp_2 (s : SR h) {b : Nat} (hb : b < 400) (hi : hpI h 349 b = 0) (K : ∀ q, q < 400 → hpI h 349 q = 0 → Q (.inl (some (.int (nI q)))) (hsI (hsI (hsI h 349 q 1) 347 q (-1)) 348 q (-1))) : ∀ m p, p + m = b → mx_SX mY_X12_pipe d 2 [(0, .ref 320), (1, .int (nI p))] [] h Q := by
  have go : ∀ p, p < 400 → (hpI h 349 p ≠ 0 → mx_SX mY_X12_pipe d 2 [(0, .ref 320), (1, .int (nI (p + 1)))] [] h Q) → mx_SX mY_X12_pipe d 2 [(0, .ref 320), (1, .int (nI p))] [] h Q := fun p hp nx => by
    refine b_X12_pipe_2 320 _ ⟨sr_k s, 349, sr_r63 s, sr_k349 s, by rw [sr_z349 s]; exact vp_in_nI hp (by omega), fun c => ?_, fun c => ?_⟩
    · rw [nI_clamp (by omega)] at c ⊢
      rintro _ rfl
      refine ⟨347, sr_r61 s, sr_k347 s, by show vp_in _ (hpZ h 347); rw [sr_z347 s]; exact vp_in_nI hp (by omega), ?_⟩
      rintro _ rfl
      refine ⟨348, sr_r62 s, sr_k348 s, by show vp_in _ (hpZ h 348); rw [sr_z348 s]; exact vp_in_nI hp (by omega), ?_⟩
      rintro _ rfl
      exact K p hp c
    · rw [nI_clamp (by omega)] at c
      rw [nI_1]; exact nx c
  intro m
  induction m with
  | zero =>
    intro p hp
    have e : p = b := by omega
    subst e
    exact go p hb fun c => absurd hi c
  | succ m ih => intro p hp; exact go p (by omega) fun _ => ih (p + 1) (by omega)
theorem k_X12_pipe {X : List (Int32 × spL)} {Y Z : List (Int32 × Nat)} (r : RG h0 h w G V P (X, Y, Z) n m xs) (hl : (wU w).length < 400) :
    mx_SM mY_X12_pipe d [.ref 320] h (mx_KI (fun v h1 => RG h0 h1 (uU w (wU w ++ [[]])) G V P (X, Y, (v, (wU w).length) :: Z) n m xs) fun _ _ => False) := by
  obtain ⟨A, B, Qs, fr, sr, hw, ht, ⟨ho1, ho2⟩, ⟨frr, c1, c2, c3, c4, c5, c6, c7, c8, c9⟩, he, hv, hk, hc, hd, hzz, hN1, hN2, hN3⟩ := r
  obtain ⟨b, b1, b2⟩ := pig_ip (n := 400) (k := (wU w).length) hl c8 (fun b hb hi => by
    obtain ⟨a, ha⟩ := c9 b hb hi
    exact ⟨a, ha, (c6 a b ha).1⟩) c7
  refine b_X12_pipe 320 ?_
  rw [← nI_0]
  refine pp_2 sr b1 b2 (fun q hq hi => ?_) b 0 (by omega)
  have hB : ∀ a c, B a = some c → a ≠ (wU w).length ∧ c ≠ q := fun a c hc => ⟨fun e => by have := (c6 a c hc).1; omega, fun e => by have := (c6 a c hc).2.2.1; rw [e, hi] at this; cases this⟩
  have qe : Qs q = [] := (c2 q hq).2.2.2 hi
  have gB : ∀ a c, (if a = (wU w).length then some q else B a) = some c → (a = (wU w).length ∧ c = q) ∨ (a ≠ (wU w).length ∧ B a = some c) := fun a c h => by
    by_cases e : a = (wU w).length
    · rw [if_pos e] at h; exact Or.inl ⟨e, ((Option.some.injEq _ _).mp h).symm⟩
    · rw [if_neg e] at h; exact Or.inr ⟨e, h⟩
  have I : ∀ a, a ≠ 349 → a ≠ 347 → a ≠ 348 → hpI (hsI (hsI (hsI h 349 q 1) 347 q (-1)) 348 q (-1)) a = hpI h a := fun a h1 h2 h3 => by rw [hpI_sIo h3, hpI_sIo h2, hpI_sIo h1]
  refine Or.inl ⟨_, rfl, A, fun a => if a = (wU w).length then some q else B a, Qs, ((fr.rI (a := 349) rfl).rI (a := 347) rfl).rI rfl, sr, ?_⟩
  rw [I 342 (by decide) (by decide) (by decide), I 356 (by decide) (by decide) (by decide), I 344 (by decide) (by decide) (by decide), I 345 (by decide) (by decide) (by decide), I 346 (by decide) (by decide) (by decide), I 350 (by decide) (by decide) (by decide), I 351 (by decide) (by decide) (by decide), I 354 (by decide) (by decide) (by decide), I 352 (by decide) (by decide) (by decide), I 361 (by decide) (by decide) (by decide), I 320 (by decide) (by decide) (by decide)]
  have r349 : hpI (hsI (hsI (hsI h 349 q 1) 347 q (-1)) 348 q (-1)) 349 = fup (hpI h 349) q 1 := by rw [hpI_sIo (by decide), hpI_sIo (by decide), hpI_sIs]
  have r347 : hpI (hsI (hsI (hsI h 349 q 1) 347 q (-1)) 348 q (-1)) 347 = fup (hpI h 347) q (-1) := by rw [hpI_sIo (by decide), hpI_sIs, hpI_sIo (by decide)]
  have r348 : hpI (hsI (hsI (hsI h 349 q 1) 347 q (-1)) 348 q (-1)) 348 = fup (hpI h 348) q (-1) := by rw [hpI_sIs, hpI_sIo (by decide), hpI_sIo (by decide)]
  rw [r349, r347, r348]
  refine ⟨hw, ht, ⟨fun i a e => ?_, ho2⟩, ⟨frr, c1, fun c hc => ?_, c3, c4, c5, fun a c hc => ?_, fun a e c q1 q2 => ?_, fun c hc => ?_, fun c hc hi' => ?_⟩, he, hv, hk, hc, hd, hzz, hN1, hN2, fun z hz => ?_⟩
  · obtain ⟨x1, qq, x2, x3, x4, x5, x6, x7, x8, x9⟩ := ho1 i a e
    refine ⟨x1, qq, x2, x3, x4, x5, x6, x7, x8, fun c => ?_⟩
    obtain ⟨b3, b4, b5⟩ := x9 c
    exact ⟨b3, (if_neg (hB _ _ b4).1).trans b4, b5⟩
  · by_cases e : c = q
    · subst e
      rw [fup_e, fup_e, fup_e, qe]
      exact ⟨rfl, fun _ => rfl, nofun, nofun⟩
    · rw [fup_n e, fup_n e, fup_n e]; exact c2 c hc
  · have ll : (wU (uU w (wU w ++ [[]]))).length = (wU w).length + 1 := by show (wU w ++ [[]]).length = _; simp
    rcases gB a c hc with ⟨rfl, rfl⟩ | ⟨q1, q2⟩
    · refine ⟨by rw [ll]; omega, hq, fup_e, ?_⟩
      have g1 : (wU (uU w (wU w ++ [[]]))).getD (wU w).length [] = [] := by
        show (wU w ++ [[]]).getD (wU w).length [] = []
        simp
      rw [qe, g1]
      exact ⟨rfl, fun k h1 _ => absurd h1 (Nat.not_lt_zero _)⟩
    · obtain ⟨z1, z2, z3, z4, z5⟩ := c6 a c q2
      refine ⟨by rw [ll]; omega, z2, by rw [fup_n (hB a c q2).2]; exact z3, ?_⟩
      have g1 : (wU (uU w (wU w ++ [[]]))).getD a [] = (wU w).getD a [] := by
        show (wU w ++ [[]]).getD a [] = _
        rw [List.getD_eq_getElem?_getD, List.getElem?_append_left z1, ← List.getD_eq_getElem?_getD]
      rw [g1]
      exact ⟨z4, z5⟩
  · rcases gB a c q1 with ⟨rfl, rfl⟩ | ⟨g1, g2⟩
    · rcases gB e c q2 with ⟨rfl, -⟩ | ⟨g1, g2⟩
      · rfl
      · exact absurd rfl (hB e c g2).2
    · rcases gB e c q2 with ⟨rfl, rfl⟩ | ⟨g3, g4⟩
      · exact absurd rfl (hB a c g2).2
      · exact c7 a e c g2 g4
  · by_cases e : c = q
    · rw [e, fup_e]; exact Or.inr rfl
    · rw [fup_n e]; exact c8 c hc
  · by_cases e : c = q
    · exact ⟨(wU w).length, by rw [e]; exact if_pos rfl⟩
    · rw [fup_n e] at hi'
      obtain ⟨a, ha⟩ := c9 c hc hi'
      exact ⟨a, (if_neg (hB a c ha).1).trans ha⟩
  · rcases List.mem_cons.mp hz with rfl | hz
    · exact ⟨q, rfl, if_pos rfl⟩
    · obtain ⟨c, q1, q2⟩ := hN3 z hz
      exact ⟨c, q1, (if_neg (hB _ _ q2).1).trans q2⟩
end MXPM
