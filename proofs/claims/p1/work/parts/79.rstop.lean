/-! THE REFERENCE: kept handles, a shell's end, the stop -/
section MXSV
variable {d : Nat} {h0 h h1 h2 : mxH} {w w1 : spW} {G : List spE} {V : List (Option (Option Nat))} {P : List spX} {N : spN} {n m m' xs : Nat} {Q : mxRes → mxH → Prop} {X : List (Int32 × spL)} {Y Z : List (Int32 × Nat)} {s : Nat} {S : spS} {js : List Nat}
/-- a handle is kept -/
theorem RG.vpush (r : RG h0 h w G V P N n m xs) {v : Int32} {x : Option Nat} (hx : ∀ A, RE (RLn h) A (hpI h 354) (hpL h 355) G → (∀ q ∈ N.2.1, RHv A q.1 (some q.2)) → RHv A v x)
    (hc : ∀ L : Int32 → Prop, (∀ s', s' < 1000 → s' ≠ xs → hpI h 354 (83 * s' + 82) = 1 → ∀ k, k < 10 → L (hpI h 354 (83 * s' + 36 + k))) → (∀ q ∈ N.2.1, L q.1) → L v) :
    RG h0 (hsI (hsI h 352 V.length v) 320 69 (nI (V.length + 1))) w G (V ++ [some x]) P N n m xs := by
  obtain ⟨A, B, Qs, fr, sr, hw, ht, ho, hp, he, hv, hk, hcc, ⟨Lo, l1, l2, l3, l4⟩, hz, hN⟩ := r
  have I : ∀ a, a ≠ 352 → a ≠ 320 → hpI (hsI (hsI h 352 V.length v) 320 69 (nI (V.length + 1))) a = hpI h a := fun a h1 h2 => by rw [hpI_sIo h2, hpI_sIo h1]
  have I3 : ∀ k, k ≠ 69 → hpI (hsI (hsI h 352 V.length v) 320 69 (nI (V.length + 1))) 320 k = hpI h 320 k := fun k hk => by rw [hpI_sIs, fup_n hk, hpI_sIo (by decide)]
  have e52 : hpI (hsI (hsI h 352 V.length v) 320 69 (nI (V.length + 1))) 352 = fup (hpI h 352) V.length v := by rw [hpI_sIo (by decide), hpI_sIs]
  have e69 : hpI (hsI (hsI h 352 V.length v) 320 69 (nI (V.length + 1))) 320 69 = nI (V.length + 1) := by rw [hpI_sIs, fup_e]
  have hv' := hx A he hN.2.1
  refine ⟨A, B, Qs, (fr.rI (a := 352) rfl).sF rfl, sr, ?_⟩
  rw [show RLn (hsI (hsI h 352 V.length v) 320 69 (nI (V.length + 1))) = RLn h by show RLr _ _ _ = _; rw [I 339 (by decide) (by decide), I 340 (by decide) (by decide), I 341 (by decide) (by decide)], I 342 (by decide) (by decide), I 356 (by decide) (by decide), I 344 (by decide) (by decide), I 345 (by decide) (by decide), I 346 (by decide) (by decide), I 347 (by decide) (by decide), I 348 (by decide) (by decide), I 349 (by decide) (by decide), I 350 (by decide) (by decide), I 351 (by decide) (by decide), I 354 (by decide) (by decide), I 361 (by decide) (by decide), I3 66 (by decide), I3 82 (by decide), I3 55 (by decide), I3 67 (by decide), e52, e69]
  refine ⟨hw, ht, ho, hp, he, ⟨?_, fun k hk => ?_⟩, hk, hcc, ⟨Lo, l1, l2, fun k hk => ?_, l4⟩, hz, hN⟩
  · rw [List.length_append]; rfl
  · rw [List.length_append, List.length_singleton] at hk
    by_cases c : k < V.length
    · rw [List.getElem_append_left c, fup_n (by omega)]; exact hv.2 k c
    · have e : k = V.length := by omega
      subst e
      rw [List.getElem_append_right (Nat.le_refl _), fup_e]
      simp only [Nat.sub_self, List.getElem_cons_zero]
      exact hv'
  · rw [List.length_append, List.length_singleton] at hk
    by_cases c : k = V.length
    · rw [c, fup_e]; exact hc _ l2 l4
    · rw [fup_n c]; exact l3 k (by omega)
/-- the kept handles behind V are given up -/
theorem RG.vdrop {W : List (Option (Option Nat))} (r : RG h0 h w G (V ++ W) P N n m xs) : RG h0 (hsI h 320 69 (nI V.length)) w G V P N n m xs := by
  obtain ⟨A, B, Qs, fr, sr, hw, ht, ho, hp, he, hv, hk, hcc, ⟨Lo, l1, l2, l3, l4⟩, hz, hN⟩ := r
  have I : ∀ a, a ≠ 320 → hpI (hsI h 320 69 (nI V.length)) a = hpI h a := fun a h1 => by rw [hpI_sIo h1]
  have I3 : ∀ k, k ≠ 69 → hpI (hsI h 320 69 (nI V.length)) 320 k = hpI h 320 k := fun k hk => by rw [hpI_sIs, fup_n hk]
  have e69 : hpI (hsI h 320 69 (nI V.length)) 320 69 = nI V.length := by rw [hpI_sIs, fup_e]
  refine ⟨A, B, Qs, fr.sF rfl, sr, ?_⟩
  rw [show RLn (hsI h 320 69 (nI V.length)) = RLn h by show RLr _ _ _ = _; rw [I 339 (by decide), I 340 (by decide), I 341 (by decide)], I 342 (by decide), I 356 (by decide), I 344 (by decide), I 345 (by decide), I 346 (by decide), I 347 (by decide), I 348 (by decide), I 349 (by decide), I 350 (by decide), I 351 (by decide), I 354 (by decide), I 352 (by decide), I 361 (by decide), I3 66 (by decide), I3 82 (by decide), I3 55 (by decide), I3 67 (by decide), e69]
  rw [List.length_append] at l3
  refine ⟨hw, ht, ho, hp, he, ⟨rfl, fun k hk => ?_⟩, hk, hcc, ⟨Lo, l1, l2, fun k hk => l3 k (by omega), l4⟩, hz, hN⟩
  have := hv.2 k (by rw [List.length_append]; omega)
  rw [List.getElem_append_left hk] at this
  exact this
/-- a shell that has no jobs left ends -/
theorem RG.dead {q : Nat} {E : spS} {jq : List Nat} (r : RG h0 h w ((q, E, jq) :: G) V P N n m xs) : RG h0 (hsI h 354 (83 * q + 82) 0) w G V P N n m xs := by
  obtain ⟨A, B, Qs, fr, sr, hw, ht, ho, hp, he, hv, hk, ⟨Lr, l1, l2, l3, l4, l5, l6⟩, ⟨Lo, k1, k2, k3, k4⟩, hz, hN⟩ := r
  have I : ∀ a, a ≠ 354 → hpI (hsI h 354 (83 * q + 82) 0) a = hpI h a := fun a h1 => by rw [hpI_sIo h1]
  have off : offS (hpI h 354) (fup (hpI h 354) (83 * q + 82) 0) q := offS.rf.up (by omega)
  have nd := List.nodup_cons.mp he.2.1
  have ne : ∀ e ∈ G, e.1 ≠ q := fun e hm h => nd.1 (List.mem_map.mpr ⟨e, hm, h⟩)
  have lv : ∀ s', s' < 1000 → fup (hpI h 354) (83 * q + 82) 0 (83 * s' + 82) = 1 → s' ≠ q ∧ hpI h 354 (83 * s' + 82) = 1 := fun s' h1 h2 => by
    by_cases c : s' = q
    · rw [c, fup_e] at h2; cases h2
    · exact ⟨c, by rw [← off s' 82 c (by omega)]; exact h2⟩
  refine ⟨A, B, Qs, fr.rI rfl, sr, ?_⟩
  rw [show RLn (hsI h 354 (83 * q + 82) 0) = RLn h by show RLr _ _ _ = _; rw [I 339 (by decide), I 340 (by decide), I 341 (by decide)], I 342 (by decide), I 344 (by decide), I 345 (by decide), I 346 (by decide), I 347 (by decide), I 348 (by decide), I 349 (by decide), I 350 (by decide), I 351 (by decide), I 352 (by decide), I 356 (by decide), I 361 (by decide), I 320 (by decide), hpI_sIs]
  refine ⟨hw, ht, ho, hp, ⟨fun e hm => ?_, nd.2, fun s' h1 h2 => ?_⟩, hv, hk, ⟨Lr, l1, l2, fun s' h1 h2 => ?_, l4, l5, l6⟩, ⟨Lo, k1, fun s' h1 h2 h3 k hk => ?_, k3, k4⟩, hz, hN⟩
  · obtain ⟨a1, a2, a3, a4, a5⟩ := he.1 e (List.mem_cons_of_mem _ hm)
    have n := ne e hm
    exact ⟨a1, (off _ _ n (by omega)).trans a2, a3.congr (fun k hk => off _ _ n hk) (fun _ _ => rfl), a4.congr (fun k hk => off _ _ n (by omega)), a5.congr (fun k hk => off _ _ n (by omega))⟩
  · obtain ⟨c, h3⟩ := lv s' h1 h2
    rcases List.mem_cons.mp (he.2.2 s' h1 h3) with e | e
    · exact absurd e c
    · exact e
  · obtain ⟨c, h3⟩ := lv s' h1 h2
    obtain ⟨e, e1', e2'⟩ := List.mem_map.mp (he.2.2 s' h1 h3)
    obtain ⟨-, -, z3, -, -⟩ := he.1 e e1'
    have z := z3.1.1
    have zz2 := z3.1.2.1
    rw [e2'] at z
    have zz : hpI h 354 (83 * s' + 0) = nI (fV e.2.1.1).length := z
    intro k hk
    have hk' : k < (fup (hpI h 354) (83 * q + 82) 0 (83 * s' + 0)).toNatClampNeg := hk
    rw [off s' 0 c (by omega)] at hk'
    have hk2 := hk'
    rw [zz, nI_clamp (by omega)] at hk2
    show fup (hpI h 354) (83 * q + 82) 0 (83 * s' + (1 + k)) ∈ Lr
    rw [off s' (1 + k) c (by omega)]
    exact l3 s' h1 h3 k hk'
  · obtain ⟨c, h4⟩ := lv s' h1 h3
    rw [Nat.add_assoc, off s' (36 + k) c (by omega), ← Nat.add_assoc]
    exact k2 s' h1 h2 h4 k hk
/-- a handle of the own shell is set, while it is counted -/
theorem RG.hput2 (r : RG h0 h w ((s, S, js) :: G) V P N n m xs) {k : Nat} (hk : k < 10) {v : Int32} {x : Option Nat} (hx : ∀ A, RFh A (shR (hpI h 354) s) (fH S.1) → RV A (hpI h 352) (hpI h 320 69) V → (∀ q ∈ N.2.1, RHv A q.1 (some q.2)) → RHv A v x)
    (hc : ∀ L : Int32 → Prop, (∀ k, k < V.length → L (hpI h 352 k)) → (∀ q ∈ N.2.1, L q.1) → L v) :
    RG h0 (hsI h 354 (83 * s + (36 + k)) v) w ((s, (vH S.1 (fup (fH S.1) k x), S.2), js) :: G) V P N n m xs := by
  have h82 : hpI h 354 (83 * s + 82) = 1 ∧ shR (hpI h 354) s 0 = nI (fV S.1).length ∧ (fV S.1).length ≤ 20 := by
    obtain ⟨A, B, Qs, -, -, -, -, -, -, he, -⟩ := r
    obtain ⟨a1, a2, a3, -⟩ := he.1 _ List.mem_cons_self
    exact ⟨a2, a3.1.1, a3.1.2.1⟩
  have := RG.row r (S' := (vH S.1 (fup (fH S.1) k x), S.2)) (js' := js) (f := fup (hpI h 354) (83 * s + (36 + k)) v) (g := hpL h 355) (offS.rf.up (by omega)) offN.rf
    (by rw [fup_n (by omega)]; exact h82.1)
    (fun ln A o => by
      rw [shR_up]
      exact ⟨o.1.other (by omega) (by omega) (by omega), o.2.1.put (hx A o.2.1 o.2.2.2.1 o.2.2.2.2.2), o.2.2.1.other (by omega)⟩)
    (fun L hL _ j hj => by
      rw [shR_up] at hj ⊢
      rw [fup_n (by omega)] at hj
      have z := hj
      rw [h82.2.1, nI_clamp (by omega)] at z
      rw [fup_n (by omega)]
      exact hL j hj)
    (fun _ L hL hV hY j hj => by
      by_cases e : 83 * s + 36 + j = 83 * s + (36 + k)
      · rw [e, fup_e]; exact hc L hV hY
      · rw [fup_n e]; exact hL j hj)
  have e : ∀ f, hrL (hrI h 354 f) 355 (hpL h 355) = hrI h 354 f := fun f => by
    have : hpL h 355 = hpL (hrI h 354 f) 355 := rfl
    rw [this, hrL_self]
  rw [e] at this
  exact this
/-- from counted to not counted, and back -/
theorem RG.unc (r : RG h0 h w G V P N n m 1000) {s : Nat} : RG h0 h w G V P N n m s := by
  obtain ⟨A, B, Qs, fr, sr, hw, ht, ho, hp, he, hv, hk, hcc, ⟨Lo, l1, l2, l3, l4⟩, hz, hN⟩ := r
  exact ⟨A, B, Qs, fr, sr, hw, ht, ho, hp, he, hv, hk, hcc, ⟨Lo, l1, fun s' h1 _ h3 => l2 s' h1 (by omega) h3, l3, l4⟩, hz, hN⟩
theorem RG.cnt {s : Nat} (r : RG h0 h w G V P N n m s) : RG h0 h w G V P N n (m + 10) 1000 := by
  obtain ⟨A, B, Qs, fr, sr, hw, ht, ho, hp, he, hv, hk, hcc, ⟨Lo, l1, l2, l3, l4⟩, hz, hN⟩ := r
  refine ⟨A, B, Qs, fr, sr, hw, ht, ho, hp, he, hv, hk, hcc, ⟨Lo ++ (List.range 10).map (fun k => hpI h 354 (83 * s + 36 + k)), by rw [List.length_append, List.length_map, List.length_range]; omega, fun s' h1 _ h3 k hk => ?_, fun k hk => List.mem_append_left _ (l3 k hk), fun q hq => List.mem_append_left _ (l4 q hq)⟩, hz, hN⟩
  by_cases c : s' = s
  · subst c; exact List.mem_append_right _ (List.mem_map.mpr ⟨k, List.mem_range.mpr hk, rfl⟩)
  · exact List.mem_append_left _ (l2 s' h1 c h3 k hk)
/-- the open files, when the run has stopped: pipes are not looked at any more -/
def ROs (k o p : Nat → Int32) (A : Nat → Option Nat) (w : spW) : Prop :=
  (∀ i a, A i = some a → i < 4000 ∧ ∃ q, (wO w)[a]? = some q ∧ k i = nI q.1 ∧ 1 ≤ q.1 ∧ q.1 ≤ 6 ∧ p i = nI q.2.2 ∧ q.2.2 ≤ 40 ∧ ((q.1 = 2 ∨ q.1 = 3 ∨ q.1 = 4) → o i = nI q.2.1 ∧ q.2.1 < (wF w).length)) ∧ (∀ i j a, A i = some a → A j = some a → i = j)
/-- ALL OF THE REFERENCE'S ROWS when the run has stopped: of the shells those that are named, without their handles -/
def RGs (h0 h : mxH) (w : spW) (G : List spE) (V : List (Option (Option Nat))) (P : List spX) : Prop :=
  ∃ (A : Nat → Option Nat) (Qs : Nat → List Nat), Fr h0 h ∧ SR h ∧ RW (RLn h) (hpI h 342) (hpL h 343) w ∧ RT (hpI h 356) w ∧ ROs (hpI h 344) (hpI h 345) (hpI h 346) A w ∧
    ((∃ fr, RPs (hpI h 347) (hpI h 348) (hpI h 349) (hpI h 351) (hpI h 320 66) Qs fr) ∧ ∀ b, b < 400 → hpI h 349 b = 0 ∨ hpI h 349 b = 1) ∧
    ((∀ e ∈ G, e.1 < 1000 ∧ RF (RLn h) (shR (hpI h 354) e.1) (shN (hpL h 355) e.1) e.2.1.1 ∧ RJ (shR (hpI h 354) e.1) e.2.1.2.1 e.2.1.2.2 e.2.2) ∧ (G.map (fun e => e.1)).Nodup) ∧ RV A (hpI h 352) (hpI h 320 69) V ∧
    (hpI h 320 82 = nI P.length ∧ P.length ≤ 6 ∧ ∀ d (hd : d < P.length), RK (RLn h) (fun k => hpI h 361 (778 * d + k)) (fun k => hpL h 362 (42 * d + k)) P[d]) ∧
    (RLn h 0 [] ∧ (∃ i, hpI h 320 55 = nI i ∧ i < 4400) ∧ (∃ i, hpI h 320 67 = nI i ∧ i < 4000) ∧ (∀ i, i < 4000 → ∃ k, hpI h 344 i = nI k ∧ k ≤ 6))
theorem RG.stop (r : RG h0 h w G V P N n m xs) : RGs h0 h w G V P := by
  obtain ⟨A, B, Qs, fr, sr, hw, ht, ⟨ho1, ho2⟩, ⟨frr, c1, c2, c3, c4, c5, c6, c7, c8, c9⟩, he, hv, hk, hcc, hd, hz, hN⟩ := r
  refine ⟨A, Qs, fr, sr, hw, ht, ⟨fun i a e => ?_, ho2⟩, ⟨⟨frr, c1, c2, c3, c4, c5⟩, c8⟩, ⟨fun e he' => ?_, he.2.1⟩, hv, hk, hz⟩
  · obtain ⟨x1, q, x2, x3, x4, x5, x6, x7, x8, -⟩ := ho1 i a e
    exact ⟨x1, q, x2, x3, x4, x5, x6, x7, x8⟩
  · obtain ⟨a1, -, a3, -, a5⟩ := he.1 e he'
    exact ⟨a1, a3, a5⟩
theorem RGs.sub {G' : List spE} (r : RGs h0 h w G V P) (hs : G'.Sublist G) : RGs h0 h w G' V P := by
  obtain ⟨A, Qs, fr, sr, hw, ht, ho, hp, ⟨he, nd⟩, hv, hk, hz⟩ := r
  exact ⟨A, Qs, fr, sr, hw, ht, ho, hp, ⟨fun e h => he e (hs.subset h), nd.sublist (hs.map _)⟩, hv, hk, hz⟩
theorem RGs.sr (r : RGs h0 h w G V P) : SR h := by
  obtain ⟨A, Qs, fr, sr, -⟩ := r; exact sr
theorem RGs.rt (r : RGs h0 h w G V P) : rtabs h = rtabs h0 := by
  obtain ⟨A, Qs, fr, -⟩ := r; exact fr.rt
theorem RGs.told (r : RGs h0 h w G V P) : RT (hpI h 356) w := by
  obtain ⟨A, Qs, fr, sr, hw, ht, -⟩ := r; exact ht
theorem RGs.own (r : RGs h0 h w ((s, S, js) :: G) V P) : s < 1000 ∧ RF (RLn h) (shR (hpI h 354) s) (shN (hpL h 355) s) S.1 ∧ RJ (shR (hpI h 354) s) S.2.1 S.2.2 js := by
  obtain ⟨A, Qs, -, -, -, -, -, -, ⟨he, -⟩, -⟩ := r
  exact he _ List.mem_cons_self
theorem RGs.vlen (r : RGs h0 h w G V P) : hpI h 320 69 = nI V.length := by
  obtain ⟨A, Qs, -, -, -, -, -, -, -, hv, -⟩ := r
  exact hv.1
/-- a place of a row of the shells is set, where no shell is named, or but a handle -/
theorem RGs.row {f : Nat → Int32} {s : Nat} {S' : spS} {js' : List Nat} (r : RGs h0 h w ((s, S, js) :: G) V P) (o : offS (hpI h 354) f s)
    (nw : ∀ ln g, RF ln (shR (hpI h 354) s) g S.1 → RJ (shR (hpI h 354) s) S.2.1 S.2.2 js → RF ln (shR f s) g S'.1 ∧ RJ (shR f s) S'.2.1 S'.2.2 js') : RGs h0 (hrI h 354 f) w ((s, S', js') :: G) V P := by
  obtain ⟨A, Qs, fr, sr, hw, ht, ho, hp, ⟨he, nd⟩, hv, hk, hz⟩ := r
  have I : ∀ a, a ≠ 354 → hpI (hrI h 354 f) a = hpI h a := fun a h1 => by rw [hpI_rI, if_neg h1]
  refine ⟨A, Qs, fr.rI rfl, sr, ?_⟩
  rw [show RLn (hrI h 354 f) = RLn h by show RLr _ _ _ = _; rw [I 339 (by decide), I 340 (by decide), I 341 (by decide)], I 342 (by decide), I 344 (by decide), I 345 (by decide), I 346 (by decide), I 347 (by decide), I 348 (by decide), I 349 (by decide), I 351 (by decide), I 352 (by decide), I 356 (by decide), I 361 (by decide), I 320 (by decide), hpI_rIs]
  refine ⟨hw, ht, ho, hp, ⟨fun e hm => ?_, nd⟩, hv, hk, hz⟩
  have n2 := List.nodup_cons.mp nd
  rcases List.mem_cons.mp hm with rfl | hm
  · obtain ⟨a1, a2, a3⟩ := he _ List.mem_cons_self
    exact ⟨a1, nw _ _ a2 a3⟩
  · obtain ⟨a1, a2, a3⟩ := he e (List.mem_cons_of_mem _ hm)
    have ne : e.1 ≠ s := fun h => n2.1 (List.mem_map.mpr ⟨e, hm, h⟩)
    exact ⟨a1, a2.congr (fun k hk => o _ _ ne hk) (fun _ _ => rfl), a3.congr (fun k hk => o _ _ ne (by omega))⟩
theorem RGs.set0 (r : RGs h0 h w ((s, S, js) :: G) V P) {j : Nat} {v : Int32} (hj : 36 ≤ j) (hj2 : j < 46 ∨ j = 82) : RGs h0 (hsI h 354 (83 * s + j) v) w ((s, S, js) :: G) V P :=
  r.row (f := fup (hpI h 354) (83 * s + j) v) (offS.rf.up (by omega)) fun ln g a b => by rw [shR_up]; exact ⟨a.other hj (by omega) (by omega), b.other (by omega)⟩
theorem RGs.vdrop {W : List (Option (Option Nat))} (r : RGs h0 h w G (V ++ W) P) : RGs h0 (hsI h 320 69 (nI V.length)) w G V P := by
  obtain ⟨A, Qs, fr, sr, hw, ht, ho, hp, he, hv, hk, hz⟩ := r
  have I : ∀ a, a ≠ 320 → hpI (hsI h 320 69 (nI V.length)) a = hpI h a := fun a h1 => by rw [hpI_sIo h1]
  have I3 : ∀ k, k ≠ 69 → hpI (hsI h 320 69 (nI V.length)) 320 k = hpI h 320 k := fun k hk => by rw [hpI_sIs, fup_n hk]
  have e69 : hpI (hsI h 320 69 (nI V.length)) 320 69 = nI V.length := by rw [hpI_sIs, fup_e]
  refine ⟨A, Qs, fr.sF rfl, sr, ?_⟩
  rw [show RLn (hsI h 320 69 (nI V.length)) = RLn h by show RLr _ _ _ = _; rw [I 339 (by decide), I 340 (by decide), I 341 (by decide)], I 342 (by decide), I 356 (by decide), I 344 (by decide), I 345 (by decide), I 346 (by decide), I 347 (by decide), I 348 (by decide), I 349 (by decide), I 351 (by decide), I 354 (by decide), I 352 (by decide), I 361 (by decide), I3 66 (by decide), I3 82 (by decide), I3 55 (by decide), I3 67 (by decide), e69]
  refine ⟨hw, ht, ho, hp, he, ⟨rfl, fun k hk => ?_⟩, hk, hz⟩
  have := hv.2 k (by rw [List.length_append]; omega)
  rw [List.getElem_append_left hk] at this
  exact this
theorem RGs.close (hd : 1 ≤ d) (r : RGs h0 h w G V P) {b : Nat} (hb : b < 400) : mx_SM mY_X12_closesPipe d [.ref 320, .int (nI b)] h (mx_KV (fun h1 => RGs h0 h1 w G V P) fun _ _ => False) := by
  obtain ⟨A, Qs, fr, sr, hw, ht, ho, ⟨⟨frr, hp⟩, h8⟩, he, hv, hk, hz⟩ := r
  refine mx_uV (k_X12_closesPipe_raw hd sr hb hp) fun h1 hc => ?_
  have rl := clP_RLn hc
  obtain ⟨k1, k2, k3, k4, k5, k6, fr', dd⟩ := hc
  refine ⟨A, fup Qs b [], k5 h0 fr, k4, ?_⟩
  rw [rl, k3, k2 55 (by decide), k2 67 (by decide), k2 82 (by decide), k2 69 (by decide)]
  rw [k1 342 (by decide) (by decide) (by decide) (by decide) (by decide), k1 356 (by decide) (by decide) (by decide) (by decide) (by decide), k1 344 (by decide) (by decide) (by decide) (by decide) (by decide), k1 345 (by decide) (by decide) (by decide) (by decide) (by decide), k1 346 (by decide) (by decide) (by decide) (by decide) (by decide), k1 354 (by decide) (by decide) (by decide) (by decide) (by decide), k1 352 (by decide) (by decide) (by decide) (by decide) (by decide), k1 361 (by decide) (by decide) (by decide) (by decide) (by decide)]
  refine ⟨hw, ht, ho, ⟨⟨fr', dd⟩, fun c hc => ?_⟩, he, hv, hk, hz⟩
  rw [k6]
  by_cases ec : c = b
  · rw [ec, fup_e]; exact Or.inl rfl
  · rw [fup_n ec]; exact h8 c hc
theorem k_X12_isStoppedNow_s (r : RGs h0 h w G V P) : mx_SM mY_X12_isStoppedNow d [.ref 320] h (mx_xct (.inl (some (.int (if wX w = true then 1 else 0)))) h) := by
  have s := r.sr
  have ht := r.told
  obtain ⟨y1, y2, y3, y4, -⟩ := ht
  refine b_X12_isStoppedNow 320 ⟨sr_k s, 356, sr_r73 s, sr_k356 s, by rw [sr_z356 s]; exact vp_in_nI (n := 2) (by omega) (by omega), ?_⟩
  rw [show (2 : Int32).toNatClampNeg = 2 by decide, y4]
  cases wX w with
  | true => exact ⟨fun c => absurd rfl c, fun _ => ⟨rfl, rfl⟩⟩
  | false => exact ⟨fun _ => ⟨rfl, rfl⟩, fun c => absurd c (by decide)⟩
theorem k_X12_isHalted_s (hd : 1 ≤ d) (r : RGs h0 h w G V P) (hx : wX w = true) {s : Nat} : mx_SM mY_X12_isHalted d [.ref 320, .int (nI s)] h (mx_xct (.inl (some (.int 1))) h) := by
  have k := k_X12_isStoppedNow_s (d := d - 1) r
  rw [hx] at k
  refine b_X12_isHalted 320 _ ⟨hd, sr_k r.sr, mx_xKI2 k ⟨fun _ => b_X12_isHalted_18 ⟨rfl, rfl⟩, fun c => absurd c (by decide)⟩⟩
end MXSV
