/-! THE REFERENCE'S SHELLS: single places of a row -/
section MXRO
variable {d : Nat} {h0 h : mxH} {w : spW} {G : List spE} {V : List (Option (Option Nat))} {P : List spX} {N : spN} {n m xs : Nat} {f : Nat → Int32} {g : Nat → Int64} {ln : Int32 → spL → Prop} {F : spF} {A : Nat → Option Nat}
theorem shR_up {s j : Nat} {v : Int32} : shR (fup f (83 * s + j) v) s = fup (shR f s) j v := by
  funext k
  show fup f (83 * s + j) v (83 * s + k) = _
  by_cases c : k = j
  · rw [c, fup_e, fup_e]
  · rw [fup_n c, fup_n (by omega)]
theorem shN_up {s j : Nat} {v : Int64} : shN (fup g (34 * s + j) v) s = fup (shN g s) j v := by
  funext k
  show fup g (34 * s + j) v (34 * s + k) = _
  by_cases c : k = j
  · rw [c, fup_e, fup_e]
  · rw [fup_n c, fup_n (by omega)]
theorem RF.other (r : RF ln f g F) {j : Nat} {v : Int32} (h1 : 36 ≤ j) (h2 : j ≠ 46) (h3 : j ≠ 47) : RF ln (fup f j v) g F := by
  obtain ⟨⟨a1, a2, a3⟩, ⟨b1, b2, b3⟩, c, d1, d2, d3, d4, d5, d6, d7, d8⟩ := r
  refine ⟨⟨by rw [fup_n (by omega)]; exact a1, a2, fun k hk => ?_⟩, ⟨by rw [fup_n (by omega)]; exact b1, b2, fun k hk => ?_⟩, c, by rw [fup_n (by omega)]; exact d1, by rw [fup_n (by omega)]; exact d2, by rw [fup_n (by omega)]; exact d3, by rw [fup_n (by omega)]; exact d4, by rw [fup_n (by omega)]; exact d5, d6, by rw [fup_n (by omega)]; exact d7, d8⟩
  · rw [fup_n (by omega)]; exact a3 k hk
  · rw [fup_n (by omega)]; exact b3 k hk
theorem RF.st (r : RF ln f g F) {v : Int32} : RF ln (fup f 33 v) g (vS F v) := by
  obtain ⟨⟨a1, a2, a3⟩, ⟨b1, b2, b3⟩, c, d1, d2, d3, d4, d5, d6, d7, d8⟩ := r
  refine ⟨⟨by rw [fup_n (by omega)]; exact a1, a2, fun k hk => ?_⟩, ⟨by rw [fup_n (by omega)]; exact b1, b2, fun k hk => ?_⟩, c, by rw [fup_n (by omega)]; exact d1, fup_e, by rw [fup_n (by omega)]; exact d3, by rw [fup_n (by omega)]; exact d4, by rw [fup_n (by omega)]; exact d5, d6, by rw [fup_n (by omega)]; exact d7, d8⟩
  · have hk2 : k < (fV F).length := hk
    rw [fup_n (by omega)]; exact a3 k hk
  · have hk2 : k < (fU F).length := hk
    rw [fup_n (by omega)]; exact b3 k hk
theorem RF.ne (r : RF ln f g F) {v : Nat} (hv : v ≤ 4) : RF ln (fup f 46 (nI v)) g (vN F v) := by
  obtain ⟨⟨a1, a2, a3⟩, ⟨b1, b2, b3⟩, c, d1, d2, d3, d4, d5, d6, d7, d8⟩ := r
  refine ⟨⟨by rw [fup_n (by omega)]; exact a1, a2, fun k hk => ?_⟩, ⟨by rw [fup_n (by omega)]; exact b1, b2, fun k hk => ?_⟩, c, by rw [fup_n (by omega)]; exact d1, by rw [fup_n (by omega)]; exact d2, by rw [fup_n (by omega)]; exact d3, by rw [fup_n (by omega)]; exact d4, fup_e, hv, by rw [fup_n (by omega)]; exact d7, d8⟩
  · have hk2 : k < (fV F).length := hk
    rw [fup_n (by omega)]; exact a3 k hk
  · have hk2 : k < (fU F).length := hk
    rw [fup_n (by omega)]; exact b3 k hk
theorem RF.pf (r : RF ln f g F) {b : Bool} : RF ln (fup f 32 (if b = true then 1 else 0)) g (vP F b) := by
  obtain ⟨⟨a1, a2, a3⟩, ⟨b1, b2, b3⟩, c, d1, d2, d3, d4, d5, d6, d7, d8⟩ := r
  refine ⟨⟨by rw [fup_n (by omega)]; exact a1, a2, fun k hk => ?_⟩, ⟨by rw [fup_n (by omega)]; exact b1, b2, fun k hk => ?_⟩, c, fup_e, by rw [fup_n (by omega)]; exact d2, by rw [fup_n (by omega)]; exact d3, by rw [fup_n (by omega)]; exact d4, by rw [fup_n (by omega)]; exact d5, d6, by rw [fup_n (by omega)]; exact d7, d8⟩
  · have hk2 : k < (fV F).length := hk
    rw [fup_n (by omega)]; exact a3 k hk
  · have hk2 : k < (fU F).length := hk
    rw [fup_n (by omega)]; exact b3 k hk
theorem RF.bg (r : RF ln f g F) {b : Bool} : RF ln (fup f 35 (if b = true then 1 else 0)) g (vG F b) := by
  obtain ⟨⟨a1, a2, a3⟩, ⟨b1, b2, b3⟩, c, d1, d2, d3, d4, d5, d6, d7, d8⟩ := r
  refine ⟨⟨by rw [fup_n (by omega)]; exact a1, a2, fun k hk => ?_⟩, ⟨by rw [fup_n (by omega)]; exact b1, b2, fun k hk => ?_⟩, c, by rw [fup_n (by omega)]; exact d1, by rw [fup_n (by omega)]; exact d2, by rw [fup_n (by omega)]; exact d3, fup_e, by rw [fup_n (by omega)]; exact d5, d6, by rw [fup_n (by omega)]; exact d7, d8⟩
  · have hk2 : k < (fV F).length := hk
    rw [fup_n (by omega)]; exact a3 k hk
  · have hk2 : k < (fU F).length := hk
    rw [fup_n (by omega)]; exact b3 k hk
theorem RF.act (r : RF ln f g F) {i : Nat} {v : Int64} : RF ln f (fup g (30 + i) v) (vA F (fup (fA F) i v)) := by
  obtain ⟨⟨a1, a2, a3⟩, ⟨b1, b2, b3⟩, c, d⟩ := r
  refine ⟨⟨a1, a2, fun k hk => ?_⟩, ⟨b1, b2, fun k hk => ?_⟩, fun k hk => ?_, d⟩
  · have hk2 : k < (fV F).length := hk
    rw [fup_n (by omega)]; exact a3 k hk
  · have hk2 : k < (fU F).length := hk
    rw [fup_n (by omega)]; exact b3 k hk
  · show fup g (30 + i) v (30 + k) = fup (fA F) i v k
    by_cases e : k = i
    · rw [e, fup_e, fup_e]
    · rw [fup_n e, fup_n (by omega)]; exact c k hk
theorem RFh.other {hs : spH} (r : RFh A f hs) {j : Nat} {v : Int32} (hj : j < 36 ∨ 46 ≤ j) : RFh A (fup f j v) hs := fun k hk => by rw [fup_n (by omega)]; exact r k hk
theorem RFh.put {hs : spH} (r : RFh A f hs) {j : Nat} {v : Int32} {x : Option Nat} (hx : RHv A v x) : RFh A (fup f (36 + j) v) (fup hs j x) := fun k hk => by
  by_cases e : k = j
  · rw [e, fup_e, fup_e]; exact hx
  · rw [fup_n e, fup_n (by omega)]; exact r k hk
theorem RJ.other {e : Bool} {jb : List spJ} {js : List Nat} (r : RJ f e jb js) {j : Nat} {v : Int32} (hj : j < 48 ∨ 82 ≤ j) : RJ (fup f j v) e jb js := by
  obtain ⟨a, b, c, d, q⟩ := r
  refine ⟨by rw [fup_n (by omega)]; exact a, by rw [fup_n (by omega)]; exact b, c, d, fun k hk hjj => ?_⟩
  obtain ⟨q1, q2, q3, q4, q5⟩ := q k hk hjj
  exact ⟨by rw [fup_n (by omega)]; exact q1, q2, by rw [fup_n (by omega)]; exact q3, by rw [fup_n (by omega)]; exact q4, by rw [fup_n (by omega)]; exact q5⟩
theorem RJ.en {e e' : Bool} {jb : List spJ} {js : List Nat} (r : RJ f e jb js) : RJ (fup f 48 (if e' = true then 1 else 0)) e' jb js := by
  obtain ⟨a, b, c, d, q⟩ := r
  refine ⟨fup_e, by rw [fup_n (by omega)]; exact b, c, d, fun k hk hjj => ?_⟩
  obtain ⟨q1, q2, q3, q4, q5⟩ := q k hk hjj
  exact ⟨by rw [fup_n (by omega)]; exact q1, q2, by rw [fup_n (by omega)]; exact q3, by rw [fup_n (by omega)]; exact q4, by rw [fup_n (by omega)]; exact q5⟩
theorem hrL_self {a : Nat} : hrL h a (hpL h a) = h := by
  unfold hrL
  have : (fun b => if b = a then hpL h a else h.2.2.2.2.2.2.1 b) = h.2.2.2.2.2.2.1 := by
    funext b
    by_cases c : b = a
    · rw [if_pos c, c]; rfl
    · rw [if_neg c]
  rw [this]
/-- a place of the own shell's row of ints, that names no line and no handle -/
theorem RG.place {s : Nat} {S S' : spS} {js js' : List Nat} (r : RG h0 h w ((s, S, js) :: G) V P N n m xs) {j : Nat} {v : Int32} (hj : 21 ≤ j) (hj2 : j < 36 ∨ 46 ≤ j) (hj3 : j < 82) (hs : fH S'.1 = fH S.1)
    (n1 : ∀ ln f g, RF ln f g S.1 → RF ln (fup f j v) g S'.1) (n3 : ∀ f, RJ f S.2.1 S.2.2 js → RJ (fup f j v) S'.2.1 S'.2.2 js') : RG h0 (hsI h 354 (83 * s + j) v) w ((s, S', js') :: G) V P N n m xs := by
  have hs0 : s < 1000 ∧ hpI h 354 (83 * s + 82) = 1 ∧ shR (hpI h 354) s 0 = nI (fV S.1).length ∧ (fV S.1).length ≤ 20 := by
    obtain ⟨A, B, Qs, -, -, -, -, -, -, he, -⟩ := r
    obtain ⟨a1, a2, a3, -⟩ := he.1 _ List.mem_cons_self
    exact ⟨a1, a2, a3.1.1, a3.1.2.1⟩
  have := RG.row r (S' := S') (js' := js') (f := fup (hpI h 354) (83 * s + j) v) (g := hpL h 355) (offS.rf.up (by omega)) offN.rf (by rw [fup_n (by omega)]; exact hs0.2.1) (fun ln A o => by
    rw [shR_up]
    exact ⟨n1 _ _ _ o.1, by rw [hs]; exact o.2.1.other hj2, n3 _ o.2.2.1⟩) (fun L hL _ k hk => by
    rw [shR_up] at hk ⊢
    rw [fup_n (by omega)] at hk
    have z1 : shR (hpI h 354) s 0 = nI (fV S.1).length := hs0.2.2.1
    have z2 : (fV S.1).length ≤ 20 := hs0.2.2.2
    rw [z1, nI_clamp (by omega)] at hk
    rw [fup_n (by omega)]
    refine hL k ?_
    rw [z1, nI_clamp (by omega)]; exact hk) (fun _ L hL _ _ k hk => by rw [fup_n (by omega)]; exact hL k hk)
  have e : hrL (hrI h 354 (fup (hpI h 354) (83 * s + j) v)) 355 (hpL h 355) = hsI h 354 (83 * s + j) v := by
    have : hpL h 355 = hpL (hrI h 354 (fup (hpI h 354) (83 * s + j) v)) 355 := rfl
    rw [this, hrL_self]; rfl
  rw [e] at this
  exact this
theorem RG.st {s : Nat} {S : spS} {js : List Nat} (r : RG h0 h w ((s, S, js) :: G) V P N n m xs) {v : Int32} : RG h0 (hsI h 354 (83 * s + 33) v) w ((s, (vS S.1 v, S.2), js) :: G) V P N n m xs :=
  r.place (by omega) (by omega) (by omega) rfl (fun _ _ _ q => q.st) (fun _ q => q.other (by omega))
theorem RG.en {s : Nat} {S : spS} {js : List Nat} (r : RG h0 h w ((s, S, js) :: G) V P N n m xs) {e : Bool} : RG h0 (hsI h 354 (83 * s + 48) (if e = true then 1 else 0)) w ((s, (S.1, e, S.2.2), js) :: G) V P N n m xs :=
  r.place (by omega) (by omega) (by omega) rfl (fun _ _ _ q => q.other (by omega) (by omega) (by omega)) (fun _ q => q.en)
theorem RG.own {s : Nat} {S : spS} {js : List Nat} (r : RG h0 h w ((s, S, js) :: G) V P N n m xs) : s < 1000 ∧ RF (RLn h) (shR (hpI h 354) s) (shN (hpL h 355) s) S.1 ∧ RJ (shR (hpI h 354) s) S.2.1 S.2.2 js := by
  obtain ⟨A, B, Qs, -, -, -, -, -, -, he, -⟩ := r
  obtain ⟨a1, a2, a3, a4, a5⟩ := he.1 _ List.mem_cons_self
  exact ⟨a1, a3, a5⟩
/-- ends -/
theorem k_X12_ends (hd : 1 ≤ d) {s : Nat} {S : spS} {js : List Nat} (r : RG h0 h w ((s, S, js) :: G) V P N n m xs) {v : Int32} :
    mx_SM mY_X12_ends d [.ref 320, .int (nI s), .int v] h (mx_KV (fun h1 => RG h0 h1 w ((s, (vS S.1 v, true, S.2.2), js) :: G) V P N n m xs) fun _ _ => False) := by
  have hs := r.own.1
  refine b_X12_ends 320 _ _ ⟨hd, sr_k r.sr, mx_xKV (k_X12_sets (j := 33) r.sr (by omega)) ⟨sr_k r.sr, ?_⟩⟩
  exact mx_xKV (k_X12_sets (j := 48) r.st.sr (by omega)) (Or.inl ⟨rfl, r.st.en (e := true)⟩)
theorem k_X12_statusOf (hd : 1 ≤ d) {s : Nat} {S : spS} {js : List Nat} (r : RG h0 h w ((s, S, js) :: G) V P N n m xs) : mx_SM mY_X12_statusOf d [.ref 320, .int (nI s)] h (mx_xct (.inl (some (.int (fS S.1)))) h) := by
  have hs := r.own.1
  have e : hpI h 354 (83 * s + 33) = fS S.1 := r.own.2.1.2.2.2.2.1
  refine b_X12_statusOf 320 _ ⟨hd, sr_k r.sr, mx_xKI2 (k_X12_of (j := 33) r.sr (by omega)) ?_⟩
  rw [e]; exact ⟨rfl, rfl⟩
theorem RG.told (r : RG h0 h w G V P N n m xs) : RT (hpI h 356) w := by
  obtain ⟨A, B, Qs, -, -, -, ht, -⟩ := r; exact ht
theorem k_X12_isStoppedNow (r : RG h0 h w G V P N n m xs) : mx_SM mY_X12_isStoppedNow d [.ref 320] h (mx_xct (.inl (some (.int (if wX w = true then 1 else 0)))) h) := by
  have e : hpI h 356 2 = (if wX w = true then 1 else 0) := r.told.2.2.2.1
  refine b_X12_isStoppedNow 320 ⟨sr_k r.sr, 356, sr_r73 r.sr, sr_k356 r.sr, by rw [sr_z356 r.sr]; exact vp_in_nI (n := 2) (by omega) (by omega), ?_⟩
  rw [show (2 : Int32).toNatClampNeg = 2 from rfl, e]
  cases wX w
  · exact ⟨fun _ => ⟨rfl, rfl⟩, fun c => absurd c (by decide)⟩
  · exact ⟨fun c => absurd rfl c, fun _ => ⟨rfl, rfl⟩⟩
theorem k_X12_isHalted (hd : 1 ≤ d) {s : Nat} {S : spS} {js : List Nat} (r : RG h0 h w ((s, S, js) :: G) V P N n m xs) : mx_SM mY_X12_isHalted d [.ref 320, .int (nI s)] h (mx_xct (.inl (some (.int (if (wX w || S.2.1) = true then 1 else 0)))) h) := by
  have hs := r.own.1
  have e : hpI h 354 (83 * s + 48) = (if S.2.1 = true then 1 else 0) := r.own.2.2.1
  refine b_X12_isHalted 320 _ ⟨hd, sr_k r.sr, mx_xKI2 (k_X12_isStoppedNow r) ?_⟩
  cases hx : wX w
  · refine ⟨fun c => absurd rfl c, fun _ => ⟨sr_k r.sr, mx_xKI2 (k_X12_of (j := 48) r.sr (by omega)) ?_⟩⟩
    rw [e]
    cases S.2.1
    · exact ⟨fun _ => ⟨rfl, rfl⟩, fun c => absurd c (by decide)⟩
    · exact ⟨fun c => absurd rfl c, fun _ => b_X12_isHalted_18 ⟨rfl, rfl⟩⟩
  · exact ⟨fun _ => b_X12_isHalted_18 ⟨rfl, rfl⟩, fun c => absurd c (by decide)⟩
end MXRO
