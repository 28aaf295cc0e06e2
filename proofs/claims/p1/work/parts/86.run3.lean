/-! THE REFERENCE'S RUN: a pipeline of several commands -/
section MXR3
variable {d g : Nat} {h0 h h1 : mxH} {T : spT} {nn k s : Nat} {x x1 x' y : spX} {w w1 : spW} {S : spS} {js : List Nat} {G L : List spE} {V W : List (Option (Option Nat))} {P : List spX} {N : spN} {Z : List (Int32 × Nat)} {n m xs n0 m0 u : Nat} {Q : mxRes → mxH → Prop} {v : Int32}
theorem RG.zb (r : RG h0 h w G V P N n m xs) {z : Int32 × Nat} (hz : z ∈ N.2.2) : ∃ b, z.1 = nI b ∧ b < 400 ∧ z.2 < (wU w).length := by
  obtain ⟨A, B, Qs, fr, sr, hw, ht, ho, ⟨frr, c1, c2, c3, c4, c5, c6, c7, c8, c9⟩, he, hv, hk, hc, hd, hzz, hN1, hN2, hN3⟩ := r
  obtain ⟨b, b1, b2⟩ := hN3 z hz
  obtain ⟨y1, y2, -⟩ := c6 _ _ b2
  exact ⟨b, b1, y2, y1⟩
theorem RG.olds (r : RG h0 h w G V P N n m xs) (hw : ∀ q ∈ wO w, (q.1 = 5 ∨ q.1 = 6) → q.2.1 < (wU w).length) : Olds w (wU w).length G V N.2.2 := by
  have r' := r
  obtain ⟨A, B, Qs, fr, sr, hw', ht, ho, hp, he, hv, hk, hc, hd, hzz, hN1, hN2, hN3⟩ := r
  have key : ∀ o a, A o = some a → oldO w (wU w).length a := fun o a e => by
    obtain ⟨-, q, q1, -⟩ := ho.1 o a e
    exact ⟨q, q1, fun h => hw q (List.mem_of_getElem? q1) h⟩
  refine ⟨fun e he' k hk a ha => ?_, fun x hx a e => ?_, fun z hz => (r'.zb hz).choose_spec.2.2⟩
  · have := (he.1 e he').2.2.2.1 k hk
    have this : RHv A _ (fH e.2.1.1 k) := this
    rw [ha] at this
    rcases this with ⟨q, -⟩ | ⟨o, a', q1, q2, q3, q4⟩
    · cases q
    · cases q1; exact key o a q4
  · obtain ⟨i, hi, rfl⟩ := List.mem_iff_getElem.mp hx
    have := hv.2 i hi
    rw [e] at this
    have this : RHv A _ (some a) := this
    rcases this with ⟨q, -⟩ | ⟨o, a', q1, q2, q3, q4⟩
    · cases q
    · cases q1; exact key o a q4
theorem oldO.le {a : Nat} (h : oldO w u a) (l : Le w w1) : oldO w1 u a := by
  obtain ⟨q, q1, q2⟩ := h
  obtain ⟨ps, e⟩ := l.1 a q q1
  exact ⟨_, e, q2⟩
theorem Olds.le (h : Olds w u G V Z) (l : Le w w1) : Olds w1 u G V Z := ⟨fun e he k hk a ha => (h.1 e he k hk a ha).le l, fun x hx a e => (h.2.1 x hx a e).le l, h.2.2⟩
/-- the last kept handle is not used any more -/
theorem RG.vfor {y : Option (Option Nat)} (r : RG h0 h w G (V ++ [y]) P N n m xs) : RG h0 h w G (V ++ [none]) P N n m xs := by
  obtain ⟨A, B, Qs, fr, sr, hw, ht, ho, hp, he, hv, hk, hc, ⟨Lo, l1, l2, l3, l4⟩, hz, hN⟩ := r
  refine ⟨A, B, Qs, fr, sr, hw, ht, ho, hp, he, ⟨?_, fun k hk => ?_⟩, hk, hc, ⟨Lo, l1, l2, fun k hk => l3 k (by rw [List.length_append] at hk ⊢; exact hk), l4⟩, hz, hN⟩
  · have := hv.1
    rw [List.length_append] at this ⊢
    exact this
  · have hk2 : k < (V ++ [y]).length := by rw [List.length_append] at hk ⊢; exact hk
    have h3 := hv.2 k hk2
    by_cases c : k < V.length
    · rw [List.getElem_append_left c] at h3 ⊢; exact h3
    · have e : k = V.length := by rw [List.length_append] at hk; simp at hk; omega
      subst e
      have e1 : (V ++ [none])[V.length]'hk = none := by rw [List.getElem_append_right (Nat.le_refl _)]; simp
      have e2 : (V ++ [y])[V.length]'hk2 = y := by rw [List.getElem_append_right (Nat.le_refl _)]; simp
      rw [e1]
      rw [e2] at h3
      cases y with
      | none => exact h3
      | some y =>
        rcases h3 with ⟨-, q⟩ | ⟨o, a, -, q2, q3, -⟩
        · exact Or.inl q
        · exact Or.inr ⟨o, q2, q3⟩
/-- a pipe is made for the next command -/
theorem sv_65 (hd : 6 ≤ d) {q : Nat} {f1 : spF} {x1 x3 x5 x6 cm : Int32} (hcm : ∃ i, cm = nI i ∧ i < 3000) (hT : rtabs h0 = T) (r : RG h0 h w ((q, (f1, false, []), []) :: L) V P ([], [], Z) n m 1000) (hm : m + 20 < 4000) (hV : V.length + 1 ≤ 8000) (hU : (wU w).length < 400)
    (K1 : tN T cm = -1 → mx_SX mY_X12_runsSeveral d 124 [(0, .ref 320), (1, .int x1), (3, .int x3), (5, .int x5), (6, .int x6), (7, .int cm), (8, .int (nI q)), (9, .int (-1))] [] h Q)
    (K2 : tN T cm ≠ -1 → ∀ h2 b2, b2 < 400 → RG h0 h2 (opn (opn (uU w (wU w ++ [[]])) 6 (wU w).length).2 5 (wU w).length).2 ((q, (vH f1 (fup (fH f1) 1 (some (wO w).length)), false, []), []) :: L) (V ++ [some (some ((wO w).length + 1))]) P ([], [], (nI b2, (wU w).length) :: Z) n (m + 2) 1000 →
      mx_SX mY_X12_runsSeveral d 124 [(0, .ref 320), (1, .int x1), (3, .int x3), (5, .int x5), (6, .int x6), (7, .int cm), (8, .int (nI q)), (9, .int (nI b2))] [] h2 Q) :
    mx_SX mY_X12_runsSeveral d 65 [(0, .ref 320), (1, .int x1), (3, .int x3), (5, .int x5), (6, .int x6), (7, .int cm), (8, .int (nI q)), (9, .int (-1))] [] h Q := by
  have sr := r.sr
  have hq := r.own.1
  obtain ⟨ic, ec, hic⟩ := hcm
  have vin : vp_in cm 3000 := by rw [ec]; exact vp_in_nI hic (by omega)
  refine b_X12_runsSeveral_65 320 _ _ _ _ _ _ _ ⟨sr_k sr, 328, sr_r38 sr, sr_k328 sr, by rw [sr_z328 sr]; exact vin, ?_⟩
  rw [show hpI h 328 cm.toNatClampNeg = tN T cm by rw [← hT, ← r.rt]; rfl]
  refine ⟨K1, fun c => ⟨by omega, mx_uI (k_X12_pipe r hU) fun v1 h1 r1 => ?_⟩⟩
  obtain ⟨b2, e2, b2l, -⟩ := r1.zb (z := (v1, (wU w).length)) List.mem_cons_self
  have e2 : v1 = nI b2 := e2
  subst e2
  refine ⟨sr_k r1.sr, mx_uI (k_X12_opened (kd := 6) (o := (wU w).length) (its := nI b2) (by omega) r1 (by omega) (by omega) (by omega) (by omega) (fun q => absurd q (by omega)) (fun _ => List.mem_cons_self)) ?_⟩
  rintro v2 h2 ⟨r2, -, -⟩
  refine ⟨sr_k r2.sr, mx_xKV (k_X12_sets (j := 37) r2.sr (by omega)) ?_⟩
  have r3 : RG h0 (hsI h2 354 (83 * q + 37) v2) (opn (uU w (wU w ++ [[]])) 6 (wU w).length).2 ((q, (vH f1 (fup (fH f1) 1 (some (wO w).length)), false, []), []) :: L) V P ([], [], (nI b2, (wU w).length) :: Z) n (m + 1) 1000 := by
    have := r2.hput2 (k := 1) (by omega) (v := v2) (x := some (wO w).length) (fun A _ _ hY => hY _ List.mem_cons_self) (fun L _ hY => hY _ List.mem_cons_self)
    exact this.drop (fun _ h => h) (fun _ h => absurd h List.not_mem_nil) (fun _ h => h)
  have s3 := r3.sr
  have e69 : ∀ {hh ww GG NN n m}, RG h0 hh ww GG V P NN n m 1000 → hpI hh 320 69 = nI V.length := fun r => by
    obtain ⟨A, B, Qs, -, -, -, -, -, -, -, hv, -⟩ := r
    exact hv.1
  refine ⟨sr_k s3, 352, sr_r68 s3, mx_uI (k_X12_opened (kd := 5) (o := (wU w).length) (its := nI b2) (by omega) r3 (by omega) (by omega) (by omega) (by omega) (fun q => absurd q (by omega)) (fun _ => List.mem_cons_self)) ?_⟩
  rintro v3 h4 ⟨r4, -, -⟩
  have s4 := r4.sr
  rw [e69 r3, nI_clamp (by omega)]
  refine ⟨sr_k352 s4, by rw [sr_z352 s4]; exact vp_in_nI (by omega) (by omega), ?_⟩
  rintro _ rfl
  refine ⟨sr_k s4, ?_⟩
  rw [hpI_sIo (by decide), e69 r4, nI_1]
  rintro _ rfl
  refine K2 c _ b2 b2l ?_
  have r5 := r4.vpush (v := v3) (x := some (opn (opn (uU w (wU w ++ [[]])) 6 (wU w).length).2 5 (wU w).length).1) (fun A _ hY => hY _ List.mem_cons_self) (fun L _ hY => hY _ List.mem_cons_self)
  have eo : (opn (opn (uU w (wU w ++ [[]])) 6 (wU w).length).2 5 (wU w).length).1 = (wO w).length + 1 := by
    show (wO w ++ [(6, (wU w).length, 0)]).length = _
    rw [List.length_append]; rfl
  rw [eo] at r5
  exact r5.drop (fun _ h => h) (fun _ h => absurd h List.not_mem_nil) (fun _ h => h)
theorem sev_s {l r : Int32} {p : Option Nat} {cm : Int32} (hX : wX (xw x) = true) (hx : gEx T k (cSev cm l r p) x = some x') : x' = x := by
  cases k with
  | zero => cases hx
  | succ k =>
    have hx : gSev T (gEx T k) cm l r p x = some x' := hx
    unfold gSev at hx
    rw [if_pos (Or.inr hX), if_pos hX] at hx
    cases hx; rfl
/-- the loop's end, when the run has stopped -/
theorem sv_17s (hd : 4 ≤ d) {cm l r x6 : Int32} (hX : wX (xw x) = true) (rs : RGs h0 h (xw x) ((s, x.2, js) :: G) (V ++ W) P) :
    mx_SX mY_X12_runsSeveral d 17 [(0, .ref 320), (1, .int (nI s)), (3, .int (nI V.length)), (4, .int l), (5, .int r), (6, .int x6), (7, .int cm)] [] h (mx_KV (Pst h0 x s G V P Z n0 m0) fun _ _ => False) := by
  have sr := rs.sr
  have at204 : ∀ l r : Int32, mx_SX mY_X12_runsSeveral d 204 [(0, .ref 320), (1, .int (nI s)), (3, .int (nI V.length)), (4, .int l), (5, .int r)] [] h (mx_KV (Pst h0 x s G V P Z n0 m0) fun _ _ => False) := fun l r => by
    have r1 := rs.vdrop
    refine b_X12_runsSeveral_204 320 _ _ _ _ ⟨sr_k sr, ?_⟩
    rintro _ rfl
    have k1 := k_X12_isStoppedNow_s (d := d - 1) r1
    rw [hX, if_pos rfl] at k1
    exact ⟨by omega, mx_xKI2 k1 ⟨fun _ => Or.inl ⟨rfl, Or.inr ⟨hX, js, r1⟩⟩, fun c => absurd c (by decide)⟩⟩
  have k1 := k_X12_isStoppedNow_s (d := d - 1) rs
  rw [hX, if_pos rfl] at k1
  exact b_X12_runsSeveral_17 320 _ _ _ _ _ _ ⟨fun _ => at204 _ _, fun _ => ⟨by omega, sr_k sr, mx_xKI2 k1 ⟨fun _ => at204 _ _, fun c => absurd c (by decide)⟩⟩⟩
/-- a command's shell ends: its status, the pipe ahead is closed -/
theorem sv_145 (hd : 6 ≤ d) {q : Nat} {y : spX} {jq : List Nat} {x1 x3 x5 x6 cm x9 : Int32} (hcm : ∃ i, cm = nI i ∧ i < 3000) (hT : rtabs h0 = T) (hX : wX (xw y) = false) (r : RG h0 h (xw y) ((q, y.2, jq) :: L) V P ([], [], Z) n m 1000)
    {b pp : Nat} (ha : x6 = -1 ∨ (x6 = nI b ∧ b < 400 ∧ (nI b, pp) ∈ Z ∧ (∀ e ∈ L, ∀ k, k < 10 → ∀ a, fH e.2.1.1 k = some a → notP (xw y) pp a) ∧ (∀ z ∈ V, ∀ a, z = some (some a) → notP (xw y) pp a) ∧ ∀ z ∈ Z, z.2 = pp → z = (nI b, pp)))
    (K : ∀ h2, RG h0 h2 (xw y) L V P ([], [], if x6 = -1 then Z else Z.filter fun z => decide (z.2 ≠ pp)) n m 1000 →
      mx_SX mY_X12_runsSeveral d 17 [(0, .ref 320), (1, .int x1), (3, .int x3), (4, .int (fS (xf y))), (5, .int (if fS (xf y) = 0 then x5 else fS (xf y))), (6, .int x9), (7, .int (tN T cm))] [] h2 Q) :
    mx_SX mY_X12_runsSeveral d 145 [(0, .ref 320), (1, .int x1), (3, .int x3), (5, .int x5), (6, .int x6), (7, .int cm), (8, .int (nI q)), (9, .int x9)] [] h Q := by
  have sr := r.sr
  have hq := r.own.1
  obtain ⟨ic, ec, hic⟩ := hcm
  have vin : vp_in cm 3000 := by rw [ec]; exact vp_in_nI hic (by omega)
  have r1 := r.dead
  have s1 := r1.sr
  have at188 : ∀ h2 rr, rr = (if fS (xf y) = 0 then x5 else fS (xf y)) → RG h0 h2 (xw y) L V P ([], [], if x6 = -1 then Z else Z.filter fun z => decide (z.2 ≠ pp)) n m 1000 →
      mx_SX mY_X12_runsSeveral d 188 [(0, .ref 320), (1, .int x1), (3, .int x3), (4, .int (fS (xf y))), (5, .int rr), (7, .int cm), (9, .int x9)] [] h2 Q := fun h2 rr er r2 => by
    subst er
    refine b_X12_runsSeveral_188 320 _ _ _ _ _ _ ⟨sr_k r2.sr, 328, sr_r38 r2.sr, sr_k328 r2.sr, by rw [sr_z328 r2.sr]; exact vin, ?_⟩
    rw [show hpI h2 328 cm.toNatClampNeg = tN T cm by rw [← hT, ← r2.rt]; rfl]
    exact K h2 r2
  have cl : ∀ rr, rr = (if fS (xf y) = 0 then x5 else fS (xf y)) → (x6 = -1 → mx_SX mY_X12_runsSeveral d 188 [(0, .ref 320), (1, .int x1), (3, .int x3), (4, .int (fS (xf y))), (5, .int rr), (7, .int cm), (9, .int x9)] [] (hsI h 354 (83 * q + 82) 0) Q) ∧
      (¬ x6 = -1 → hpK (hsI h 354 (83 * q + 82) 0) 320 = 12 ∧ mx_SM mY_X12_closesPipe (d - 1) [.ref 320, .int x6] (hsI h 354 (83 * q + 82) 0) (mx_KV (fun h3 => mx_SX mY_X12_runsSeveral d 188 [(0, .ref 320), (1, .int x1), (3, .int x3), (4, .int (fS (xf y))), (5, .int rr), (7, .int cm), (9, .int x9)] [] h3 Q) (mx_XX mY_X12_runsSeveral Q))) := fun rr er => by
    refine ⟨fun c => at188 _ rr er (by rw [if_pos c]; exact r1), fun c => ⟨sr_k s1, ?_⟩⟩
    rcases ha with e | ⟨e, b4, hZ, hG, hV, hZ2⟩
    · exact absurd e c
    rw [e]
    refine mx_uV (k_X12_closesPipe (by omega) r1 hZ hG hV hZ2) fun h3 r3 => at188 h3 rr er ?_
    rw [if_neg c]; exact r3
  refine b_X12_runsSeveral_145 320 _ _ _ _ _ _ _ ⟨by omega, sr_k sr, mx_xKI2 (k_X12_statusOf (by omega) r) ⟨fun c => ⟨sr_k sr, mx_xKV (k_X12_sets (j := 82) sr (by omega)) (cl x5 (by rw [if_pos c]))⟩, fun c => ⟨sr_k sr, mx_xKV (k_X12_sets (j := 82) sr (by omega)) (cl _ (by rw [if_neg c]))⟩⟩⟩
theorem sv_145s (hd : 6 ≤ d) {q : Nat} {w : spW} {E : spS} {jq : List Nat} {x3 x5 x6 cm x9 : Int32} (hcm : ∃ i, cm = nI i ∧ i < 3000) (hX : wX w = true) (r : RGs h0 h w ((q, E, jq) :: (s, x.2, js) :: G) (V ++ W) P) (ex : x3 = nI V.length) (hx : xw x = w)
    (ha : x6 = -1 ∨ ∃ b, x6 = nI b ∧ b < 400) :
    mx_SX mY_X12_runsSeveral d 145 [(0, .ref 320), (1, .int (nI s)), (3, .int x3), (5, .int x5), (6, .int x6), (7, .int cm), (8, .int (nI q)), (9, .int x9)] [] h (mx_KV (Pst h0 x s G V P Z n0 m0) fun _ _ => False) := by
  subst ex
  subst hx
  have sr := r.sr
  have hq := r.own.1
  obtain ⟨ic, ec, hic⟩ := hcm
  have vin : vp_in cm 3000 := by rw [ec]; exact vp_in_nI hic (by omega)
  have r1 : RGs h0 (hsI h 354 (83 * q + 82) 0) (xw x) ((s, x.2, js) :: G) (V ++ W) P := (r.set0 (j := 82) (v := 0) (by omega) (by omega)).sub (List.sublist_cons_self _ _)
  have s1 := r1.sr
  have at188 : ∀ h2 (l rr : Int32), RGs h0 h2 (xw x) ((s, x.2, js) :: G) (V ++ W) P →
      mx_SX mY_X12_runsSeveral d 188 [(0, .ref 320), (1, .int (nI s)), (3, .int (nI V.length)), (4, .int l), (5, .int rr), (7, .int cm), (9, .int x9)] [] h2 (mx_KV (Pst h0 x s G V P Z n0 m0) fun _ _ => False) := fun h2 l rr r2 => by
    refine b_X12_runsSeveral_188 320 _ _ _ _ _ _ ⟨sr_k r2.sr, 328, sr_r38 r2.sr, sr_k328 r2.sr, by rw [sr_z328 r2.sr]; exact vin, ?_⟩
    exact sv_17s (by omega) hX r2
  have cl : ∀ l rr : Int32, (x6 = -1 → mx_SX mY_X12_runsSeveral d 188 [(0, .ref 320), (1, .int (nI s)), (3, .int (nI V.length)), (4, .int l), (5, .int rr), (7, .int cm), (9, .int x9)] [] (hsI h 354 (83 * q + 82) 0) (mx_KV (Pst h0 x s G V P Z n0 m0) fun _ _ => False)) ∧
      (¬ x6 = -1 → hpK (hsI h 354 (83 * q + 82) 0) 320 = 12 ∧ mx_SM mY_X12_closesPipe (d - 1) [.ref 320, .int x6] (hsI h 354 (83 * q + 82) 0) (mx_KV (fun h3 => mx_SX mY_X12_runsSeveral d 188 [(0, .ref 320), (1, .int (nI s)), (3, .int (nI V.length)), (4, .int l), (5, .int rr), (7, .int cm), (9, .int x9)] [] h3 (mx_KV (Pst h0 x s G V P Z n0 m0) fun _ _ => False)) (mx_XX mY_X12_runsSeveral (mx_KV (Pst h0 x s G V P Z n0 m0) fun _ _ => False)))) := fun l rr => by
    refine ⟨fun c => at188 _ l rr r1, fun c => ⟨sr_k s1, ?_⟩⟩
    rcases ha with e | ⟨b, e, b4⟩
    · exact absurd e c
    rw [e]
    exact mx_uV (r1.close (by omega) b4) fun h3 r3 => at188 h3 l rr r3
  exact b_X12_runsSeveral_145 320 _ _ _ _ _ _ _ ⟨by omega, sr_k sr, mx_xKI2 (k_X12_statusOf_raw (by omega) sr hq) ⟨fun c => ⟨sr_k sr, mx_xKV (k_X12_sets (j := 82) sr (by omega)) (cl _ _)⟩, fun c => ⟨sr_k sr, mx_xKV (k_X12_sets (j := 82) sr (by omega)) (cl _ _)⟩⟩⟩
end MXR3
