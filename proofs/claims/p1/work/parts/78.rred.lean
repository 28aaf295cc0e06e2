/-! THE REFERENCE: redirections -/
section MXRR
variable {d : Nat} {h0 h h1 h2 : mxH} {w w1 : spW} {G : List spE} {V : List (Option (Option Nat))} {P : List spX} {N : spN} {n m m' xs : Nat} {Q : mxRes → mxH → Prop} {X : List (Int32 × spL)} {Y Z : List (Int32 × Nat)} {s : Nat} {S : spS} {js : List Nat}
theorem lN_cl {k : Nat} (h : k < 2 ^ 31) : (lN k).toNatClampNeg = k := by
  unfold lN
  have : (Int64.ofNat k).toInt = k := by
    rw [Int64.toInt_ofNat']
    simp [Int.bmod]; omega
  show (Int64.ofNat k).toInt.toNat = k
  rw [this]; rfl
/-- a handle of the own shell is set, while it is not counted -/
theorem RG.hput (r : RG h0 h w ((s, S, js) :: G) V P N n m s) {k : Nat} (hk : k < 10) {v : Int32} {x : Option Nat} (hx : ∀ A, RFh A (shR (hpI h 354) s) (fH S.1) → RV A (hpI h 352) (hpI h 320 69) V → (∀ q ∈ N.2.1, RHv A q.1 (some q.2)) → RHv A v x) :
    RG h0 (hsI h 354 (83 * s + (36 + k)) v) w ((s, (vH S.1 (fup (fH S.1) k x), S.2), js) :: G) V P N n m s := by
  have h82 : hpI h 354 (83 * s + 82) = 1 ∧ shR (hpI h 354) s 0 = nI (fV S.1).length ∧ (fV S.1).length ≤ 20 := by
    obtain ⟨A, B, Qs, -, -, -, -, -, -, he, -⟩ := r
    obtain ⟨a1, a2, a3, -⟩ := he.1 _ List.mem_cons_self
    exact ⟨a2, a3.1.1, a3.1.2.1⟩
  have := RG.row r (S' := (vH S.1 (fup (fH S.1) k x), S.2)) (js' := js) (f := fup (hpI h 354) (83 * s + (36 + k)) v) (g := hpL h 355) (offS.rf.up (by omega)) offN.rf
    (by rw [fup_n (by omega)]; exact h82.1)
    (fun ln A o => by
      rw [shR_up]
      exact ⟨o.1.other (by omega) (by omega) (by omega), o.2.1.put (hx A o.2.1 o.2.2.2.1 o.2.2.2.2.2), o.2.2.1.other (by omega)⟩)
    (fun L hL _ j hj => by
      rw [shR_up] at hj ⊢
      rw [fup_n (by omega)] at hj
      have z := hj
      rw [h82.2.1, nI_clamp (by omega)] at z
      rw [fup_n (by omega)]
      exact hL j hj)
    (fun q => absurd rfl q)
  have e : ∀ f, hrL (hrI h 354 f) 355 (hpL h 355) = hrI h 354 f := fun f => by
    have : hpL h 355 = hpL (hrI h 354 f) 355 := rfl
    rw [this, hrL_self]
  rw [e] at this
  exact this
/-- the count of what others hold is as before -/
theorem RG.recount {G' : List spE} {X' : List (Int32 × spL)} {Y' Z' : List (Int32 × Nat)} {n' : Nat} (r' : RG h0 h2 w1 G' V P (X, [], Z) n m' xs) (r : RG h1 h w G V P (X', Y', Z') n' m xs) (e1 : offS (hpI h 354) (hpI h2 354) xs) (e2 : hpI h2 352 = hpI h 352) : RG h0 h2 w1 G' V P (X, [], Z) n m xs := by
  obtain ⟨A, B, Qs, fr, sr, hw, ht, ho, hp, he, hv, hk, hc, hd, hz, hN⟩ := r'
  obtain ⟨A', B', Qs', -, -, -, -, -, -, -, -, -, -, ⟨Lo, l1, l2, l3, l4⟩, -⟩ := r
  refine ⟨A, B, Qs, fr, sr, hw, ht, ho, hp, he, hv, hk, hc, ⟨Lo, l1, fun s' g1 g2 g3 k hk => ?_, fun k hk => ?_, fun q hq => absurd hq List.not_mem_nil⟩, hz, hN⟩
  · rw [e1 s' 82 g2 (by omega)] at g3
    have := e1 s' (36 + k) g2 (by omega)
    rw [Nat.add_assoc, this, ← Nat.add_assoc]
    exact l2 s' g1 g2 g3 k hk
  · rw [e2]; exact l3 k hk
theorem RG.ftrunc (r : RG h0 h w G V P N n m xs) {i : Nat} (hi : i < (wF w).length) : RG h0 (hsI h 342 (1 + 41 * i) 0) (setF w i []) G V P N n m xs := by
  obtain ⟨a1, a2, a3, a4⟩ := r.rw1.at hi
  have hw1 := r.rw1
  have := r.world (w' := setF w i []) (f := fup (hpI h 342) (1 + 41 * i) 0) (g := hpL h 343) rfl rfl rfl rfl rfl rfl (by rw [List.length_set]; exact Nat.le_refl _) (fun ln hw hX h00 => by
    exact hw.file hi (by rw [fup_e]; rfl) (Nat.zero_le _) (fun k hk => absurd hk (Nat.not_lt_zero _)) (fun k hk => fup_n (by omega))) (fun L hL hX h00 => by
    obtain ⟨b1, b2, b3⟩ := hw1.cnt
    exact hL.file a4 (c := 0) (by rw [fup_e]; rfl) (Nat.zero_le _) (fun k hk => absurd hk (Nat.not_lt_zero _)) (fun k hk => fup_n (by omega)) b1 b2 b3)
  have e : hrL (hrI h 342 (fup (hpI h 342) (1 + 41 * i) 0)) 343 (hpL h 343) = hrI h 342 (fup (hpI h 342) (1 + 41 * i) 0) := hrL_self (h := hrI h 342 (fup (hpI h 342) (1 + 41 * i) 0))
  rw [e] at this
  exact this
theorem RG.hv (r : RG h0 h w ((s, S, js) :: G) V P N n m xs) {k : Nat} (hk : k < 10) : (fH S.1 k = none ∧ hpI h 354 (83 * s + 36 + k) = -1) ∨ ∃ o a, fH S.1 k = some a ∧ hpI h 354 (83 * s + 36 + k) = nI o ∧ o < 4000 := by
  obtain ⟨A, B, Qs, -, -, -, -, -, -, he, -⟩ := r
  have := (he.1 _ List.mem_cons_self).2.2.2.1 k hk
  have e : shR (hpI h 354) s (36 + k) = hpI h 354 (83 * s + 36 + k) := by show hpI h 354 (83 * s + (36 + k)) = _; rw [Nat.add_assoc]
  have this : RHv A (shR (hpI h 354) s (36 + k)) (fH S.1 k) := this
  rw [e] at this
  rcases this with q | ⟨o, a, q1, q2, q3, -⟩
  · exact Or.inl q
  · exact Or.inr ⟨o, a, q1, q2, q3⟩
/-- a good redirection -/
def okR (T : spT) (v : Int32) : Prop := (∃ i, v = nI i ∧ i < 3000) ∧ (∃ k, tA T v = nI k ∧ k < 10) ∧ (tC T v = -1 ∨ ∃ k, tC T v = nI k ∧ k < 10)
theorem dRed_h {T : spT} {v : Int32} : (dRed T v).2.1 = (tA T v).toNatClampNeg := by
  unfold dRed
  split
  · split <;> rfl
  · split
    · rfl
    · split <;> rfl
theorem Fr.rt2 (r : Fr h0 h) : rtabs h = rtabs h0 := r.rt
theorem RG.rt (r : RG h0 h w G V P N n m xs) : rtabs h = rtabs h0 := by
  obtain ⟨A, B, Qs, fr, -⟩ := r; exact fr.rt
theorem if_136 (hd : 4 ≤ d) (r : RG h0 h w ((s, S, js) :: G) V P (X, [], Z) n m s) (hm : m + 10 < 4000) (hV : V.length ≤ 8000) {v : Int32} (hv : ∃ i, v = nI i ∧ i < 3000) {i kd k : Nat} (hi : i < (wF w).length) (hk : k < 10)
    (hkd : kd = if tB (rtabs h) v = 60 then 2 else if tB (rtabs h) v = 62 then 3 else 4) :
    mx_SX mY_X12_isFor d 136 [(0, .ref 320), (2, .int v), (3, .int (nI i))] [] h (mx_KI (fun v1 h1 => v1 ≠ -2 ∧ hpI h1 354 = hpI h 354 ∧ hpI h1 352 = hpI h 352 ∧ SR h1 ∧ rtabs h1 = rtabs h0 ∧
      RG h0 (hsI h1 354 (83 * s + (36 + k)) v1) (opn w kd i).2 ((s, (vH S.1 (fup (fH S.1) k (some (opn w kd i).1)), S.2), js) :: G) V P (X, [], Z) n m s) fun _ _ => False) := by
  have sr := r.sr
  obtain ⟨iv, rfl, hiv⟩ := hv
  have vin : vp_in (nI iv) 3000 := vp_in_nI hiv (by omega)
  have eB : hpI h 325 (nI iv).toNatClampNeg = tB (rtabs h) (nI iv) := rfl
  have k6 : kd = 2 ∨ kd = 3 ∨ kd = 4 := by rw [hkd]; split; exact Or.inl rfl; split; exact Or.inr (Or.inl rfl); exact Or.inr (Or.inr rfl)
  have key : mx_SM mY_X12_opened (d - 1) [.ref 320, .int (nI kd), .int (nI i)] h (mx_KI (fun v1 h1 => mx_KI (fun v1 h1 => v1 ≠ -2 ∧ hpI h1 354 = hpI h 354 ∧ hpI h1 352 = hpI h 352 ∧ SR h1 ∧ rtabs h1 = rtabs h0 ∧
      RG h0 (hsI h1 354 (83 * s + (36 + k)) v1) (opn w kd i).2 ((s, (vH S.1 (fup (fH S.1) k (some (opn w kd i).1)), S.2), js) :: G) V P (X, [], Z) n m s) (fun _ _ => False) (.inl (some (.int v1))) h1) (mx_XX mY_X12_isFor (mx_KI (fun v1 h1 => v1 ≠ -2 ∧ hpI h1 354 = hpI h 354 ∧ hpI h1 352 = hpI h 352 ∧ SR h1 ∧ rtabs h1 = rtabs h0 ∧
      RG h0 (hsI h1 354 (83 * s + (36 + k)) v1) (opn w kd i).2 ((s, (vH S.1 (fup (fH S.1) k (some (opn w kd i).1)), S.2), js) :: G) V P (X, [], Z) n m s) fun _ _ => False))) := by
    refine mx_uI (k_X12_opened (o := i) (by omega) r hm hV (by omega) (by omega) (fun _ => ⟨rfl, hi⟩) (fun q => absurd q (by omega))) fun v1 h1 q => ?_
    obtain ⟨q1, q2, q3⟩ := q
    have vb : v1 ≠ -2 := by
      obtain ⟨A, B, Qs, -, -, -, -, -, -, -, -, -, -, -, -, -, hN2, -⟩ := q1
      rcases hN2 _ List.mem_cons_self with ⟨g, -⟩ | ⟨o, a, g1, g2, g3, -⟩
      · cases g
      · intro e
        have e' : nI o = -2 := g2.symm.trans e
        have e2 := congrArg Int32.toInt e'
        rw [nI_toInt (by omega)] at e2
        have e3 : (-2 : Int32).toInt = -2 := by decide
        rw [e3] at e2; omega
    refine Or.inl ⟨_, rfl, vb, q2, q3, q1.sr, q1.rt, ?_⟩
    have r2 := q1.hput hk (v := v1) (x := some (opn w kd i).1) (fun A _ _ hY => hY _ List.mem_cons_self)
    refine RG.recount (r2.drop (N' := (X, [], Z)) (fun _ h => h) (fun _ h => absurd h List.not_mem_nil) (fun _ h => h)) r ?_ ?_
    · rw [hpI_sIs, q2]; exact offS.rf.up (by omega)
    · rw [hpI_sIo (by decide)]; exact q3
  refine b_X12_isFor_136 320 _ _ ⟨sr_k sr, 325, sr_r35 sr, sr_k325 sr, by rw [sr_z325 sr]; exact vin, ?_⟩
  rw [eB]
  refine ⟨fun c1 => ⟨fun c2 => ⟨by omega, ?_⟩, fun c2 => ⟨by omega, ?_⟩⟩, fun c1 => ⟨by omega, ?_⟩⟩
  · have e : kd = 4 := by rw [hkd, if_neg c1, if_neg c2]
    subst e; exact key
  · have e : kd = 3 := by rw [hkd, if_neg c1, if_pos c2]
    subst e; exact key
  · have e : kd = 2 := by rw [hkd, if_pos c1]
    subst e; exact key
/-- a redirection's answer, when it is put into the row -/
def rdr (h0 h : mxH) (G : List spE) (V : List (Option (Option Nat))) (P : List spX) (X : List (Int32 × spL)) (Z : List (Int32 × Nat)) (n m s k : Nat) (S : spS) (js : List Nat) (w : spW) (o : Option (spW × spF)) (v : Int32) (h1 : mxH) : Prop := match o with
  | none => v = -2 ∧ RG h0 h1 w ((s, S, js) :: G) V P (X, [], Z) n m s
  | some (w1, f1) => v ≠ -2 ∧ hpI h1 354 = hpI h 354 ∧ hpI h1 352 = hpI h 352 ∧ SR h1 ∧ rtabs h1 = rtabs h0 ∧ RG h0 (hsI h1 354 (83 * s + (36 + k)) v) w1 ((s, (f1, S.2), js) :: G) V P (X, [], Z) n m s
theorem k_X12_isFor (hd : 4 ≤ d) (r : RG h0 h w ((s, S, js) :: G) V P (X, [], Z) n m s) (hm : m + 10 < 4000) (hV : V.length ≤ 8000) {v : Int32} (ok : okR (rtabs h0) v) {k : Nat} (hk : tA (rtabs h0) v = nI k) (hk2 : k < 10) :
    mx_SM mY_X12_isFor d [.ref 320, .int (nI s), .int v] h (mx_KI (rdr h0 h G V P X Z n m s k S js w (redOp (dRed (rtabs h0) v) w S.1)) fun _ _ => False) := by
  have sr := r.sr
  have hs := r.own.1
  have rt0 := r.rt
  obtain ⟨⟨iv, rfl, hiv⟩, ⟨ka, ea, ka2⟩, ok3⟩ := ok
  have kk : (dRed (rtabs h0) (nI iv)).2.1 = k := by rw [dRed_h, hk, nI_clamp (by omega)]
  have vin : vp_in (nI iv) 3000 := vp_in_nI hiv (by omega)
  have eB : hpI h 325 (nI iv).toNatClampNeg = tB (rtabs h0) (nI iv) := by rw [← rt0]; rfl
  have eC : hpI h 326 (nI iv).toNatClampNeg = tC (rtabs h0) (nI iv) := by rw [← rt0]; rfl
  have eM : hpL h 330 (nI iv).toNatClampNeg = tM (rtabs h0) (nI iv) := by rw [← rt0]; rfl
  refine b_X12_isFor 320 _ _ ⟨sr_k sr, 325, sr_r35 sr, sr_k325 sr, by rw [sr_z325 sr]; exact vin, ?_⟩
  rw [eB]
  have dup : tB (rtabs h0) (nI iv) = 15398 ∨ tB (rtabs h0) (nI iv) = 15910 → mx_SX mY_X12_isFor d 24 [(0, .ref 320), (1, .int (nI s)), (2, .int (nI iv))] [] h (mx_KI (rdr h0 h G V P X Z n m s k S js w (redOp (dRed (rtabs h0) (nI iv)) w S.1)) fun _ _ => False) := fun cB => by
    refine b_X12_isFor_24 320 _ _ ⟨sr_k sr, 326, sr_r36 sr, sr_k326 sr, by rw [sr_z326 sr]; exact vin, ?_⟩
    rw [eC]
    refine ⟨fun c => ⟨by omega, ?_⟩, fun c => ?_⟩
    · rcases ok3 with q | ⟨kc, ec, kc2⟩
      · exact absurd q c
      have er : redOp (dRed (rtabs h0) (nI iv)) w S.1 = match fH S.1 kc with
          | none => none
          | some o => some (w, vH S.1 (fup (fH S.1) k (some o))) := by
        have e1 : dRed (rtabs h0) (nI iv) = (3, (tA (rtabs h0) (nI iv)).toNatClampNeg, (tC (rtabs h0) (nI iv)).toInt64) := by unfold dRed; rw [if_pos cB, if_neg c]
        rw [e1, hk, ec, nI_clamp (by omega), nI_l (by omega)]
        unfold redOp
        simp only []
        rw [lN_cl (by omega)]
        rfl
      rw [ec]
      refine mx_xKI2 (k_X12_handle sr hs kc2) ?_
      rcases r.hv kc2 with ⟨g1, g2⟩ | ⟨o, a, g1, g2, g3⟩
      · rw [g2]
        refine ⟨fun c => absurd rfl c, fun _ => Or.inl ⟨_, rfl, ?_⟩⟩
        rw [er, g1]
        exact ⟨rfl, r⟩
      · rw [g2]
        refine ⟨fun _ => ⟨sr_k sr, 326, sr_r36 sr, sr_k326 sr, by rw [sr_z326 sr]; exact vin, ?_⟩, fun c => absurd c (fun q => (nI_neg1 (by omega)).mp q)⟩
        rw [eC, ec]
        refine mx_xKI2 (k_X12_handle sr hs kc2) (Or.inl ⟨_, rfl, ?_⟩)
        rw [er, g1, g2]
        refine ⟨?_, rfl, rfl, sr, rt0, ?_⟩
        · intro e
          have e2 := congrArg Int32.toInt e
          rw [nI_toInt (by omega)] at e2
          have e3 : (-2 : Int32).toInt = -2 := by decide
          rw [e3] at e2; omega
        · refine r.hput hk2 (v := nI o) (x := some a) fun A hA _ _ => ?_
          have := hA kc kc2
          rw [g1] at this
          have e : shR (hpI h 354) s (36 + kc) = hpI h 354 (83 * s + 36 + kc) := by show hpI h 354 (83 * s + (36 + kc)) = _; rw [Nat.add_assoc]
          rw [e, g2] at this
          exact this
    · refine Or.inl ⟨_, rfl, ?_⟩
      have er : redOp (dRed (rtabs h0) (nI iv)) w S.1 = some (w, vH S.1 (fup (fH S.1) k none)) := by
        have e1 : dRed (rtabs h0) (nI iv) = (4, (tA (rtabs h0) (nI iv)).toNatClampNeg, 0) := by unfold dRed; rw [if_pos cB, if_pos c]
        rw [e1, hk, nI_clamp (by omega)]
        rfl
      rw [er]
      exact ⟨by decide, rfl, rfl, sr, rt0, r.hput hk2 (v := -1) (x := none) fun _ _ _ _ => Or.inl ⟨rfl, rfl⟩⟩
  refine ⟨fun c => dup (Or.inl c), fun c1 => ⟨fun c2 => ⟨fun c3 => ?_, fun c3 => ?_⟩, fun c => dup (Or.inr c)⟩⟩
  · -- behind, to
    have c12 : ¬ (tB (rtabs h0) (nI iv) = 15398 ∨ tB (rtabs h0) (nI iv) = 15910) := fun q => q.elim c1 c2
    refine ⟨330, sr_r40 sr, sr_k330 sr, by rw [sr_z330 sr]; exact vin, by omega, ?_⟩
    rw [eM]
    refine mx_uI (k_X12_makes (by omega) r) fun v1 h1 q => ?_
    by_cases c4 : tB (rtabs h0) (nI iv) = 62
    · have er : redOp (dRed (rtabs h0) (nI iv)) w S.1 = match mkF w (tM (rtabs h0) (nI iv)) with
          | none => none
          | some (i, w1) => some ((opn (setF w1 i []) 3 i).2, vH S.1 (fup (fH S.1) k (some (opn (setF w1 i []) 3 i).1))) := by
        have e1 : dRed (rtabs h0) (nI iv) = (1, (tA (rtabs h0) (nI iv)).toNatClampNeg, tM (rtabs h0) (nI iv)) := by unfold dRed; rw [if_neg c12, if_neg c3, if_pos c4]
        rw [e1, hk, nI_clamp (by omega)]
        rfl
      rw [er]
      revert q
      cases mkF w (tM (rtabs h0) (nI iv)) with
      | none => rintro ⟨rfl, r1⟩; exact ⟨fun c => absurd rfl c, fun _ => Or.inl ⟨_, rfl, rfl, r1⟩⟩
      | some iw =>
        obtain ⟨i, w1⟩ := iw
        rintro ⟨rfl, i1, i2, r1, f1, f2⟩
        have s1 := r1.sr
        have eB1 : hpI h1 325 (nI iv).toNatClampNeg = tB (rtabs h0) (nI iv) := by rw [← r1.rt]; rfl
        refine ⟨fun _ => ⟨sr_k s1, 325, sr_r35 s1, sr_k325 s1, by rw [sr_z325 s1]; exact vin, ?_⟩, fun c => absurd c (fun q => (nI_neg1 (by omega)).mp q)⟩
        rw [eB1]
        refine ⟨fun c => absurd c4 c, fun _ => ⟨342, sr_r56 s1, sr_k342 s1, ?_⟩⟩
        rw [show (1 : Int32) + 41 * nI i = nI (1 + 41 * i) by rw [show (41 : Int32) * nI i = nI (41 * i) from pk_mul 41 i]; exact nI_add 1 _, nI_clamp (by omega)]
        refine ⟨by rw [sr_z342 s1]; exact vp_in_nI (by omega) (by omega), ?_⟩
        rintro _ rfl
        have r2 := r1.ftrunc i1
        have lF : i < (wF (setF w1 i [])).length := by show i < ((wF w1).set i _).length; rw [List.length_set]; exact i1
        refine (if_136 (by omega) r2 hm hV ⟨iv, rfl, hiv⟩ lF hk2 (kd := 3) (by rw [r2.rt, if_neg c3, if_pos c4])).mono fun rr hh q => ?_
        rcases q with ⟨v2, rfl, q1, q2, q3, q4, q5, q6⟩ | ⟨E, rfl, q⟩
        · exact Or.inl ⟨v2, rfl, q1, by rw [q2, hpI_sIo (by decide), f1], by rw [q3, hpI_sIo (by decide), f2], q4, q5, q6⟩
        · exact q.elim
    · have er : redOp (dRed (rtabs h0) (nI iv)) w S.1 = match mkF w (tM (rtabs h0) (nI iv)) with
          | none => none
          | some (i, w1) => some ((opn w1 4 i).2, vH S.1 (fup (fH S.1) k (some (opn w1 4 i).1))) := by
        have e1 : dRed (rtabs h0) (nI iv) = (2, (tA (rtabs h0) (nI iv)).toNatClampNeg, tM (rtabs h0) (nI iv)) := by unfold dRed; rw [if_neg c12, if_neg c3, if_neg c4]
        rw [e1, hk, nI_clamp (by omega)]
        rfl
      rw [er]
      revert q
      cases mkF w (tM (rtabs h0) (nI iv)) with
      | none => rintro ⟨rfl, r1⟩; exact ⟨fun c => absurd rfl c, fun _ => Or.inl ⟨_, rfl, rfl, r1⟩⟩
      | some iw =>
        obtain ⟨i, w1⟩ := iw
        rintro ⟨rfl, i1, i2, r1, f1, f2⟩
        have s1 := r1.sr
        have eB1 : hpI h1 325 (nI iv).toNatClampNeg = tB (rtabs h0) (nI iv) := by rw [← r1.rt]; rfl
        refine ⟨fun _ => ⟨sr_k s1, 325, sr_r35 s1, sr_k325 s1, by rw [sr_z325 s1]; exact vin, ?_⟩, fun c => absurd c (fun q => (nI_neg1 (by omega)).mp q)⟩
        rw [eB1]
        refine ⟨fun _ => ?_, fun c => absurd c c4⟩
        refine (if_136 (by omega) r1 hm hV ⟨iv, rfl, hiv⟩ i1 hk2 (kd := 4) (by rw [r1.rt, if_neg c3, if_neg c4])).mono fun rr hh q => ?_
        rcases q with ⟨v2, rfl, q1, q2, q3, q4, q5, q6⟩ | ⟨E, rfl, q⟩
        · exact Or.inl ⟨v2, rfl, q1, by rw [q2, f1], by rw [q3, f2], q4, q5, q6⟩
        · exact q.elim
  · have c12 : ¬ (tB (rtabs h0) (nI iv) = 15398 ∨ tB (rtabs h0) (nI iv) = 15910) := fun q => q.elim c1 c2
    refine ⟨330, sr_r40 sr, sr_k330 sr, by rw [sr_z330 sr]; exact vin, by omega, ?_⟩
    rw [eM]
    refine mx_xKI2 (k_X12_fileOf r) ?_
    have er : redOp (dRed (rtabs h0) (nI iv)) w S.1 = match tbF (wF w) (tM (rtabs h0) (nI iv)) with
        | none => none
        | some i => some ((opn w 2 i).2, vH S.1 (fup (fH S.1) k (some (opn w 2 i).1))) := by
      have e1 : dRed (rtabs h0) (nI iv) = (0, (tA (rtabs h0) (nI iv)).toNatClampNeg, tM (rtabs h0) (nI iv)) := by unfold dRed; rw [if_neg c12, if_pos c3]
      rw [e1, hk, nI_clamp (by omega)]
      rfl
    rw [er]
    cases e : tbF (wF w) (tM (rtabs h0) (nI iv)) with
    | none => exact ⟨fun c => absurd rfl c, fun _ => Or.inl ⟨_, rfl, rfl, r⟩⟩
    | some i =>
      obtain ⟨hi, -⟩ := tbF_at e
      have h8 := r.rw1.1.2.1
      refine ⟨fun _ => ⟨sr_k sr, 325, sr_r35 sr, sr_k325 sr, by rw [sr_z325 sr]; exact vin, ?_⟩, fun c => absurd c (ixI_some (by omega))⟩
      rw [eB]
      refine ⟨fun _ => ?_, fun c => absurd (c3.symm.trans c) (by decide)⟩
      exact (if_136 (by omega) r hm hV ⟨iv, rfl, hiv⟩ hi hk2 (kd := 2) (by rw [rt0, if_pos c3])).mono fun rr hh q => by
        rcases q with ⟨v2, rfl, q1, q2, q3, q4, q5, q6⟩ | ⟨E, rfl, q⟩
        · exact Or.inl ⟨v2, rfl, q1, q2, q3, q4, q5, q6⟩
        · exact q.elim
theorem rd_7 (hd : 5 ≤ d) (hV : V.length ≤ 8000) (hm : m + 10 < 4000) : ∀ k (v : Int32) (h : mxH) (w : spW) (f : spF), RG h0 h w ((s, (f, S.2), js) :: G) V P (X, [], Z) n m s → chE (rtabs h0) k v → (∀ a ∈ chn (rtabs h0) k v, okR (rtabs h0) a) →
    mx_SX mY_X12_redirects d 7 [(0, .ref 320), (1, .int (nI s)), (3, .int v)] [] h (mx_KI (fun b h1 => b = (if (redOps ((chn (rtabs h0) k v).map (dRed (rtabs h0))) w f).1 = true then 1 else 0) ∧
      RG h0 h1 (redOps ((chn (rtabs h0) k v).map (dRed (rtabs h0))) w f).2.1 ((s, ((redOps ((chn (rtabs h0) k v).map (dRed (rtabs h0))) w f).2.2, S.2), js) :: G) V P (X, [], Z) n m s) fun _ _ => False) := by
  intro k
  induction k with
  | zero => intro v h w f _ hc; exact hc.elim
  | succ k ih =>
    intro v h w f r hc hok
    have sr := r.sr
    have hs := r.own.1
    by_cases c : v = -1
    · have e : chn (rtabs h0) (k + 1) v = [] := by unfold chn; rw [if_pos c]
      rw [e]
      exact b_X12_redirects_7 320 _ _ ⟨fun _ => Or.inl ⟨_, rfl, rfl, r⟩, fun c2 => absurd c c2⟩
    · have e : chn (rtabs h0) (k + 1) v = v :: chn (rtabs h0) k (tN (rtabs h0) v) := by rw [chn, if_neg c]
      rw [e] at hok ⊢
      rcases hc with hc | ⟨⟨iv, ev, hiv⟩, hc⟩
      · exact absurd hc c
      have ok := hok v List.mem_cons_self
      obtain ⟨ka, ea, ka2⟩ := ok.2.1
      have vin : vp_in v 3000 := by rw [ev]; exact vp_in_nI hiv (by omega)
      have ro : redOps ((v :: chn (rtabs h0) k (tN (rtabs h0) v)).map (dRed (rtabs h0))) w f = match redOp (dRed (rtabs h0) v) w f with
          | none => (false, w, f)
          | some (w1, f1) => redOps ((chn (rtabs h0) k (tN (rtabs h0) v)).map (dRed (rtabs h0))) w1 f1 := rfl
      rw [ro]
      refine b_X12_redirects_7 320 _ _ ⟨fun c2 => absurd c2 c, fun _ => ⟨by omega, sr_k sr, mx_uI (k_X12_isFor (by omega) r hm hV ok ea ka2) fun v1 h1 q => ?_⟩⟩
      revert q
      show rdr h0 h G V P X Z n m s ka (f, S.2) js w (redOp (dRed (rtabs h0) v) w f) v1 h1 → _
      cases redOp (dRed (rtabs h0) v) w f with
      | none =>
        rintro ⟨rfl, r1⟩
        exact ⟨fun c => absurd rfl c, fun _ => Or.inl ⟨_, rfl, rfl, r1⟩⟩
      | some wf =>
        obtain ⟨w1, f1⟩ := wf
        rintro ⟨q1, q2, q3, s1, t1, r1⟩
        refine ⟨fun _ => ⟨sr_k s1, 324, sr_r34 s1, sr_k324 s1, by rw [sr_z324 s1]; exact vin, ?_⟩, fun c => absurd c q1⟩
        rw [show hpI h1 324 v.toNatClampNeg = nI ka by rw [← ea, ← t1]; rfl, show (36 : Int32) + nI ka = nI (36 + ka) from nI_add 36 ka]
        refine mx_xKV (k_X12_sets s1 (by omega)) ?_
        have s2 := r1.sr
        refine ⟨sr_k s2, 328, sr_r38 s2, sr_k328 s2, by rw [sr_z328 s2]; exact vin, ?_⟩
        rw [show hpI (hsI h1 354 (83 * s + (36 + ka)) v1) 328 v.toNatClampNeg = tN (rtabs h0) v by rw [← r1.rt]; rfl]
        exact ih _ _ w1 f1 r1 hc fun a ha => hok a (List.mem_cons_of_mem _ ha)
theorem k_X12_redirects (hd : 5 ≤ d) (hV : V.length ≤ 8000) (hm : m + 10 < 4000) (r : RG h0 h w ((s, S, js) :: G) V P (X, [], Z) n m s) {cm : Int32} (hcm : ∃ i, cm = nI i ∧ i < 3000) (hc : chE (rtabs h0) 3000 (tR (rtabs h0) cm)) (hok : ∀ a ∈ chn (rtabs h0) 3000 (tR (rtabs h0) cm), okR (rtabs h0) a) :
    mx_SM mY_X12_redirects d [.ref 320, .int (nI s), .int cm] h (mx_KI (fun b h1 => b = (if (redOps (redsOf (rtabs h0) cm) w S.1).1 = true then 1 else 0) ∧
      RG h0 h1 (redOps (redsOf (rtabs h0) cm) w S.1).2.1 ((s, ((redOps (redsOf (rtabs h0) cm) w S.1).2.2, S.2), js) :: G) V P (X, [], Z) n m s) fun _ _ => False) := by
  have sr := r.sr
  obtain ⟨i, rfl, hi⟩ := hcm
  refine b_X12_redirects 320 _ _ ⟨sr_k sr, 327, sr_r37 sr, sr_k327 sr, by rw [sr_z327 sr]; exact vp_in_nI hi (by omega), ?_⟩
  rw [show hpI h 327 (nI i).toNatClampNeg = tR (rtabs h0) (nI i) by rw [← r.rt]; rfl]
  exact rd_7 hd hV hm 3000 _ _ _ S.1 r hc hok
end MXRR
