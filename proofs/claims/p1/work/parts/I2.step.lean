/-! Machine.doStep DOES WHAT THE PURE MACHINE'S STEP SAYS -/
section MXI2
variable {C : cC} {h h1 h2 h6 : mxH} {s s' d t k sl o c i p p' n fl pu pq : Nat} {v bh : Int32} {w w' : spW} {A A' A2 : Nat → Option Nat} {G G' G2 : List cE} {T : List cT} {Ks : List spH} {P P' : cP} {cur cur' : Option Nat} {pl rn : Int32} {XL XL' FS FS' VS VS' OS OS' inh inh' RS RS' : List Nat} {D : pmC} {e : cE} {x y x2 : Nat} {fh hs : spH} {f f' F1 gg : spF} {en en' en2 last : Bool} {jb jb' js js' : List spJ} {jl jl' : List Nat} {fr fr' : List pmF} {K : List (pmU × pmL)} {Z : List cZ} {m m1 : pmM} {ex : Nat → Prop} {oh ah : Option Nat} {bg : Bool} {l : spL} {as : List spL} {q0 : pmF}
/-- the end of a step of the class's machine -/
abbrev StZ (C : cC) (s fl : Nat) (m1 : pmM) : mxRes → mxH → Prop := fun r h1 => r = .inl none ∧ ((fl = 0 ∧ CMn C h1 (s + 1) m1) ∨ (fl = 1 ∧ CStp C h1 (s + 1) m1) ∨ (fl = 2 ∧ CEnd C h1 (s + 1) m1))
theorem g_jumpIf (hd : 1 ≤ d) {b : Bool} (g : CG C h s w A G T Ks P cur pl rn XL FS VS OS inh) : mx_SM mY_X4_jumpIf d [.ref 282, .int (if b = true then 1 else 0), .int (nI t)] h (fun r h1 => r = .inl none ∧ CG C h1 s w A G T Ks P cur (if b = true then nI t else pl) rn XL FS VS OS inh) := by
  cases b with
  | true =>
    refine b_X4_jumpIf 282 _ _ ⟨fun c => absurd c (by decide), fun _ => ⟨sc_k282 g.sc, ?_⟩⟩
    rintro _ rfl
    exact ⟨rfl, g.sp⟩
  | false => exact b_X4_jumpIf 282 _ _ ⟨fun _ => ⟨rfl, g⟩, fun c => absurd rfl c⟩
theorem s_sel (hd : 7 ≤ d) (cz : CMz C h s 1 (w, p + 1, (f, en, js, fr), K) A x jl Z P XL FS VS OS) (pi : PI (kcD C) (w, p, (f, en, js, fr), K)) (hs : s < 2 ^ 31) (e : pmSel (kcD C) w p f en js fr K (kSt (kcD C) p) = some (fl, m1)) {Q : mxRes → mxH → Prop} (hQ : ∀ r h1, StZ C s fl m1 r h1 → Q r h1) :
    (((nI (kSt (kcD C) p)).toInt < 1 ∨ 21 < (nI (kSt (kcD C) p)).toInt → mx_SX mY_X4_doStep d 404 [] [] h Q) ∧
     ((nI (kSt (kcD C) p)).toInt = 1 → mx_SX mY_X4_doStep d 136 [(0, .ref 282), (2, .int (nI (kOp (kcD C) p))), (3, .int (nI (kTg (kcD C) p)))] [] h Q) ∧
     ((nI (kSt (kcD C) p)).toInt = 2 → mx_SX mY_X4_doStep d 145 [(0, .ref 282), (2, .int (nI (kOp (kcD C) p)))] [] h Q) ∧
     ((nI (kSt (kcD C) p)).toInt = 3 → mx_SX mY_X4_doStep d 153 [(0, .ref 282), (2, .int (nI (kOp (kcD C) p)))] [] h Q) ∧
     ((nI (kSt (kcD C) p)).toInt = 4 → mx_SX mY_X4_doStep d 161 [(0, .ref 282), (2, .int (nI (kOp (kcD C) p)))] [] h Q) ∧
     ((nI (kSt (kcD C) p)).toInt = 5 → mx_SX mY_X4_doStep d 187 [(0, .ref 282), (2, .int (nI (kOp (kcD C) p))), (3, .int (nI (kTg (kcD C) p)))] [] h Q) ∧
     ((nI (kSt (kcD C) p)).toInt = 6 → mx_SX mY_X4_doStep d 196 [(0, .ref 282)] [] h Q) ∧
     ((nI (kSt (kcD C) p)).toInt = 7 → mx_SX mY_X4_doStep d 203 [(0, .ref 282)] [] h Q) ∧
     ((nI (kSt (kcD C) p)).toInt = 8 → mx_SX mY_X4_doStep d 214 [(0, .ref 282)] [] h Q) ∧
     ((nI (kSt (kcD C) p)).toInt = 9 → mx_SX mY_X4_doStep d 239 [(0, .ref 282), (3, .int (nI (kTg (kcD C) p)))] [] h Q) ∧
     ((nI (kSt (kcD C) p)).toInt = 10 → mx_SX mY_X4_doStep d 247 [(0, .ref 282), (3, .int (nI (kTg (kcD C) p)))] [] h Q) ∧
     ((nI (kSt (kcD C) p)).toInt = 11 → mx_SX mY_X4_doStep d 270 [(0, .ref 282), (3, .int (nI (kTg (kcD C) p)))] [] h Q) ∧
     ((nI (kSt (kcD C) p)).toInt = 12 → mx_SX mY_X4_doStep d 293 [(0, .ref 282)] [] h Q) ∧
     ((nI (kSt (kcD C) p)).toInt = 13 → mx_SX mY_X4_doStep d 304 [(0, .ref 282), (3, .int (nI (kTg (kcD C) p)))] [] h Q) ∧
     ((nI (kSt (kcD C) p)).toInt = 14 → mx_SX mY_X4_doStep d 312 [(0, .ref 282), (3, .int (nI (kTg (kcD C) p)))] [] h Q) ∧
     ((nI (kSt (kcD C) p)).toInt = 15 → mx_SX mY_X4_doStep d 332 [(0, .ref 282), (3, .int (nI (kTg (kcD C) p)))] [] h Q) ∧
     ((nI (kSt (kcD C) p)).toInt = 16 → mx_SX mY_X4_doStep d 346 [(0, .ref 282), (3, .int (nI (kTg (kcD C) p)))] [] h Q) ∧
     ((nI (kSt (kcD C) p)).toInt = 17 → mx_SX mY_X4_doStep d 354 [(0, .ref 282), (3, .int (nI (kTg (kcD C) p)))] [] h Q) ∧
     ((nI (kSt (kcD C) p)).toInt = 18 → mx_SX mY_X4_doStep d 372 [(0, .ref 282), (3, .int (nI (kTg (kcD C) p)))] [] h Q) ∧
     ((nI (kSt (kcD C) p)).toInt = 19 → mx_SX mY_X4_doStep d 381 [(0, .ref 282), (3, .int (nI (kTg (kcD C) p)))] [] h Q) ∧
     ((nI (kSt (kcD C) p)).toInt = 20 → mx_SX mY_X4_doStep d 390 [(0, .ref 282)] [] h Q) ∧
     ((nI (kSt (kcD C) p)).toInt = 21 → mx_SX mY_X4_doStep d 397 [(0, .ref 282)] [] h Q)) := by
  have g := cz.cg
  have k4 := sc_k282 g.sc
  obtain ⟨pb, pd⟩ := g.pg
  obtain ⟨sx, hx⟩ := g.sb
  obtain ⟨p1, p2, p3, p4, p5, p6, p7, p8, p9, p10, p11⟩ := pi
  have p1 : p < kZ (kcD C) := p1
  have p2 : okW w 0 1 := p2
  have p5 : fr.length + nFK K ≤ 2900 := p5
  have p6 : nSL fr + nSK K ≤ wB w := p6
  have p7 : K.length ≤ 100 := p7
  have p8 : stat (fS f) := p8
  have kz : kZ (kcD C) ≤ 2801 := pd.1.1
  obtain ⟨-, q21, -, -, -, tg⟩ := pd.1.2.2 p p1
  have oc := pd.2.2.2.2 p p1
  have kM : kcN C + wM w < 3199 := by
    have a := g.k0.2.2.2.2.2.1
    have b := p2.2.1
    have c := p2.1
    omega
  have st6 : hpI h x 6 = fS f := g.cf.2.2.2.2.2.1
  have fin : ∀ {hh : mxH}, StZ C s fl m1 (.inl none) hh → mx_SX mY_X4_doStep d 404 [] [] hh Q := fun q => b_X4_doStep_404 (hQ _ _ q)
  have kq : ∀ {Y : mxY} {As : List Value} {hh : mxH}, mx_SM Y (d - 1) As hh (StQ C s fl m1) → mx_SM Y (d - 1) As hh (mx_KV (fun h2 => mx_SX mY_X4_doStep d 404 [] [] h2 Q) (mx_XX mY_X4_doStep Q)) := fun q => q.mono fun r h1 z => Or.inl ⟨z.1, fin ⟨rfl, Or.inl z.2⟩⟩
  have kk3 := g.k0.2.2.2.2.2.2.2.2.2.2 p p1
  have kk5 := g.k0.2.2.2.2.2.2.2.2.2.1 p p1
  have uU : (wU w).length < 302 := by
    have a := p2.2.2.2.1
    have b := p2.1
    omega
  have p4 : (kSt (kcD C) p = 4 ∨ (kSt (kcD C) p = 3 ∧ kKd (kcD C) (kOp (kcD C) p) ≠ 11)) → okW w 1 0 := p4
  generalize kSt (kcD C) p = k at q21 oc e p4 kk3 kk5
  rw [nI_ti (by omega)]
  refine ⟨fun q => ?_, fun q => ?_, fun q => ?_, fun q => ?_, fun q => ?_, fun q => ?_, fun q => ?_, fun q => ?_, fun q => ?_, fun q => ?_, fun q => ?_, fun q => ?_, fun q => ?_, fun q => ?_, fun q => ?_, fun q => ?_, fun q => ?_, fun q => ?_, fun q => ?_, fun q => ?_, fun q => ?_, fun q => ?_⟩
  · obtain rfl : k = 0 := by omega
    have e : pmGo1 en K w (p + 1) f js fr = some (fl, m1) := e
    cases e
    exact fin ⟨rfl, Or.inl ⟨rfl, cz.same WGr.rf (g.sm (by omega)) rfl⟩⟩
  · obtain rfl : k = 1 := by omega
    have e : pmBeg (kcD C) w p f en js fr K (kOp (kcD C) p) (kTg (kcD C) p) = some (fl, m1) := e
    refine b_X4_doStep_136 282 _ _ ⟨by omega, k4, (s_begin (d := d - 1) (by omega) cz (oc (by omega)) hs p5 p6 e).mono ?_⟩
    rintro r h1 ⟨rfl, q⟩
    refine Or.inl ⟨rfl, fin ⟨rfl, ?_⟩⟩
    rcases q with q | q
    · exact Or.inl q
    · exact Or.inr (Or.inl q)
  · obtain rfl : k = 2 := by omega
    have e : pmFns (kcD C) w p f en js fr K (kOp (kcD C) p) = some (fl, m1) := e
    exact b_X4_doStep_145 282 _ ⟨by omega, k4, kq (s_finish (d := d - 1) (by omega) cz (oc (by omega)) hs e)⟩
  · obtain rfl : k = 3 := by omega
    have e : pmCll (kcD C) w p f en js fr K (kKd (kcD C) (kOp (kcD C) p)).toNatClampNeg (kNm (kcD C) (kOp (kcD C) p)) ((kAr (kcD C) (kOp (kcD C) p)).map (evA f)) = some (fl, m1) := e
    refine b_X4_doStep_153 282 _ ⟨by omega, k4, kq (s_call (d := d - 1) (by omega) cz (oc (by omega)) (by omega) p8 (by omega) p5 (kk3 rfl) kM (fun c => ?_) e)⟩
    have o1 := p4 (Or.inr ⟨rfl, c⟩)
    have a := o1.1
    have b := o1.2.2.1
    omega
  · obtain rfl : k = 4 := by omega
    have e : pmRes (kcD C) p en js fr K (opAsgn (kNm (kcD C) (kOp (kcD C) p)) (((kAr (kcD C) (kOp (kcD C) p)).map (evA f)).getD 0 []) w f) = some (fl, m1) := e
    refine b_X4_doStep_161 282 _ ⟨k4, x, g.r10, 283, sc_r282_2 g.sc, kcG C, g.r9, by omega, sc_k283 g.sc, (o_assign (d := d - 1) (by omega) (g.lk p8) (oc (by omega)) kM).mono ?_⟩
    rintro r h1 o
    obtain ⟨a1, a2, a3, a4⟩ := opAsgn_ok (n := kNm (kcD C) (kOp (kcD C) p)) (a := ((kAr (kcD C) (kOp (kcD C) p)).map (evA f)).getD 0 []) (w := w) (f := f)
    obtain ⟨b1, b2⟩ := s_status cz o (by rw [a4]; show _ = kcN C + (wM w + 1); omega) a2 a3 (by rw [a4]; exact WGr.of (Nat.le_refl _) rfl) a1 e
    refine Or.inl ⟨_, o.1, b1, ?_⟩
    intro h2 e2
    exact fin ⟨rfl, Or.inl (b2 h2 e2)⟩
  · obtain rfl : k = 5 := by omega
    have e : pmDef (kcD C) w p f en js fr K (kTg (kcD C) p) (kOp (kcD C) p) = some (fl, m1) := e
    exact b_X4_doStep_187 282 _ _ ⟨by omega, k4, kq (s_define (d := d - 1) (by omega) cz (oc (by omega)) (kk5 (Or.inl rfl)) e)⟩
  · obtain rfl : k = 6 := by omega
    have e : pmRet w f en js fr K = some (fl, m1) := e
    exact b_X4_doStep_196 282 ⟨by omega, k4, kq (s_return (d := d - 1) (by omega) cz p9 e)⟩
  · obtain rfl : k = 7 := by omega
    have e : pmGo1 en K w (p + 1) (vS f 0) js fr = some (fl, m1) := e
    cases e
    refine b_X4_doStep_203 282 ⟨k4, x, g.r10, sx.k0, ?_⟩
    rintro _ rfl
    exact fin ⟨rfl, Or.inl ⟨rfl, cz.same WGr.rf (g.st.sm (by omega)) rfl⟩⟩
  · obtain rfl : k = 8 := by omega
    have e : pmGo1 en K w (p + 1) (vS f (if fS f = 0 then 1 else 0)) js fr = some (fl, m1) := e
    refine b_X4_doStep_214 282 ⟨k4, x, g.r10, sx.k0, ?_⟩
    rw [st6]
    refine ⟨fun c => ?_, fun c => ?_⟩
    · rintro _ rfl
      rw [if_neg c] at e
      cases e
      exact fin ⟨rfl, Or.inl ⟨rfl, cz.same WGr.rf (g.st.sm (by omega)) rfl⟩⟩
    · rintro _ rfl
      rw [if_pos c] at e
      cases e
      exact fin ⟨rfl, Or.inl ⟨rfl, cz.same WGr.rf (g.st.sm (by omega)) rfl⟩⟩
  · obtain rfl : k = 9 := by omega
    have e : pmGo1 en K w (kTg (kcD C) p) f js fr = some (fl, m1) := e
    cases e
    refine b_X4_doStep_239 282 _ ⟨k4, ?_⟩
    rintro _ rfl
    exact fin ⟨rfl, Or.inl ⟨rfl, cz.same WGr.rf (g.sp.sm (by omega)) rfl⟩⟩
  · obtain rfl : k = 10 := by omega
    have e : pmGo1 en K w (if fS f = 0 then kTg (kcD C) p else p + 1) f js fr = some (fl, m1) := e
    refine b_X4_doStep_247 282 _ ⟨k4, x, g.r10, sx.k0, ?_⟩
    rw [st6]
    refine ⟨fun c => ⟨by omega, (g_jumpIf (d := d - 1) (b := false) (by omega) g).mono ?_⟩, fun c => ⟨by omega, (g_jumpIf (d := d - 1) (b := true) (by omega) g).mono ?_⟩⟩
    · rintro r h1 ⟨rfl, g1⟩
      rw [if_neg c] at e
      cases e
      exact Or.inl ⟨rfl, fin ⟨rfl, Or.inl ⟨rfl, cz.same WGr.rf (CG.sm g1 (by omega)) rfl⟩⟩⟩
    · rintro r h1 ⟨rfl, g1⟩
      rw [if_pos c] at e
      cases e
      exact Or.inl ⟨rfl, fin ⟨rfl, Or.inl ⟨rfl, cz.same WGr.rf (CG.sm g1 (by omega)) rfl⟩⟩⟩
  · obtain rfl : k = 11 := by omega
    have e : pmGo1 en K w (if fS f = 0 then p + 1 else kTg (kcD C) p) f js fr = some (fl, m1) := e
    refine b_X4_doStep_270 282 _ ⟨k4, x, g.r10, sx.k0, ?_⟩
    rw [st6]
    refine ⟨fun c => ⟨by omega, (g_jumpIf (d := d - 1) (b := false) (by omega) g).mono ?_⟩, fun c => ⟨by omega, (g_jumpIf (d := d - 1) (b := true) (by omega) g).mono ?_⟩⟩
    · rintro r h1 ⟨rfl, g1⟩
      rw [if_pos c] at e
      cases e
      exact Or.inl ⟨rfl, fin ⟨rfl, Or.inl ⟨rfl, cz.same WGr.rf (CG.sm g1 (by omega)) rfl⟩⟩⟩
    · rintro r h1 ⟨rfl, g1⟩
      rw [if_neg c] at e
      cases e
      exact Or.inl ⟨rfl, fin ⟨rfl, Or.inl ⟨rfl, cz.same WGr.rf (CG.sm g1 (by omega)) rfl⟩⟩⟩
  · obtain rfl : k = 12 := by omega
    have e : pmGo1 en K w (p + 1) f js ((5, 0, 0, 0, pmN, none) :: fr) = some (fl, m1) := e
    cases e
    refine b_X4_doStep_293 282 ⟨by omega, k4, (g_push (d := d - 1) g (by rw [List.length_append, List.length_map, TFk_len]; omega)).mono ?_⟩
    rintro r h1 ⟨rfl, g1⟩
    refine Or.inl ⟨rfl, fin ⟨rfl, Or.inl ⟨rfl, cz.push (q := (5, 0, 0, 0, pmN, none)) WGr.rf (show CG C h1 (s + 1) w A _ _ (tsv ((5, 0, 0, 0, pmN, none) :: fr) ++ TSK K) _ _ _ _ _ _ _ _ _ from by rw [tsv_k (by decide)]; exact g1.sm (by omega)) ⟨Or.inr (Or.inr (Or.inr (Or.inr (Or.inl rfl)))), fun c => absurd c (fun c => by rcases c with c | c | c <;> exact nomatch c), (fun c => nomatch c), (fun c => nomatch c)⟩ (fun c => nomatch c) (by show 0 + cN fr ≤ fN f; have := cz.cn; omega)⟩⟩⟩
  · obtain rfl : k = 13 := by omega
    have e : pmTst w p f en js fr K (kTg (kcD C) p) = some (fl, m1) := e
    unfold pmTst at e
    by_cases c : fS f = 0
    · rw [if_pos c] at e
      cases e
      refine b_X4_doStep_304 282 _ ⟨by omega, k4, (g_testLoop (d := d - 1) (by omega) g (fun q => absurd c q)).mono ?_⟩
      rintro r h1 ⟨rfl, b1, -⟩
      exact Or.inl ⟨rfl, fin ⟨rfl, Or.inl ⟨rfl, cz.same WGr.rf ((b1 c).sm (by omega)) rfl⟩⟩⟩
    · rw [if_neg c] at e
      rcases fr with _ | ⟨q0, fr⟩
      · exact nomatch e
      · simp only [] at e
        by_cases q5 : q0.1 = 5
        · rw [if_pos q5] at e
          cases e
          rw [tsv_n (by omega)] at g
          refine b_X4_doStep_304 282 _ ⟨by omega, k4, (g_testLoop (d := d - 1) (by omega) g (fun _ => ⟨tfR q0, fr.map tfR ++ TFk K, rfl⟩)).mono ?_⟩
          rintro r h1 ⟨rfl, -, b2⟩
          refine Or.inl ⟨rfl, fin ⟨rfl, Or.inl ⟨rfl, cz.pop WGr.rf ((b2 c _ _ rfl).sm (by omega)) ?_⟩⟩⟩
          have cn := cz.cn
          unfold cN at cn
          show cN fr ≤ fN f
          omega
        · rw [if_neg q5] at e
          exact nomatch e
  · obtain rfl : k = 14 := by omega
    have e : pmAgn w f en js fr K (kTg (kcD C) p) = some (fl, m1) := e
    unfold pmAgn at e
    rcases fr with _ | ⟨q0, fr⟩
    · exact nomatch e
    · simp only [] at e
      by_cases q5 : q0.1 = 5
      · rw [if_pos q5] at e
        cases e
        have g' : CG C h s w A ((x, (f, en, js), jl) :: (cJs js jl ++ cG Z)) (tfR q0 :: (fr.map tfR ++ TFk K)) (tsv (q0 :: fr) ++ TSK K) P (some x) (nI (p + 1)) 1 XL FS VS OS [] := g
        rw [tsv_n (by omega)] at g'
        refine b_X4_doStep_312 282 _ ⟨k4, x, g.r10, sx.k0, by omega, ?_⟩
        rw [st6]
        refine (g_setField (d := d - 1) (k := 1) (a := fS f) (by decide) g').mono ?_
        rintro r h1 ⟨rfl, g1⟩
        refine Or.inl ⟨rfl, sc_k282 g1.sc, ?_⟩
        rintro _ rfl
        have g2 := g1.sp (v := nI (kTg (kcD C) p))
        have et : ySt (tfR q0) 1 (fS f) = tfR (5, fS f, q0.2.2) := by
          unfold ySt tfR
          simp only []
          rw [q5]
          rfl
        rw [et] at g2
        refine fin ⟨rfl, Or.inl ⟨rfl, cz.top (q' := (5, fS f, q0.2.2)) WGr.rf (show CG C _ (s + 1) w A _ _ (tsv ((5, fS f, q0.2.2) :: fr) ++ TSK K) _ _ _ _ _ _ _ _ _ from by rw [tsv_k2 (by decide)]; exact g2.sm (by omega)) ⟨Or.inr (Or.inr (Or.inr (Or.inr (Or.inl rfl)))), fun c => absurd c (fun c => by rcases c with c | c | c <;> exact nomatch c), (fun c => nomatch c), (fun c => nomatch c)⟩ (fun c => nomatch c) ?_⟩⟩
        have cn := cz.cn
        unfold cN at cn
        show 0 + cN fr ≤ fN f
        omega
      · rw [if_neg q5] at e
        exact nomatch e
  · obtain rfl : k = 15 := by omega
    have e : pmFrk w p f en js fr K (kTg (kcD C) p) = some (fl, m1) := e
    unfold pmFrk at e
    cases e
    refine (s_fork (d := d) (by omega) cz p7 p5 tg).mono ?_
    rintro r h1 ⟨rfl, q⟩
    exact hQ _ _ ⟨rfl, Or.inl ⟨rfl, q⟩⟩
  · obtain rfl : k = 16 := by omega
    have e : pmMkj (kcD C) w p f en js fr K (kTg (kcD C) p) = some (fl, m1) := e
    exact b_X4_doStep_346 282 _ ⟨by omega, k4, kq (s_job (d := d - 1) (by omega) cz p7 (kk5 (Or.inr rfl)) e)⟩
  · obtain rfl : k = 17 := by omega
    have e : pmPip w p f en js ((6, 0, 0, -1, pmN, none) :: fr) K false (kTg (kcD C) p) = some (fl, m1) := e
    unfold pmPip at e
    simp only [] at e
    rw [if_pos trivial] at e
    cases e
    refine b_X4_doStep_354 282 _ ⟨by omega, k4, (g_push (d := d - 1) g (by rw [List.length_append, List.length_map, TFk_len]; omega)).mono ?_⟩
    rintro r h1 ⟨rfl, g1⟩
    refine Or.inl ⟨rfl, sc_k282 g1.sc, (s_pip (d := d - 1) (last := false) (q0 := (6, 0, 0, -1, pmN, none)) (fr' := fr) (t := kTg (kcD C) p) (by omega) cz p7 (by omega) tg uU (show CG C h1 s w A _ _ (tsv ((6, 0, 0, -1, pmN, none) :: fr) ++ TSK K) _ _ _ _ _ _ _ _ _ from by rw [tsv_k (by decide)]; exact g1) (Nat.le_refl _) rfl (Or.inl ⟨rfl, rfl⟩) cz.fo ?_ cz.cn).mono ?_⟩
    · have : pnF ((6, 0, 0, -1, pmN, none) :: fr) = pnF fr := by
        unfold pnF
        rw [List.filterMap_cons, if_pos rfl]
      rw [this]; exact cz.nd
    · rintro r h2 ⟨rfl, q⟩
      exact Or.inl ⟨rfl, fin ⟨rfl, Or.inl ⟨rfl, q⟩⟩⟩
  · obtain rfl : k = 18 := by omega
    have e : pmPip w p f en js fr K false (kTg (kcD C) p) = some (fl, m1) := e
    unfold pmPip at e
    rcases fr with _ | ⟨q0, fr⟩
    · exact nomatch e
    · simp only [] at e
      by_cases q6 : q0.1 = 6
      · rw [if_pos q6] at e
        cases e
        have cn := cz.cn
        unfold cN at cn
        have p5' : fr.length + 1 + nFK K ≤ 2900 := p5
        refine b_X4_doStep_372 282 _ ⟨by omega, k4, (s_pip (d := d - 1) (last := false) (q0 := q0) (fr' := fr) (t := kTg (kcD C) p) (by omega) cz p7 (by rw [List.length_cons]; omega) tg uU g (by rw [List.length_cons]; omega) q6 (Or.inr (cz.fo q0 List.mem_cons_self)) (fun q hq => cz.fo q (List.mem_cons_of_mem _ hq)) cz.nd (by omega)).mono ?_⟩
        rintro r h2 ⟨rfl, q⟩
        exact Or.inl ⟨rfl, fin ⟨rfl, Or.inl ⟨rfl, q⟩⟩⟩
      · rw [if_neg q6] at e
        exact nomatch e
  · obtain rfl : k = 19 := by omega
    have e : pmPip w p f en js fr K true (kTg (kcD C) p) = some (fl, m1) := e
    unfold pmPip at e
    rcases fr with _ | ⟨q0, fr⟩
    · exact nomatch e
    · simp only [] at e
      by_cases q6 : q0.1 = 6
      · rw [if_pos q6] at e
        cases e
        have cn := cz.cn
        unfold cN at cn
        have p5' : fr.length + 1 + nFK K ≤ 2900 := p5
        refine b_X4_doStep_381 282 _ ⟨by omega, k4, (s_pip (d := d - 1) (last := true) (q0 := q0) (fr' := fr) (t := kTg (kcD C) p) (by omega) cz p7 (by rw [List.length_cons]; omega) tg uU g (by rw [List.length_cons]; omega) q6 (Or.inr (cz.fo q0 List.mem_cons_self)) (fun q hq => cz.fo q (List.mem_cons_of_mem _ hq)) cz.nd (by omega)).mono ?_⟩
        rintro r h2 ⟨rfl, q⟩
        exact Or.inl ⟨rfl, fin ⟨rfl, Or.inl ⟨rfl, q⟩⟩⟩
      · rw [if_neg q6] at e
        exact nomatch e
  · obtain rfl : k = 20 := by omega
    have e : pmPpd w p f en js fr K = some (fl, m1) := e
    unfold pmPpd at e
    rcases fr with _ | ⟨q0, fr⟩
    · exact nomatch e
    · simp only [] at e
      by_cases q8 : q0.1 = 8
      · rw [if_pos q8] at e
        cases e
        have g' : CG C h s w A ((x, (f, en, js), jl) :: (cJs js jl ++ cG Z)) (tfR q0 :: (fr.map tfR ++ TFk K)) (tsv (q0 :: fr) ++ TSK K) P (some x) (nI (p + 1)) 1 XL FS VS OS [] := g
        rw [tsv_n (by omega)] at g'
        refine b_X4_doStep_390 282 ⟨by omega, k4, (g_finishPipeline (d := d - 1) (by omega) g').mono ?_⟩
        rintro r h1 ⟨rfl, g1⟩
        have e3 : (tfR q0).2.2.1 = q0.2.2.1 := by
          unfold tfR
          simp only []
          rw [if_neg (by omega)]
        rw [e3] at g1
        refine Or.inl ⟨rfl, fin ⟨rfl, Or.inl ⟨rfl, cz.pop WGr.rf (g1.sm (by omega)) ?_⟩⟩⟩
        have cn := cz.cn
        unfold cN at cn
        show cN fr ≤ fN f
        omega
      · rw [if_neg q8] at e
        exact nomatch e
  · obtain rfl : k = 21 := by omega
    have e : pmFin (kcD C) w f en js fr K = some (fl, m1) := e
    refine b_X4_doStep_397 282 ⟨by omega, k4, (s_end (d := d - 1) (by omega) cz p5 (by omega) (by omega) e).mono ?_⟩
    rintro r h1 ⟨rfl, q⟩
    refine Or.inl ⟨rfl, fin ⟨rfl, ?_⟩⟩
    rcases q with q | q
    · exact Or.inl q
    · exact Or.inr (Or.inr q)
theorem s_doStep (hd : 7 ≤ d) (cm : CMn C h s m) (pi : PI (kcD C) m) (hs : s < 2 ^ 31) (e : pmStep (kcD C) m = some (fl, m1)) : mx_SM mY_X4_doStep d [.ref 282] h (StZ C s fl m1) := by
  obtain ⟨w, p, ⟨f, en, js, fr⟩, K⟩ := m
  obtain ⟨A, x, jl, Z, P, XL, FS, VS, OS, cz⟩ := cm
  have g : CG C h s w A ((x, (f, en, js), jl) :: (cJs js jl ++ cG Z)) (fr.map tfR ++ TFk K) (tsv fr ++ TSK K) P (some x) (nI p) 1 XL FS VS OS [] := cz.1
  have k4 := sc_k282 g.sc
  obtain ⟨pb, pd⟩ := g.pg
  have p1 : p < kZ (kcD C) := pi.1
  refine b_X4_doStep 282 ⟨k4, kcG C, g.r9, by omega, pb.1, ?_⟩
  rw [g.r11]
  refine mx_xKI2 (p_operandAt (by omega) pb pd p1) ⟨k4, kcG C, g.r9, pb.1, mx_xKI2 (p_targetAt (by omega) pb pd p1) ⟨k4, ?_⟩⟩
  rw [nI_1]
  rintro _ rfl
  have g1 := g.sp (v := nI (p + 1))
  obtain ⟨pb1, pd1⟩ := g1.pg
  refine ⟨kcG C, g1.r9, pb1.1, mx_xKI2 (p_stepAt (by omega) pb1 pd1 p1) ?_⟩
  exact s_sel hd (show CMz C (hsI h 282 11 (nI (p + 1))) s 1 (w, p + 1, (f, en, js, fr), K) A x jl Z P XL FS VS OS from ⟨g1, cz.2.1, cz.2.2.1, cz.2.2.2⟩) pi hs e (fun _ _ q => q)
end MXI2
