/-! Machine.call, whole -/
section MXI1
variable {C : cC} {h h1 h2 h6 : mxH} {s s' d t k sl o c i p p' n fl pu pq : Nat} {v bh : Int32} {w w' : spW} {A A' A2 : Nat → Option Nat} {G G' G2 : List cE} {T : List cT} {Ks : List spH} {P P' : cP} {cur cur' : Option Nat} {pl rn : Int32} {XL XL' FS FS' VS VS' OS OS' inh inh' RS RS' : List Nat} {D : pmC} {e : cE} {x y x2 : Nat} {fh hs : spH} {f f' F1 gg : spF} {en en' en2 last : Bool} {jb jb' js js' : List spJ} {jl jl' : List Nat} {fr fr' : List pmF} {K : List (pmU × pmL)} {Z : List cZ} {m1 : pmM} {ex : Nat → Prop} {oh ah : Option Nat} {bg : Bool} {l : spL} {as : List spL} {q0 : pmF}
theorem s_321 {Q : mxRes → mxH → Prop} (q : Q (.inl none) h) : mx_SX mY_X4_call d 321 [] [] h Q := b_X4_call_321 q
theorem s_call (hd : 6 ≤ d) (cz : CMz C h s 1 (w, p + 1, (f, en, js, fr), K) A x jl Z P XL FS VS OS) (hc : c < kcC C) (hz : 0 < kZ (kcD C)) (hst : stat (fS f)) (hp : p + 1 < 2 ^ 31) (hl : fr.length + nFK K ≤ 2900) (hkk : ∃ k, k ≤ 12 ∧ kKd (kcD C) c = nI k) (hM : kcN C + wM w < 3199) (hT : kKd (kcD C) c ≠ 11 → totU w + 40 ≤ 12000)
    (e : pmCll (kcD C) w p f en js fr K (kKd (kcD C) c).toNatClampNeg (kNm (kcD C) c) ((kAr (kcD C) c).map (evA f)) = some (fl, m1)) : mx_SM mY_X4_call d [.ref 282, .int (nI c)] h (StQ C s fl m1) := by
  obtain ⟨k, k12, ek⟩ := hkk
  have g := cz.cg
  have k4 := sc_k282 g.sc
  obtain ⟨pb, pd⟩ := g.pg
  obtain ⟨sx, hx⟩ := g.sb
  have lk := g.lk hst
  have ch := g.ch
  rw [ek] at e hT
  rw [nI_clamp (by omega)] at e
  refine b_X4_call 282 _ ⟨k4, kcG C, g.r9, by omega, pb.1, mx_xKI2 (p_kindOf (by omega) pb pd hc) ?_⟩
  rw [ek, nI_ti (by omega)]
  have r2 := sc_r282_2 g.sc
  have k283 := sc_k283 g.sc
  have kv : ∀ {Y : mxY} {As : List Value} {hh : mxH}, mx_SM Y (d - 1) As hh (StQ C s fl m1) → mx_SM Y (d - 1) As hh (mx_KV (fun h2 => mx_SX mY_X4_call d 321 [] [] h2 (StQ C s fl m1)) (mx_XX mY_X4_call (StQ C s fl m1))) := fun q => q.mono fun r h1 z => Or.inl ⟨z.1, b_X4_call_321 ⟨rfl, z.2⟩⟩
  refine ⟨fun q => absurd q (by omega), fun q => ?_, fun q => ?_, fun q => ?_, fun q => ?_, fun q => ?_, fun q => ?_, fun q => ?_, fun q => ?_, fun q => ?_, fun q => ?_, fun q => ?_, fun q => ?_, fun q => ?_⟩
  · obtain rfl : k = 0 := by omega
    have e : pmFnc (kcD C) w p f en js fr K (kNm (kcD C) c) = some (fl, m1) := e
    exact b_X4_call_76 282 _ ⟨k4, kcG C, g.r9, by omega, pb.1, mx_xKL2 (p_nameOf (by omega) pb pd hc) ⟨k4, kv (s_fnc (by omega) cz hp hl e)⟩⟩
  · obtain rfl : k = 1 := by omega
    have e : pmGo1 en K w (p + 1) (vS f 0) js fr = some (fl, m1) := e
    cases e
    refine b_X4_call_91 282 ⟨k4, x, g.r10, sx.k0, ?_⟩
    rintro _ rfl
    exact b_X4_call_321 ⟨rfl, rfl, cz.same WGr.rf (g.st.sm (by omega)) rfl⟩
  · obtain rfl : k = 2 := by omega
    have e : pmGo1 en K w (p + 1) (vS f 1) js fr = some (fl, m1) := e
    cases e
    refine b_X4_call_102 282 ⟨k4, x, g.r10, sx.k0, ?_⟩
    rintro _ rfl
    exact b_X4_call_321 ⟨rfl, rfl, cz.same WGr.rf (g.st.sm (by omega)) rfl⟩
  · obtain rfl : k = 3 := by omega
    have e : pmRes (kcD C) p en js fr K (opEcho ((kAr (kcD C) c).map (evA f)) w f) = some (fl, m1) := e
    have t12 := hT (by decide)
    refine b_X4_call_113 282 _ ⟨k4, x, g.r10, 283, r2, kcG C, g.r9, by omega, k283, (o_echo (d := d - 1) (by omega) lk hc hM (by omega)).mono ?_⟩
    rintro r h1 o
    have oM : wM (opEcho ((kAr (kcD C) c).map (evA f)) w f).2.1 = wM w + 1 := wr_M
    have n2 : (opEcho ((kAr (kcD C) c).map (evA f)) w f).1 ≠ -2 := by
      unfold opEcho
      simp only []
      split <;> decide
    obtain ⟨b1, b2⟩ := s_status cz o (by rw [oM]; omega) rfl rfl ((WGr.of (w' := uM w (wM w + 1)) (Nat.le_refl _) rfl).tr (wr_wg (ch.exs (by decide)))) n2 e
    refine Or.inl ⟨_, o.1, b1, ?_⟩
    intro h2 e2
    exact b_X4_call_321 ⟨rfl, b2 h2 e2⟩
  · obtain rfl : k = 4 := by omega
    have e : pmRes (kcD C) p en js fr K (opRead ((kAr (kcD C) c).map (evA f)) w f) = some (fl, m1) := e
    refine b_X4_call_139 282 _ ⟨k4, 283, r2, kcG C, g.r9, x, g.r10, by omega, k283, (o_read (d := d - 1) (by omega) lk hc).mono ?_⟩
    rintro r h1 o
    obtain ⟨q1, q2, q3, q4⟩ := opRead_ok (ex := fun _ => False) (as := (kAr (kcD C) c).map (evA f)) (w := w) (f := f) (A := A) (ch.exs (by decide))
    have g1 := g.op o (by rw [q1]) q2
    refine Or.inl ⟨_, o.1, sc_k282 g1.sc, kv (s_goOn (by omega) hz cz (by have := o; rw [o.1] at this; exact this) (by rw [q1]) q2 q3 q4 e)⟩
  · obtain rfl : k = 5 := by omega
    have e : (if ((kAr (kcD C) c).map (evA f)).length = 0 then (catN 12041 w f).bind fun q => pmRes (kcD C) p en js fr K (q.1, q.2, f) else pmGo1 en K w (p + 1) (vS f 2) js fr) = some (fl, m1) := e
    have t12 := hT (by decide)
    have hq : ∃ q : Int32 × spW × spF, ((kAr (kcD C) c).length = 0 → ∃ r, catN 12041 w f = some r ∧ q = (r.1, r.2, f)) ∧ ((kAr (kcD C) c).length ≠ 0 → q = (2, w, f)) ∧ pmRes (kcD C) p en js fr K q = some (fl, m1) ∧ wM q.2.1 = wM w ∧ fH q.2.2 = fH f ∧ fN q.2.2 = fN f ∧ WGr (fun _ => False) w q.2.1 A A := by
      by_cases c0 : (kAr (kcD C) c).length = 0
      · rw [if_pos (by rw [List.length_map]; exact c0)] at e
        rcases ec : catN 12041 w f with _ | r
        · rw [ec] at e; exact nomatch e
        · rw [ec] at e
          exact ⟨(r.1, r.2, f), fun _ => ⟨r, rfl, rfl⟩, fun c => absurd c0 c, e, cat_M _ _ _ ec, rfl, rfl, cat_wg (ch.exs (by decide)) (ch.exs (by decide)) _ _ _ ec⟩
      · rw [if_neg (by rw [List.length_map]; exact c0)] at e
        refine ⟨(2, w, f), fun c => absurd c c0, fun _ => rfl, ?_, rfl, rfl, rfl, WGr.rf⟩
        unfold pmRes
        rw [if_neg (by show ¬ (2 : Int32) = -2; decide)]
        exact e
    obtain ⟨q, h1', h2', e, q1, q2, q3, q4⟩ := hq
    refine b_X4_call_162 282 _ ⟨k4, 283, r2, kcG C, g.r9, x, g.r10, by omega, k283, (o_cat (d := d - 1) (by omega) lk hc t12 h1' h2').mono ?_⟩
    rintro r h1 o
    have g1 := g.op o (by rw [q1]) q2
    refine Or.inl ⟨_, o.1, sc_k282 g1.sc, kv (s_goOn (by omega) hz cz (by have := o; rw [o.1] at this; exact this) (by rw [q1]) q2 q3 q4 e)⟩
  · obtain rfl : k = 6 := by omega
    have e : pmGo1 en K w (p + 1) (vS f (if ((kAr (kcD C) c).map (evA f)).length = 0 then 0 else 2)) js fr = some (fl, m1) := e
    rw [List.length_map] at e
    have l7 : (kAr (kcD C) c).length ≤ 700 := by
      have q1 := (pd.2.2.1.2.2 c hc).2.1
      have q2 := pd.2.2.1.1
      omega
    refine b_X4_call_185 282 _ ⟨k4, x, g.r10, kcG C, g.r9, by omega, pb.1, mx_xKI2 (p_argumentsOf (by omega) pb pd hc) ⟨fun c1 => ⟨sx.k0, ?_⟩, fun c1 => ⟨sx.k0, ?_⟩⟩⟩
    · rintro _ rfl
      rw [if_neg (fun c => c1 (by rw [c]; rfl))] at e
      cases e
      exact b_X4_call_321 ⟨rfl, rfl, cz.same WGr.rf (g.st.sm (by omega)) rfl⟩
    · rintro _ rfl
      rw [if_pos ((nI_eq (b := 0) (by omega) (by omega)).mp c1)] at e
      cases e
      exact b_X4_call_321 ⟨rfl, rfl, cz.same WGr.rf (g.st.sm (by omega)) rfl⟩
  · obtain rfl : k = 7 := by omega
    have e : pmRes (kcD C) p en js fr K (opTrap ((kAr (kcD C) c).map (evA f)) w f) = some (fl, m1) := e
    refine b_X4_call_211 282 _ ⟨k4, x, g.r10, 283, r2, kcG C, g.r9, by omega, k283, (o_trap (d := d - 1) (by omega) lk g.sgn hc).mono ?_⟩
    rintro r h1 o
    obtain ⟨q1, q2, q3⟩ := opTrap_ok (as := (kAr (kcD C) c).map (evA f)) (w := w) (f := f)
    obtain ⟨b1, b2⟩ := s_status cz o (by rw [opTrap_w]) q2 q3 (by rw [opTrap_w]; exact WGr.rf) q1 e
    refine Or.inl ⟨_, o.1, b1, ?_⟩
    intro h2 e2
    exact b_X4_call_321 ⟨rfl, b2 h2 e2⟩
  · obtain rfl : k = 8 := by omega
    have e : pmRes (kcD C) p en js fr K (opSet ((kAr (kcD C) c).map (evA f)) w f) = some (fl, m1) := e
    refine b_X4_call_237 282 _ ⟨k4, x, g.r10, 283, r2, kcG C, g.r9, by omega, k283, (o_set (d := d - 1) (by omega) lk hc).mono ?_⟩
    rintro r h1 o
    obtain ⟨q1, q2, q3⟩ := opSet_ok (as := (kAr (kcD C) c).map (evA f)) (w := w) (f := f)
    obtain ⟨b1, b2⟩ := s_status cz o (by rw [opSet_w]) q2 q3 (by rw [opSet_w]; exact WGr.rf) q1 e
    refine Or.inl ⟨_, o.1, b1, ?_⟩
    intro h2 e2
    exact b_X4_call_321 ⟨rfl, b2 h2 e2⟩
  · obtain rfl : k = 9 := by omega
    have e : (match opExit ((kAr (kcD C) c).map (evA f)) f with
      | none => pmGo1 en K w (p + 1) (vS f 2) js fr
      | some v => pmEnd (kcD C) en js fr K w f v) = some (fl, m1) := e
    exact b_X4_call_263 282 _ ⟨by omega, k4, kv (s_exit (by omega) hz hc hst cz e)⟩
  · obtain rfl : k = 10 := by omega
    have e : pmRse (kcD C) w p f en js fr K ((kAr (kcD C) c).map (evA f)) = some (fl, m1) := e
    exact b_X4_call_271 282 _ ⟨by omega, k4, kv (s_rse (by omega) hz hc hst cz hp hl e)⟩
  · obtain rfl : k = 11 := by omega
    have e : pmWt (kcD C) w p f en js fr K false ((kAr (kcD C) c).map (evA f)) = some (fl, m1) := e
    have l7 : (kAr (kcD C) c).length ≤ 700 := by
      have q1 := (pd.2.2.1.2.2 c hc).2.1
      have q2 := pd.2.2.1.1
      omega
    refine b_X4_call_279 282 _ ⟨k4, kcG C, g.r9, by omega, pb.1, mx_xKI2 (p_argumentsOf (by omega) pb pd hc) ⟨fun c1 => ⟨k4, ?_⟩, fun c1 => ⟨k4, ?_⟩⟩⟩
    · exact kv (s_waitOne (d := d - 1) (fg := false) (bg := true) (by omega) cz hc hst hp hl rfl (fun q => c1 (by rw [← List.length_map (evA f) (as := kAr (kcD C) c), q.1]; rfl)) e)
    · have l0 : (kAr (kcD C) c).length = 0 := (nI_eq (b := 0) (by omega) (by omega)).mp c1
      unfold pmWt at e
      rw [if_pos ⟨by rw [List.length_map]; exact l0, rfl⟩] at e
      exact kv (s_waitAll (d := d - 1) (by omega) cz hp hl e)
  · obtain rfl : k = 12 := by omega
    have e : pmWt (kcD C) w p f en js fr K true ((kAr (kcD C) c).map (evA f)) = some (fl, m1) := e
    refine b_X4_call_306 282 _ ⟨k4, x, g.r10, sx.k0, by omega, ?_⟩
    rw [show hpI h x 5 = (if fG f = true then 1 else 0) from g.cf.2.2.2.2.1]
    exact kv (s_waitOne (d := d - 1) (fg := true) (bg := fG f) (by omega) cz hc hst hp hl rfl (fun q => absurd q.2 (by decide)) e)
end MXI1
