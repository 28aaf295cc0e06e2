section MXS2
variable {C : cC} {h h1 h2 : mxH} {s s' d t k sl o v : Nat} {w w' : spW} {A A' A2 : Nat → Option Nat} {G : List cE} {T : List cT} {Ks : List spH} {P : cP} {cur : Option Nat} {pl rn : Int32} {XL FS VS OS inh inh' RS RS' : List Nat} {D : pmC} {e : cE} {x : Nat} {fh hs : spH} {F F' : spF} {en en' : Bool} {jb : List spJ} {js : List Nat} {l : List spH} {y : cT}
theorem CG.cv (g : CG C h s w A G T Ks P cur pl rn XL FS VS OS inh) : CV h A VS Ks ∧ hpI h 282 6 = nI Ks.length ∧ VS.length ≤ 300 ∧ ∀ i v, VS[i]? = some v → hd_at h v 135 (v + 1) ∧ hpR h 286 i = some v ∧ v + 1 ∈ cRS XL VS := by
  obtain ⟨g1, g2, g3, g4, g5, g6, g7, g8⟩ := g.2.2.2.2.2.2.2.1
  refine ⟨g4, g5, g4.2.2.2.1, fun i v e => ?_⟩
  obtain ⟨a1, a2⟩ := List.getElem?_eq_some_iff.mp e
  have q := g4.1 i a1
  rw [a2] at q
  exact ⟨q.2, q.1, by unfold cRS; simp; exact Or.inr (Or.inr (Or.inr (List.mem_of_getElem? e)))⟩
theorem CG.disV (g : CG C h s w A ((x, (F, en, jb), js) :: G) T Ks P cur pl rn XL FS VS OS inh) (hv : v ∈ VS) : v + 1 ≠ x + 9 := by
  intro c
  have nd := g.2.2.2.1.1
  unfold cRS at nd
  have mx : x ∈ XL := (g.2.2.2.2.2.1.2.2.1 x).mpr (by simp)
  exact (List.nodup_append.mp nd).2.2 (x + 9) (List.mem_map.mpr ⟨x, mx, rfl⟩) (v + 1) (by simp; exact Or.inr (Or.inr hv)) c.symm
/-- a new row of handles -/
theorem X2_new {H : mxH} : (∀ b, b < hpN H → hpK (E_X2 (hnw H 2 0 2) (hpN H) 135) b = hpK H b ∧ hpZ (E_X2 (hnw H 2 0 2) (hpN H) 135) b = hpZ H b ∧ hpI (E_X2 (hnw H 2 0 2) (hpN H) 135) b = hpI H b ∧ hpL (E_X2 (hnw H 2 0 2) (hpN H) 135) b = hpL H b ∧ hpR (E_X2 (hnw H 2 0 2) (hpN H) 135) b = hpR H b) ∧
    hpK (E_X2 (hnw H 2 0 2) (hpN H) 135) (hpN H) = 2 ∧ hpR (E_X2 (hnw H 2 0 2) (hpN H) 135) (hpN H) 0 = some 135 ∧ hpR (E_X2 (hnw H 2 0 2) (hpN H) 135) (hpN H) 1 = some (hpN H + 1) ∧ hpK (E_X2 (hnw H 2 0 2) (hpN H) 135) (hpN H + 1) = 18 ∧ hpZ (E_X2 (hnw H 2 0 2) (hpN H) 135) (hpN H + 1) = 10 ∧ ∀ k, hpR (E_X2 (hnw H 2 0 2) (hpN H) 135) (hpN H + 1) k = none := by
  have nn : hpN H ≠ hpN H + 1 := by omega
  refine ⟨fun b hb => ?_, ?_, ?_, ?_, ?_, ?_, fun k => ?_⟩
  · have n1 : b ≠ hpN H := by omega
    have n2 : b ≠ hpN H + 1 := by omega
    refine ⟨?_, ?_, ?_, ?_, ?_⟩
    · show (if b = hpN H + 1 then 18 else if b = hpN H then 2 else hpK H b) = _
      rw [if_neg n2, if_neg n1]
    · show (if b = hpN H + 1 then 10 else if b = hpN H then 0 else hpZ H b) = _
      rw [if_neg n2, if_neg n1]
    · show (if b = hpN H + 1 then (fun _ => 0) else if b = hpN H then (fun _ => 0) else hpI H b) = _
      rw [if_neg n2, if_neg n1]
    · show (if b = hpN H + 1 then (fun _ => 0) else if b = hpN H then (fun _ => 0) else hpL H b) = _
      rw [if_neg n2, if_neg n1]
    · funext k
      unfold E_X2
      simp only []
      rw [hpR_sRn n1, hpR_nw, show hpN (hsR (hnw H 2 0 2) (hpN H) 0 (some 135)) = hpN H + 1 from rfl, if_neg n2, hpR_sRn n1, hpR_nw, if_neg n1]
  · show (if hpN H = hpN H + 1 then 18 else if hpN H = hpN H then 2 else hpK H _) = _
    rw [if_neg nn, if_pos rfl]
  · unfold E_X2
    simp only []
    rw [hpR_sR, if_pos rfl, if_neg (by decide), hpR_nw, show hpN (hsR (hnw H 2 0 2) (hpN H) 0 (some 135)) = hpN H + 1 from rfl, if_neg nn, hpR_sR, if_pos rfl, if_pos rfl]
  · unfold E_X2
    simp only []
    rw [hpR_sR, if_pos rfl, if_pos rfl]
    rfl
  · show (if hpN H + 1 = hpN H + 1 then 18 else _) = _
    rw [if_pos rfl]
  · show (if hpN H + 1 = hpN H + 1 then 10 else _) = _
    rw [if_pos rfl]
  · unfold E_X2
    simp only []
    rw [hpR_sRn (by omega), hpR_nw, show hpN (hsR (hnw H 2 0 2) (hpN H) 0 (some 135)) = hpN H + 1 from rfl, if_pos rfl]
theorem g_save58 (hd : 2 ≤ d) (g : CG C h s w A ((x, (F, en, jb), js) :: G) T Ks P (some x) pl rn XL FS VS OS []) (hl : Ks.length < VS.length) : mx_SX mY_X4_saveHandles d 58 [(0, .ref 282)] [] h (fun r h1 => r = .inl none ∧ CG C h1 s w A ((x, (F, en, jb), js) :: G) T (fH F :: Ks) P (some x) pl rn XL FS VS OS []) := by
  obtain ⟨cv, c6, v3, cvs⟩ := g.cv
  obtain ⟨sx, hx⟩ := g.sb
  have ev : VS[Ks.length]? = some (VS[Ks.length]) := List.getElem?_eq_getElem hl
  generalize VS[Ks.length] = v at ev
  obtain ⟨hv, r6, mv⟩ := cvs _ v ev
  have k4 := sc_k282 g.sc
  refine b_X4_saveHandles_58 282 ⟨k4, 286, sc_r282_5 g.sc, sc_k286 g.sc, ?_, x, g.r10, sx.k0, x + 8, sx.r0_3, v, ?_, by omega, hv.1, ?_⟩
  · rw [c6, sc_z286 g.sc]; exact vp_in_nI (by omega) (by omega)
  · rw [c6, nI_clamp (by omega)]; exact r6
  refine (c_X2_copyFrom (by omega) g.2.2.2.1 hv (sx.hd (sc_k135 g.sc)) (g.disV (List.mem_of_getElem? ev)) mv g.mx).mono ?_
  rintro r h1 (⟨rfl, oi, fr, row⟩ | ⟨_, _, q⟩)
  · have g1 := g.row (hs := fH F) oi fr (Or.inr ⟨Ks.length, v, ev, Nat.le_refl _, rfl⟩) (fun a ha ne k hk => by rw [row a ha k hk, if_neg ne]) (fun k hk => by rw [row (x + 9) g.mx k hk, if_neg (g.disV (List.mem_of_getElem? ev)).symm]; exact g.ch k hk)
    have g1 : CG C h1 s w A ((x, (F, en, jb), js) :: G) T Ks P (some x) pl rn XL FS VS OS [] := g1
    refine Or.inl ⟨rfl, sc_k282 g1.sc, ?_⟩
    rw [g1.cv.2.1, nI_1]
    rintro _ rfl
    refine ⟨rfl, g1.ks (Ks' := fH F :: Ks) (g1.cv.1.push ev fun k hk => ?_)⟩
    rw [row (v + 1) mv k hk, if_pos rfl]
    exact g.ch k hk
  · exact q.elim
theorem g_save (hd : 3 ≤ d) (g : CG C h s w A ((x, (F, en, jb), js) :: G) T Ks P (some x) pl rn XL FS VS OS []) (ht : T.length < 2950) (hk : Ks.length < 300) : mx_SM mY_X4_saveHandles d [.ref 282] h (fun r h1 => r = .inl none ∧ ∃ VS', CG C h1 s w A ((x, (F, en, jb), js) :: G) ((1, 0, 0, 0) :: T) (fH F :: Ks) P (some x) pl rn XL FS VS' OS []) := by
  have k4 := sc_k282 g.sc
  refine b_X4_saveHandles 282 ⟨by omega, k4, (g_push (d := d - 1) (a := 1) (b := 0) (c := 0) (e := 0) g ht).mono ?_⟩
  rintro r h1 ⟨rfl, g1⟩
  obtain ⟨cv, c6, v3, cvs⟩ := g1.cv
  have vp : ∀ h', hpZ h' 286 = 300 → vp_in (nI Ks.length) (hpZ h' 286) := fun h' e => by rw [e]; exact vp_in_nI (by omega) (by omega)
  refine Or.inl ⟨rfl, sc_k282 g1.sc, ?_⟩
  rw [c6, nI_clamp (show Ks.length < 2 ^ 31 by omega)]
  refine ⟨fun c => absurd c (nI_pos (by omega)), fun _ => ⟨fun _ => ⟨286, sc_r282_5 g1.sc, sc_k286 g1.sc, vp h1 (sc_z286 g1.sc), fun hn => ?_, fun b2 hb => ?_⟩, fun c => absurd (show nI Ks.length < nI 300 from nI_lt hk (by omega)) c⟩⟩
  · have el : VS.length = Ks.length := by
      have q := cv.2.2.1
      rcases Nat.lt_or_ge Ks.length VS.length with c | c
      · have := (cv.1 Ks.length c).1
        rw [this] at hn; exact nomatch hn
      · omega
    rintro b3 h2 rfl rfl
    have N := g1.sc.1
    have s2 : SC (hnw h1 2 0 2) := g1.sc.fp (FP.rf.nw)
    have kn : mx_kd (hnw h1 2 0 2) (hpN h1) 2 := ⟨Nat.lt_succ_self _, by rw [hpK_nw, if_pos rfl]⟩
    refine ⟨sc_k282 s2, 135, sc_r282_1 s2, mx_xKV (k_X2 (by omega) kn) ?_⟩
    obtain ⟨x1, x2, x3, x4, x5, x6, x7⟩ := X2_new (H := h1)
    have eN : hpN (E_X2 (hnw h1 2 0 2) (hpN h1) 135) = hpN h1 + 2 := rfl
    have eC : hpC (E_X2 (hnw h1 2 0 2) (hpN h1) 135) = hpC h1 + 2 := rfl
    have eS : hpS (E_X2 (hnw h1 2 0 2) (hpN h1) 135) = hpS h1 + 12 := rfl
    have l128 := g1.sc.1
    generalize E_X2 (hnw h1 2 0 2) (hpN h1) 135 = X at x1 x2 x3 x4 x5 x6 x7 eN eC eS ⊢
    have fp3 : FP h1 X := ⟨by omega, fun a ha => ⟨(x1 a ha).1, (x1 a ha).2.1, fun k hk => by rw [(x1 a ha).2.2.2.2]⟩⟩
    have s3 := g1.sc.fp fp3
    refine ⟨sc_k286 s3, vp _ (sc_z286 s3), x2, ?_⟩
    rintro _ rfl
    have g2 : CG C (hsR X 286 Ks.length (some (hpN h1))) s w A ((x, (F, en, jb), js) :: G) ((1, 0, 0, 0) :: T) Ks P (some x) pl rn XL FS (VS ++ [hpN h1]) OS [] := by
      refine g1.newV (by omega) rfl eN eC eS (fun b hb => ⟨(x1 b hb).1, (x1 b hb).2.1, (x1 b hb).2.2.1, (x1 b hb).2.2.2.1⟩) (fun b hb h6 => ?_) ?_ ⟨x2, ?_, ?_, show hpK X 135 = 0 from sc_k135 s3, x5, x6⟩ (fun k => ?_)
      · funext k
        rw [hpR_sRn h6, (x1 b hb).2.2.2.2]
      · rw [el]
        funext k
        rw [hpR_sR, if_pos rfl, (x1 286 (by omega)).2.2.2.2]
        unfold fup
        rfl
      · rw [hpR_sRn (by omega)]; exact x3
      · rw [hpR_sRn (by omega)]; exact x4
      · rw [hpR_sRn (by omega)]; exact x7 k
    exact g_save58 (by omega) g2 (by rw [List.length_append, List.length_singleton]; omega) |>.mono (fun r h3 q => ⟨q.1, _, q.2⟩)
  · have lt : Ks.length < VS.length := by
      rcases Nat.lt_or_ge Ks.length VS.length with c | c
      · exact c
      · rw [cv.2.1 Ks.length c (by omega)] at hb; exact nomatch hb
    exact (g_save58 (by omega) g1 lt).mono (fun r h3 q => ⟨q.1, _, q.2⟩)
/-- the uppermost kept handles are put out -/
theorem g_sb62 (hd : 2 ≤ d) {i : Nat} (g : CG C h s w A ((x, (F, en, jb), js) :: G) T Ks P cur pl rn XL FS VS OS []) (ev : VS[i]? = some v) (hi : Ks.length ≤ i) : mx_SX mY_X4_setBackHandles d 62 [(2, va_rf (some v))] [] h (fun r h1 => r = .inl none ∧ CG C h1 s w A ((x, (F, en, jb), js) :: G) T Ks P cur pl rn XL FS VS OS []) := by
  obtain ⟨cv, c6, v3, cvs⟩ := g.cv
  obtain ⟨hv, r6, mv⟩ := cvs _ v ev
  refine b_X4_setBackHandles_62 _ ⟨v, rfl, by omega, hv.1, (c_X2_closeAll (by omega) g.2.2.2.1 hv mv).mono ?_⟩
  rintro r h1 (⟨rfl, oi, fr, row⟩ | ⟨_, _, q⟩)
  · refine Or.inl ⟨rfl, rfl, ?_⟩
    exact g.row (hs := fH F) oi fr (Or.inr ⟨i, v, ev, hi, rfl⟩) (fun a ha ne k hk => by rw [row a ha k hk, if_neg ne]) (fun k hk => by rw [row (x + 9) g.mx k hk, if_neg (g.disV (List.mem_of_getElem? ev)).symm]; exact g.ch k hk)
  · exact q.elim
theorem g_setBack {b : Bool} (hd : 3 ≤ d) (g : CG C h s w A ((x, (F, en, jb), js) :: G) (y :: T) (hs :: Ks) P (some x) pl rn XL FS VS OS []) : mx_SM mY_X4_setBackHandles d [.ref 282, .int (if b = true then 1 else 0)] h (fun r h1 => r = .inl none ∧ CG C h1 s w A ((x, (if b = true then vH F hs else F, en, jb), js) :: G) T Ks P (some x) pl rn XL FS VS OS []) := by
  have k4 := sc_k282 g.sc
  refine b_X4_setBackHandles 282 _ ⟨by omega, k4, (g_pop (d := d - 1) g).mono ?_⟩
  rintro r h1 ⟨rfl, g1⟩
  obtain ⟨cv, c6, v3, cvs⟩ := g1.cv
  obtain ⟨cv2, v, ev, hr⟩ := cv.pop
  have g2 := g1.ks cv2
  rw [List.length_cons] at c6
  have l3 : Ks.length < VS.length := (List.getElem?_eq_some_iff.mp ev).1
  refine Or.inl ⟨rfl, sc_k282 g1.sc, ?_⟩
  rw [c6, nI_pred]
  refine ⟨fun c => absurd c (nI_nle (by omega) (by omega)), fun _ => ⟨fun _ => ?_, fun c => absurd ((nI_leI (b := 300) (by omega) (by omega)).mpr (by omega)) c⟩⟩
  rintro _ rfl
  obtain ⟨cvB, c6B, -, cvsB⟩ := g2.cv
  obtain ⟨hv, r6, mv⟩ := cvsB _ v ev
  obtain ⟨sx, hx⟩ := g2.sb
  rw [c6B, nI_clamp (show Ks.length < 2 ^ 31 by omega)]
  refine ⟨286, sc_r282_5 g2.sc, sc_k286 g2.sc, by rw [sc_z286 g2.sc]; exact vp_in_nI (by omega) (by omega), fun c => absurd (r6.symm.trans c) (fun c => nomatch c), fun b2 hb => ?_⟩
  have eb : b2 = v := by rw [r6] at hb; exact (Option.some.inj hb).symm
  subst eb
  rw [r6]
  cases b with
  | false => exact ⟨fun _ => g_sb62 (by omega) g2 ev (Nat.le_refl _), fun c => absurd rfl c⟩
  | true =>
    refine ⟨fun c => absurd c (by decide), fun _ => ⟨x, g2.r10, sx.k0, x + 8, sx.r0_3, sx.k8, (c_X2_copyFrom (by omega) g2.2.2.2.1 (sx.hd (sc_k135 g2.sc)) hv (g2.disV (List.mem_of_getElem? ev)).symm g2.mx mv).mono ?_⟩⟩
    rintro r h3 (⟨rfl, oi, fr, row⟩ | ⟨_, _, q⟩)
    · refine Or.inl ⟨rfl, ?_⟩
      have g3 := g2.row (hs := hs) oi fr (Or.inl rfl) (fun a ha ne k hk => by rw [row a ha k hk, if_neg ne]) (fun k hk => by rw [row (x + 9) g2.mx k hk, if_pos rfl]; exact hr k hk)
      exact g_sb62 (by omega) g3 ev (Nat.le_refl _)
    · exact q.elim
end MXS2
