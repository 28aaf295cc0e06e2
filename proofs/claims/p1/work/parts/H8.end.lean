/-! waitForAll, waitForOne, endShell -/
section MXE8
variable {C : cC} {h h1 h2 h6 : mxH} {s s' d t k sl o c i p p' n fl pu pq : Nat} {v bh : Int32} {w w' : spW} {A A' A2 : Nat → Option Nat} {G G' G2 : List cE} {T : List cT} {Ks : List spH} {P P' : cP} {cur cur' : Option Nat} {pl rn : Int32} {XL XL' FS FS' VS VS' OS OS' inh inh' RS RS' : List Nat} {D : pmC} {e : cE} {x y x2 : Nat} {fh hs : spH} {f f' F1 gg : spF} {en en' en2 : Bool} {jb jb' js js' : List spJ} {jl jl' : List Nat} {fr fr' : List pmF} {K : List (pmU × pmL)} {Z : List cZ} {m1 : pmM} {ex : Nat → Prop} {oh : Option Nat} {bg : Bool} {l : spL} {as : List spL}
theorem pmFw_some {i : Nat} (e : pmFw js = some i) : ∃ j, js[i]? = some j ∧ j.1 = 0 := by
  obtain ⟨il, h1, -⟩ := List.findIdx?_eq_some_iff_getElem.mp e
  exact ⟨js[i], List.getElem?_eq_getElem il, of_decide_eq_true h1⟩
theorem pmJb_at {i : Nat} {j : spJ} (e : js[i]? = some j) : pmJb js f i = j := by
  show js.getD i (0, 0, 0, f) = j
  rw [List.getD_eq_getElem?_getD, e]; rfl
theorem jset {i : Nat} {j : spJ} (e : js[i]? = some j) : js.set i (2, (pmJb js f i).2) = js.set i (2, j.2) := by rw [pmJb_at e]
theorem s_waitAll (hd : 4 ≤ d) (cz : CMz C h s 1 (w, p + 1, (f, en, js, fr), K) A x jl Z P XL FS VS OS) (hp : p + 1 < 2 ^ 31) (hl : fr.length + nFK K ≤ 2900) (e : (match pmFw js with
    | some j => pmRun (kcD C) w f js fr K en j true 3 p
    | none => pmGo1 en K w (p + 1) (vS f 0) js fr) = some (fl, m1)) : mx_SM mY_X4_waitForAll d [.ref 282] h (StQ C s fl m1) := by
  have g := cz.cg
  refine b_X4_waitForAll 282 ⟨sc_k282 g.sc, ?_⟩
  rw [g.r11, nI_pred]
  rintro _ rfl
  have g1 := g.sp (v := nI p)
  have k4 := sc_k282 g1.sc
  refine ⟨x, g1.r10, by omega, g1.sb.1.k0, mx_xKI2 (g_firstWaiting (by omega) g1) ⟨k4, ?_⟩⟩
  rcases ef : pmFw js with _ | i
  · rw [ef] at e
    refine (g_runJob_no (d := d - 1) (pu := 3) (bh := 1) (by omega) g1 (Or.inl (by decide))).mono ?_
    rintro r h2 ⟨rfl, rfl⟩
    refine Or.inl ⟨_, rfl, fun c => absurd rfl c, fun _ => ⟨k4, ?_⟩⟩
    rintro _ rfl
    have g2 := g1.sp (v := nI (p + 1))
    refine ⟨x, g2.r10, g2.sb.1.k0, ?_⟩
    rintro _ rfl
    cases e
    exact ⟨rfl, rfl, cz.same WGr.rf (g2.st.sm (by omega)) rfl⟩
  · rw [ef] at e
    obtain ⟨j, hj, hw⟩ := pmFw_some ef
    refine (s_runJob (d := d - 1) (bg := true) (pu := 3) (by omega) cz.2.1 cz.2.2.1 cz.nd g1 hl (by omega) (Or.inr rfl) hj hw).mono ?_
    rintro r h2 ⟨rfl, q⟩
    refine Or.inl ⟨_, rfl, fun _ => ⟨rfl, ?_⟩, fun c => absurd c (by decide)⟩
    have e : pmRun (kcD C) w f js fr K en i true 3 p = some (fl, m1) := e
    unfold pmRun at e
    rw [jset hj, pmJb_at hj] at e
    cases e
    exact ⟨rfl, q (s + 1) (by omega)⟩
theorem s_waitOne (hd : 4 ≤ d) {fg : Bool} (cz : CMz C h s 1 (w, p + 1, (f, en, js, fr), K) A x jl Z P XL FS VS OS) (hc : c < kcC C) (hst : stat (fS f)) (hp : p + 1 < 2 ^ 31) (hl : fr.length + nFK K ≤ 2900) (hb : bg = if fg then fG f else true) (hns : ¬ (((kAr (kcD C) c).map (evA f)).length = 0 ∧ fg = false)) (e : pmWt (kcD C) w p f en js fr K fg ((kAr (kcD C) c).map (evA f)) = some (fl, m1)) :
    mx_SM mY_X4_waitForOne d [.ref 282, .int (nI c), .int (if bg = true then 1 else 0)] h (StQ C s fl m1) := by
  have g := cz.cg
  have k4 := sc_k282 g.sc
  obtain ⟨a, -⟩ := g.lk hst
  refine b_X4_waitForOne 282 _ _ ⟨k4, 283, sc_r282_2 g.sc, kcG C, g.r9, x, g.r10, by omega, sc_k283 g.sc, (k_X1_numberArgument (idx := 0) (by omega) a hc (by omega)).mono ?_⟩
  rintro _ h1 ⟨rfl, ex⟩
  have g1 := g.tx ex
  have k4 := sc_k282 g1.sc
  obtain ⟨sx, hx⟩ := g1.sb
  obtain ⟨pb, pd⟩ := g1.pg
  have l7 : (kAr (kcD C) c).length ≤ 700 := by
    have q1 := (pd.2.2.1.2.2 c hc).2.1
    have q2 := pd.2.2.1.1
    omega
  have len : ((kAr (kcD C) c).map (evA f)).length = (kAr (kcD C) c).length := List.length_map ..
  refine Or.inl ⟨_, rfl, k4, kcG C, g1.r9, pb.1, mx_xKI2 (p_argumentsOf (by omega) pb pd hc) ?_⟩
  generalize (kAr (kcD C) c).map (evA f) = as at len e hns ⊢
  unfold pmWt at e
  rw [if_neg hns] at e
  have st2 : as.length ≠ 1 ∨ nuL (as.getD 0 []) = -1 → mx_SX mY_X4_waitForOne d 34 [(0, .ref 282)] [] h1 (StQ C s fl m1) := by
    intro q
    refine b_X4_waitForOne_34 282 ⟨k4, x, g1.r10, sx.k0, ?_⟩
    rintro _ rfl
    by_cases c1 : as.length ≠ 1
    · rw [if_pos c1] at e
      cases e
      exact ⟨rfl, rfl, cz.same WGr.rf (g1.st.sm (by omega)) rfl⟩
    · rw [if_neg c1] at e
      simp only [] at e
      rw [if_pos (q.resolve_left c1)] at e
      cases e
      exact ⟨rfl, rfl, cz.same WGr.rf (g1.st.sm (by omega)) rfl⟩
  refine ⟨fun c1 => st2 (Or.inl fun e => c1 (by rw [← len, e]; rfl)), fun c1 => ?_⟩
  have l1 : ¬ as.length ≠ 1 := fun q => q (by rw [len]; exact (nI_eq (b := 1) (by omega) (by omega)).mp c1)
  rw [if_neg l1] at e
  simp only [] at e
  rcases nuL_nI (as.getD 0 []) with q | ⟨j, j1, j2⟩
  · rw [q]
    exact ⟨fun c => absurd c (by decide), fun _ => st2 (Or.inr q)⟩
  · have nm : nuL (as.getD 0 []) ≠ -1 := by rw [j2]; exact fun c => (nI_neg1 (by omega)).mp c
    rw [if_neg nm] at e
    rw [j2] at e ⊢
    refine ⟨fun _ => ⟨k4, ?_⟩, fun c => absurd (nI_pos' (by omega)) c⟩
    obtain ⟨cj1, cj2, cj3, cj4, cj5⟩ := g1.cj
    have st127 : (pmGo1 en K w (p + 1) (vS f 127) js fr = some (fl, m1)) → (nI j - 1 < 0 ∨ nI js.length ≤ nI j - 1 ∨ ∃ i, ∃ hi : i < js.length, nI j - 1 = nI i ∧ js[i].1 ≠ 0) → mx_SM mY_X4_runJob (d - 1) [.ref 282, .int (nI j - 1), .int 2, .int (if bg = true then 1 else 0)] h1 (mx_KI (fun v3 h3 => (¬ v3 = 0 → StQ C s fl m1 (.inl none) h3) ∧ (v3 = 0 → hpK h3 282 = 4 ∧ ∃ b5 : Nat, hpR h3 282 10 = some b5 ∧ hpK h3 b5 = 8 ∧ ∀ h4 : mxH, h4 = hsI h3 b5 6 (127 : Int32) → StQ C s fl m1 (.inl none) h4)) (mx_XX mY_X4_waitForOne (StQ C s fl m1))) := by
      intro e2 q
      refine (g_runJob_no (d := d - 1) (by omega) g1 q).mono ?_
      rintro r h2 ⟨rfl, rfl⟩
      refine Or.inl ⟨_, rfl, fun c => absurd rfl c, fun _ => ⟨k4, x, g1.r10, sx.k0, ?_⟩⟩
      rintro _ rfl
      cases e2
      exact ⟨rfl, rfl, cz.same WGr.rf (g1.st.sm (by omega)) rfl⟩
    by_cases j0 : j = 0
    · subst j0
      rw [if_pos (Or.inl (by decide))] at e
      exact st127 e (Or.inl (by decide))
    · obtain ⟨i, rfl⟩ : ∃ i, j = i + 1 := ⟨j - 1, by omega⟩
      by_cases jl2 : js.length < i + 1
      · rw [if_pos (Or.inr (nI_lt jl2 (by omega)))] at e
        refine st127 e (Or.inr (Or.inl ?_))
        rw [nI_pred]
        exact (nI_leI (by omega) (by omega)).mpr (by omega)
      · have nn : ¬ (nI (i + 1) < 1 ∨ nI js.length < nI (i + 1)) := by
          rintro (q | q)
          · have := (nI_ltI (b := 1) (by omega) (by omega)).mp q; omega
          · have := (nI_ltI (by omega) (by omega)).mp q; omega
        rw [if_neg nn, nI_clamp (show i + 1 < 2 ^ 31 by omega), Nat.add_sub_cancel] at e
        have il : i < js.length := by omega
        have hj : js[i]? = some js[i] := List.getElem?_eq_getElem il
        by_cases hw : js[i].1 = 0
        · rw [if_neg (by rw [pmJb_at hj]; exact fun c => c hw)] at e
          rw [nI_pred]
          refine (s_runJob (d := d - 1) (bg := bg) (pu := 2) (by omega) cz.2.1 cz.2.2.1 cz.nd g1 hl (by omega) (Or.inl rfl) hj hw).mono ?_
          rintro r h2 ⟨rfl, q⟩
          refine Or.inl ⟨_, rfl, fun _ => ⟨rfl, ?_⟩, fun c => absurd c (by decide)⟩
          unfold pmRun at e
          rw [jset hj, pmJb_at hj, ← hb] at e
          cases e
          exact ⟨rfl, q (s + 1) (by omega)⟩
        · rw [if_pos (by rw [pmJb_at hj]; exact hw)] at e
          refine st127 e (Or.inr (Or.inr ⟨i, il, nI_pred i, hw⟩))
/-- the main shell has ended -/
def CEnd (C : cC) (h : mxH) (s : Nat) (m : pmM) : Prop := ∃ A jl P XL FS VS OS, (P 146).1 = none ∧ (∀ j ∈ m.2.2.1.2.2.1, j.1 ≠ 0) ∧ CG C h s m.1 A [(146, (m.2.2.1.1, true, m.2.2.1.2.2.1), jl)] [] [] P (some 146) (nI m.2.1) 0 XL FS VS OS []
theorem s_leave (hd : 3 ≤ d) (k : CKr P x Z K) (fA : FrA P A w Z) (nd : (pnZ Z).Nodup) (g : CG C h s w A ((x, (gg, true, js), jl) :: (cJs js jl ++ cG Z)) (TFk K) (TSK K) P (some x) (nI (kZ (kcD C) - 1)) 1 XL FS VS OS []) (hw : pmFw js = none) (e : pmLev (kcD C) w js K gg = some (fl, m1)) :
    mx_SM mY_X4_leave d [.ref 282] h (fun r h1 => r = .inl none ∧ ∀ s', s ≤ s' → (fl = 0 ∧ CMn C h1 s' m1) ∨ (fl = 2 ∧ CEnd C h1 s' m1)) := by
  have nw := pmFw_none hw
  rw [cJs_none js jl nw, List.nil_append] at g
  rcases Z with _ | ⟨⟨x2, ⟨f', en', js', fr'⟩, jl2⟩, Z⟩
  · obtain ⟨rfl, rfl, kp, -⟩ := k
    refine (g_leave0 g kp).mono ?_
    rintro r h1 ⟨rfl, g1⟩
    cases e
    exact ⟨rfl, fun s' hs' => Or.inr ⟨rfl, A, jl, P, XL, FS, VS, OS, kp, nw, g1.sm hs'⟩⟩
  · obtain ⟨⟨⟨bh, pp, jj⟩, u2⟩, K', rfl, eu, kp, -, uok, k'⟩ := k
    have eu : u2 = (f', en', js', fr') := eu
    subst eu
    obtain ⟨⟨nb, nb1, nb2⟩, up3, uj, uq⟩ := uok
    have nb2 : bh = nI nb := nb2
    have up3 : pp ≤ 3 := up3
    subst nb2
    rw [cG_cons] at g
    have g : CG C h s w A ((x, (gg, true, js), jl) :: (x2, (f', en', js'), jl2) :: (cJs js' jl2 ++ cG Z)) ((7, nI nb, nI pp, nI jj) :: (fr'.map tfR ++ TFk K')) (tsv fr' ++ TSK K') P (some x) (nI (kZ (kcD C) - 1)) 1 XL FS VS OS [] := g
    have f0 := fA _ List.mem_cons_self
    have nd' : (pnF fr' ++ pnZ Z).Nodup := by rw [pnZ_cons] at nd; exact nd
    refine (g_leave hd g kp up3 (fun c => ?_) (fun c => ?_)).mono ?_
    · obtain ⟨q, r, eq, -⟩ := uq c
      have eq : fr' = q :: r := eq
      exact ⟨tfR q, r.map tfR ++ TFk K', by rw [eq]; rfl⟩
    · obtain ⟨j, j1, j2⟩ := uj c
      have j1 : js'[jj]? = some j := j1
      obtain ⟨a1, a2⟩ := List.getElem?_eq_some_iff.mp j1
      exact ⟨a1, by rw [a2, j2]; decide⟩
    rintro r h1 ⟨rfl, b0, b1, b2, b3⟩
    refine ⟨rfl, fun s' hs' => Or.inl ?_⟩
    unfold pmLev at e
    simp only [] at e
    have cl : (nI nb).toNatClampNeg = nb := nI_clamp nb1
    rw [cl] at e
    have mk : ∀ {f2 : spF} {js2 : List spJ}, fN f2 = fN f' → cJs js2 jl2 = cJs js' jl2 → CG C h1 s w A ((x2, (f2, en', js2), jl2) :: (cJs js' jl2 ++ cG Z)) (fr'.map tfR ++ TFk K') (tsv fr' ++ TSK K') P (some x2) (nI nb) 1 XL (x :: FS) VS OS [] → CMn C h1 s' (w, nb, (f2, en', js2, fr'), K') := by
      intro f2 js2 hn hc g2
      refine ⟨A, x2, jl2, Z, P, XL, x :: FS, VS, OS, ?_, k', fun z hz => ?_, by rw [pnZ_cons]; exact nd'⟩
      · have g3 := g2.sm hs'
        rw [← hc] at g3
        exact g3
      · rcases List.mem_cons.mp hz with rfl | hz
        · exact ⟨by rw [hn]; exact f0.1, f0.2⟩
        · exact fA z (List.mem_cons_of_mem _ hz)
    have jn : 2 ≤ pp → ∃ hj : jj < js'.length, (pmJb js' f' jj) = js'[jj] ∧ (∀ q : spJ, q.1 ≠ 0 → cJs (js'.set jj q) jl2 = cJs js' jl2) := fun c => by
      obtain ⟨j, j1, j2⟩ := uj c
      have j1 : js'[jj]? = some j := j1
      obtain ⟨a1, a2⟩ := List.getElem?_eq_some_iff.mp j1
      exact ⟨a1, by rw [pmJb_at j1, a2], fun q hq => cJs_set js' jl2 jj q (fun z hz => by rw [j1] at hz; rw [← Option.some.inj hz, j2]; decide) hq⟩
    by_cases c0 : pp = 0
    · rw [if_pos c0] at e
      cases e
      exact ⟨rfl, mk rfl rfl (b0 c0)⟩
    · rw [if_neg c0] at e
      by_cases c1 : pp = 1
      · rw [if_pos c1] at e
        obtain ⟨q, r, eq, q68⟩ := uq c1
        have eq : fr' = q :: r := eq
        subst eq
        have n4 : ¬ q.1 = 4 := by rcases q68 with c | c <;> rw [c] <;> decide
        have n1 : q.1 ≠ 1 := by rcases q68 with c | c <;> rw [c] <;> decide
        have n24 : ¬ (q.1 = 2 ∨ q.1 = 3 ∨ q.1 = 4) := by rcases q68 with c | c <;> rw [c] <;> decide
        simp only [] at e
        rw [if_pos q68] at e
        cases e
        have g2 := b1 c1 _ _ rfl
        refine ⟨rfl, A, x2, jl2, Z, P, XL, x :: FS, VS, OS, ?_, k', fun z hz => ?_, ?_⟩
        · have et : ((tfR q).1, fS gg, (if fS gg = 0 then (tfR q).2.2.1 else fS gg), (tfR q).2.2.2) = tfR (q.1, fS gg, (if fS gg = 0 then q.2.2.1 else fS gg), q.2.2.2) := by
            unfold tfR
            simp only []
            rw [if_neg n4, if_neg n4]
          rw [et] at g2
          have ts : tsv ((q.1, fS gg, (if fS gg = 0 then q.2.2.1 else fS gg), q.2.2.2) :: r) = tsv (q :: r) := by
            rw [tsv_n (show (q.1, fS gg, (if fS gg = 0 then q.2.2.1 else fS gg), q.2.2.2).1 ≠ 1 from n1), tsv_n n1]
          rw [← ts] at g2
          exact g2.sm hs'
        · rcases List.mem_cons.mp hz with rfl | hz
          · refine ⟨f0.1, fun z hz => ?_⟩
            rcases List.mem_cons.mp hz with rfl | hz
            · obtain ⟨d1, d2, d3, d4⟩ := f0.2 q List.mem_cons_self
              refine ⟨d1, fun c => ?_, fun c => ?_, d4⟩
              · exact absurd c n24
              · exact absurd c n4
            · exact f0.2 z (List.mem_cons_of_mem _ hz)
          · exact fA z (List.mem_cons_of_mem _ hz)
        · rw [pnZ_cons]
          exact nd'
      · rw [if_neg c1] at e
        by_cases c2 : pp = 2
        · rw [if_pos c2] at e
          obtain ⟨hj, j1, j2⟩ := jn (by omega)
          rw [j1] at e
          cases e
          exact ⟨rfl, mk rfl (j2 _ (fun c => nomatch c)) (b2 c2 hj)⟩
        · rw [if_neg c2] at e
          obtain ⟨hj, j1, j2⟩ := jn (by omega)
          rw [j1] at e
          cases e
          exact ⟨rfl, mk rfl (j2 _ (fun c => nomatch c)) (b3 (by omega) hj)⟩
end MXE8
