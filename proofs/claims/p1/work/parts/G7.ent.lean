/-! Machine.enter, release -/
section MXEN
variable {C : cC} {h h1 h2 h6 : mxH} {s s' d t k sl o v c i p : Nat} {w w' : spW} {A A' A2 : Nat → Option Nat} {G G' : List cE} {T : List cT} {Ks : List spH} {P P' : cP} {cur cur' : Option Nat} {pl rn : Int32} {XL XL' FS FS' VS OS inh inh' RS RS' : List Nat} {D : pmC} {e : cE} {x y : Nat} {fh hs : spH} {F F1 : spF} {en en' : Bool} {jb : List spJ} {js jl : List Nat} {l : List spH} {bh pu j : Int32}
theorem CG.rr (g : CG C h s w A G T Ks P cur pl rn XL FS VS OS inh) (sy : SB h y) (yx : y = 146 ∨ 365 ≤ y) (e1 : hpN h1 = hpN h ∧ hpC h1 = hpC h ∧ hpS h1 = hpS h ∧ hpK h1 = hpK h ∧ hpZ h1 = hpZ h ∧ hpI h1 = hpI h ∧ hpL h1 = hpL h) (eR : ∀ b k, (b = y → k ≠ 13) → (b = 282 → k ≠ 8 ∧ k ≠ 10) → hpR h1 b k = hpR h b k)
    (hG : ∀ e ∈ G', e ∈ G) (pm : (G.map (fun e => e.1) ++ FS).Perm (G'.map (fun e => e.1) ++ FS')) (cfs : CFs (hpR h1) (hpR h1 282 8) FS') (pP : ∀ e ∈ G', hpR h1 e.1 13 = (P' e.1).1 ∧ (P' e.1).2 = (P e.1).2) (ec : hpR h1 282 10 = cur') : CG C h1 s w A G' T Ks P' cur' pl rn XL FS' VS OS inh := by
  obtain ⟨k0, fc, ⟨w1, w2, w3, w4⟩, oi, cu0, cgs, cgp, ⟨g1, g2, g3, g4, g5, g6, g7, g8⟩, cgr, cgq, cn⟩ := g
  have so : ∀ e ∈ G, SB h e.1 ∧ (e.1 = 146 ∨ 365 ≤ e.1) := fun e he => cgs.at he
  obtain ⟨s1, s2, s3, s4, s5, s6⟩ := cgs
  obtain ⟨eN, eC, eS, eK, eZ, eI, eL⟩ := e1
  have N := w1.1
  have k4 := sc_k282 w1
  have rw1 : ∀ b, b ≠ y → b ≠ 282 → hpR h1 b = hpR h b := fun b h1 h2 => by funext k; exact eR b k (fun c => absurd c h1) (fun c => absurd c h2)
  have fp : FP h h1 := ⟨by omega, fun a _ => ⟨by rw [eK], by rw [eZ], fun k hk => eR a k (fun c => by
      subst c
      rw [sy.k0] at hk
      rintro rfl
      exact absurd hk (by decide)) (fun c => by
      subst c
      rw [k4] at hk
      exact ⟨by rintro rfl; exact absurd hk (by decide), by rintro rfl; exact absurd hk (by decide)⟩)⟩⟩
  have el : CLn h1 = CLn h := CLn_cg (fun b _ _ => by rw [eI])
  have ny : ∀ sl, hpK h sl = 18 → sl ≠ y ∧ sl ≠ 282 := fun sl hs => ⟨fun c => by rw [c, sy.k0] at hs; exact absurd hs (by decide), fun c => by rw [c, k4] at hs; exact absurd hs (by decide)⟩
  have rows : ∀ sl ∈ cRS XL VS, ∀ k, hpR h1 sl k = hpR h sl k := fun sl hs k => by
    have q := ny sl (oi.2.2.1 sl hs).1.2
    rw [rw1 sl q.1 q.2]
  have mV : ∀ z ∈ VS, z + 1 ∈ cRS XL VS := fun z hz => by unfold cRS; simp; exact Or.inr (Or.inr (Or.inr hz))
  have mP : ∀ z ∈ pastX, z + 9 ∈ cRS XL VS := fun z hz => by unfold cRS; simp; exact Or.inr (Or.inr (Or.inl hz))
  refine ⟨k0, fc.tr k0.2.1 fp fun a ha => ⟨by rw [eI], by rw [eL], fun _ => rw1 a (by have := cst_in ha; omega) (by have := cst_in ha; omega)⟩, ⟨w1.fp fp, ?_, CPh_cg w3 (fun b _ => by rw [eI]), w4.cg eN eK (fun o k _ => by rw [eI]) rfl (Nat.le_refl _) (Nat.le_refl _)⟩, oi.cg eN eK eZ (fun a ha k _ => rows a ha k) (fun o ho => ⟨by rw [eI], eR o 5 (fun _ => by decide) (fun _ => by decide)⟩) (eR 135 0 (fun c => by omega) (fun c => by omega)), CU_cg cu0 (fun b _ _ => by rw [eI]), ⟨fun e he => ?_, pm.nodup_iff.mp s2, fun z => (s3 z).trans pm.mem_iff, s4, fun z hz => ⟨(s5 z hz).1.fp fp, (s5 z hz).2⟩, cfs⟩, fun e he => ?_, ⟨by rw [eI]; exact g1, by rw [eI]; exact g2, g3, ?_, by rw [eI]; exact g5, g6, g7, fun k hk => by rw [rows 288 (by unfold cRS; simp)]; exact g8 k hk⟩, ?_, ⟨fun z hz k hk => ?_, fun v l q => by rw [el]; exact cgq.2 v l q⟩, ?_⟩
  · show CW (CLn h1) (hpI h1 140) (hpI h1 (140 + 2)) (hpI h1 (140 + 3)) (hpI h1 (140 + 4)) (hpI h1 (140 + 5)) (hpI h1 (140 + 19)) (hpL h1 (140 + 1)) s w
    rw [el, eI, eL]; exact w2
  · have ge := hG e he
    have sz := (so e ge).1
    have ez := (so e ge).2
    refine (s1 e ge).cg fp (fun i hi => by rw [eI]) (fun i hi => by rw [eL]) (fun i hi i0 k hk => eR (e.1 + i) k (fun c => by omega) (fun c => by omega)) (fun _ _ c => c) (fun v l c => by rw [el]; exact c)
  · have c := cgp e (hG e he)
    have q := pP e he
    rw [eI, q.2]
    exact ⟨q.1, c.2⟩
  · exact g4.cg fp (fun v hv => ⟨(oi.2.2.1 (v + 1) (mV v hv)).1.1, by omega⟩) (fun k => by rw [rw1 286 (by omega) (by decide)]) (fun v hv k _ => rows (v + 1) (mV v hv) k) (fun _ _ c => c)
  · obtain ⟨r1, r2, r3, r4⟩ := cgr
    exact ⟨ec, by rw [eI]; exact r2, by rw [eI]; exact r3, by rw [eR 282 9 (fun c => by omega) (fun _ => by decide)]; exact r4⟩
  · rw [rows (z + 9) (mP z hz)]
    refine ⟨(cgq.1 z hz k hk).1, fun o ho => ?_⟩
    have q := (cgq.1 z hz k hk).2 o ho
    exact ⟨q.1, fun c hc => by rw [eI]; exact q.2 c hc⟩
  · unfold CN mx_kd at cn ⊢
    rw [eN, eC, eS, eK]
    exact cn
theorem g_enter2 (hd : 1 ≤ d) (g : CG C h s w A ((y, (F, en, jb), js) :: G) T Ks P (some x) pl rn XL FS VS OS inh) (ht : T.length < 2950) : mx_SM mY_X4_enter d [.ref 282, .ref y, .int pu, .int bh, .int j] h (fun r h1 => r = .inl none ∧ CG C h1 s w A ((y, (F, en, jb), js) :: G) ((7, bh, pu, j) :: T) Ks (fup P y (some x, nI (T.length + 1), (P y).2.2)) (some y) pl rn XL FS VS OS inh) := by
  refine b_X4_enter 282 y _ _ _ ⟨by omega, sc_k282 g.sc, (g_push (d := d - 1) g ht).mono ?_⟩
  rintro r h1 ⟨rfl, g1⟩
  obtain ⟨sy, yx⟩ := g1.sb
  have p0 := g1.2.2.2.2.2.2.1 _ List.mem_cons_self
  have t4 : hpI h1 282 4 = nI (T.length + 1) := g1.2.2.2.2.2.2.2.1.2.1
  refine Or.inl ⟨rfl, sc_k282 g1.sc, x, g1.r10, sy.k0, ?_⟩
  rintro _ rfl _ rfl
  have g2 : CG C (hsI (hsR h1 y 13 (some x)) y 12 (hpI (hsR h1 y 13 (some x)) 282 4)) s w A ((y, (F, en, jb), js) :: G) ((7, bh, pu, j) :: T) Ks (fup P y (some x, nI (T.length + 1), (P y).2.2)) (some x) pl rn XL FS VS OS inh := by
    have e12 : hpI (hsR h1 y 13 (some x)) 282 4 = nI (T.length + 1) := t4
    rw [e12]
    have cj := (g1.2.2.2.2.2.1.1 _ List.mem_cons_self).2.2.2
    refine g1.own ⟨rfl, rfl, rfl, rfl, rfl, rfl⟩ (fun b hb => ?_) (fun k hk => ?_) (fun b hb => ?_) (fun k hk => ?_) ?_ ?_ ?_ ?_
    · funext k; rw [hpI_sIn hb]; rfl
    · rw [hpI_sIe, fup_n (by omega)]; rfl
    · funext k
      show hpR (hsR h1 y 13 (some x)) b k = _
      rw [hpR_sRn hb]
    · show hpR (hsR h1 y 13 (some x)) y k = _
      rw [hpR_sR, if_pos rfl, if_neg hk]
    · rw [hpI_sIe, fup_n (by decide)]
      exact cj.1
    · show hpR (hsR h1 y 13 (some x)) y 13 = _
      rw [hpR_sR, if_pos rfl, if_pos rfl]
    · rw [hpI_sIe, fup_e]
    · rw [hpI_sIe, fup_n (by decide)]
      exact p0.2.2
  rintro _ rfl
  generalize hsI (hsR h1 y 13 (some x)) y 12 (hpI (hsR h1 y 13 (some x)) 282 4) = H at g2
  obtain ⟨sy2, -⟩ := g2.sb
  have e10 : ∀ b k, (b = 282 → k ≠ 10) → hpR (hsR H 282 10 (some y)) b k = hpR H b k := fun b k hk => by
    rw [hpR_sR]
    split
    · rename_i e
      rw [if_neg (hk e), e]
    · rfl
  refine ⟨rfl, g2.rr sy2 yx ⟨rfl, rfl, rfl, rfl, rfl, rfl, rfl⟩ (fun b k h1 h2 => e10 b k (fun c => (h2 c).2)) (fun e he => he) (List.Perm.refl _) ?_ (fun e he => ⟨?_, rfl⟩) ?_⟩
  · rw [e10 282 8 (fun _ => by decide)]
    exact g2.2.2.2.2.2.1.2.2.2.2.2.cg (fun z _ => e10 z 13 (fun _ => by decide))
  · rw [e10 e.1 13 (fun _ => by decide)]
    exact (g2.2.2.2.2.2.2.1 e he).1
  · rw [hpR_sR, if_pos rfl, if_pos rfl]
/-- a shell's cells are free -/
theorem g_release (hd : 2 ≤ d) (g : CG C h s w A ((y, (F, en, jb), js) :: G) T Ks P cur pl rn XL FS VS OS []) : mx_SM mY_X4_release d [.ref 282, .ref y] h (fun r h1 => r = .inl none ∧ CG C h1 s w A G T Ks P cur pl rn XL (y :: FS) VS OS []) := by
  obtain ⟨sy, yx⟩ := g.sb
  refine b_X4_release 282 y ⟨sy.k0, y + 8, sy.r0_3, by omega, sy.k8, (c_X2_closeAll (by omega) g.2.2.2.1 (sy.hd (sc_k135 g.sc)) g.mx).mono ?_⟩
  rintro r h1 (⟨rfl, oi, fr, row⟩ | ⟨_, _, q⟩)
  · have g1 := g.row (hs := fun _ => none) oi fr (Or.inl rfl) (fun a ha ne k hk => by rw [row a ha k hk, if_neg ne]) (fun k hk => Or.inl ⟨by rw [row (y + 9) g.mx k hk, if_pos rfl], rfl⟩)
    obtain ⟨sy1, -⟩ := g1.sb
    have k4 := sc_k282 g1.sc
    refine Or.inl ⟨rfl, k4, sy1.k0, ?_⟩
    rintro _ rfl _ rfl
    obtain ⟨s1, s2, s3, s4, s5, s6⟩ := g1.2.2.2.2.2.1
    have nd := s2
    rw [List.map_cons, List.cons_append] at nd
    have nF : ∀ z ∈ FS, z ≠ y := fun z hz c => (List.nodup_cons.mp nd).1 (by rw [← c]; exact List.mem_append_right _ hz)
    have nG : ∀ e ∈ G, e.1 ≠ y := fun e he c => (List.nodup_cons.mp nd).1 (by rw [← c]; exact List.mem_append_left _ (List.mem_map.mpr ⟨e, he, rfl⟩))
    have e2 : ∀ b k, (b = y → k ≠ 13) → (b = 282 → k ≠ 8) → hpR (hsR (hsR h1 y 13 (hpR h1 282 8)) 282 8 (some y)) b k = hpR h1 b k := fun b k q1 q2 => by
      rw [hpR_sR]
      split
      · rename_i e
        rw [if_neg (q2 e), e, hpR_sRn (by omega)]
      · rw [hpR_sR]
        split
        · rename_i e
          rw [if_neg (q1 e), e]
        · rfl
    refine ⟨rfl, g1.rr sy1 yx ⟨rfl, rfl, rfl, rfl, rfl, rfl, rfl⟩ (fun b k q1 q2 => e2 b k q1 (fun c => (q2 c).1)) (fun e he => List.mem_cons_of_mem _ he) ?_ ⟨?_, ?_⟩ (fun e he => ⟨?_, rfl⟩) ?_⟩
    · exact List.perm_middle.symm
    · rw [hpR_sR, if_pos rfl, if_pos rfl]
    · have : hpR (hsR (hsR h1 y 13 (hpR h1 282 8)) 282 8 (some y)) y 13 = hpR h1 282 8 := by
        rw [hpR_sRn (by omega), hpR_sR, if_pos rfl, if_pos rfl]
      rw [this]
      exact s6.cg (fun z hz => e2 z 13 (fun c => absurd c (nF z hz)) (fun _ => by decide))
    · rw [e2 e.1 13 (fun c => absurd c (nG e he)) (fun _ => by decide)]
      exact (g1.2.2.2.2.2.2.1 e (List.mem_cons_of_mem _ he)).1
    · rw [e2 282 10 (fun c => by omega) (fun _ => by decide)]
      exact g1.r10
  · exact q.elim
end MXEN
