/-! CG where the machine's registers and frames change -/
section MXRG
variable {C : cC} {h h1 h2 : mxH} {s s' d t : Nat} {w w' : spW} {A A' : Nat → Option Nat} {G : List cE} {T : List cT} {Ks : List spH} {P : cP} {cur : Option Nat} {pl rn : Int32} {XL FS VS OS inh : List Nat} {D : pmC} {e : cE} {x : Nat} {fh : spH} {F F' : spF} {en : Bool} {jb : List spJ} {js : List Nat} {p : Nat → Prop} {a b c v : Int32}
theorem CGs.at (c : CGs D h A G XL FS) (he : e ∈ G) : SB h e.1 ∧ (e.1 = 146 ∨ 365 ≤ e.1) := c.2.2.2.2.1 e.1 ((c.2.2.1 e.1).mpr (List.mem_append_left _ (List.mem_map.mpr ⟨e, he, rfl⟩)))
theorem CG.reg {T' : List cT} {Ks' : List spH} {pl' rn' : Int32} (c : CG C h s w A G T Ks P cur pl rn XL FS VS OS inh) (e : ExI (fun b => b = 282 ∨ b = 285) h h1) (cv : CV h A VS Ks') (e6 : hpI h1 282 6 = nI Ks'.length) (ct : CT (hpI h1 285) T') (e4 : hpI h1 282 4 = nI T'.length) (l : T'.length ≤ 2950) (e11 : hpI h1 282 11 = pl') (e12 : hpI h1 282 12 = rn') : CG C h1 s w A G T' Ks' P cur pl' rn' XL FS VS OS inh := by
  obtain ⟨k0, fc, wc0, oi, cu0, cgs, cgp, cgf, cgr, cgq, cn⟩ := c
  have fp := e.fp
  have so : ∀ e ∈ G, SB h e.1 ∧ (e.1 = 146 ∨ 365 ≤ e.1) := fun e he => cgs.at he
  obtain ⟨eN, eC, eS, eK, eZ, eL, eR, eI⟩ := e
  have n2 := sc_ne5b wc0.1 (b := 282) (by decide)
  have n5 := sc_ne5b wc0.1 (b := 285) (by decide)
  have rI : ∀ b, hpK h b = 5 ∨ (b ≠ 282 ∧ b ≠ 285) → hpI h1 b = hpI h b := fun b hb => eI b (fun c => by
    rcases hb with hb | hb
    · rcases c with rfl | rfl
      · exact n2 hb
      · exact n5 hb
    · omega)
  obtain ⟨s1, s2, s3, s4, s5, s6⟩ := cgs
  refine ⟨k0, fc.tr k0.2.1 fp fun a ha => ⟨rI a (Or.inr (by have := cst_in ha; omega)), by rw [eL], fun _ => by rw [eR]⟩, ?_, oi.cg eN eK eZ (fun _ _ _ _ => by rw [eR]) (fun o ho => ⟨by rw [rI o (Or.inl ho.2)], by rw [eR]⟩) (by rw [eR]), CU_cg cu0 (fun b g1 g2 => rI b (Or.inr (by omega))), ⟨fun e he => ?_, s2, s3, s4, fun y hy => ⟨(s5 y hy).1.fp fp, (s5 y hy).2⟩, by rw [eR]; exact s6⟩, fun e he => ?_, ?_, ?_, ⟨fun y hy k hk => ⟨by rw [eR]; exact (cgq.1 y hy k hk).1, fun o ho => ?_⟩, fun v l q => by rw [CLn_cg (h := h) (fun b q1 q2 => rI b (Or.inr (by omega)))]; exact cgq.2 v l q⟩, ?_⟩
  · exact wc0.cgL (p := fun b => b = 282 ∨ b = 285) (q := fun _ => False) ⟨eN, eC, eS, eK, eZ, eR, eI, fun b _ => by rw [eL]⟩ (fun b hb c => by
      rcases hb with hb | hb
      · omega
      · rcases c with rfl | rfl
        · exact wc0.2.2.2.nn n2 hb
        · exact wc0.2.2.2.nn n5 hb) (fun c => c)
  · obtain ⟨sy, hy⟩ := so e he
    exact (s1 e he).cg fp (fun i hi => rI (e.1 + i) (Or.inr (by omega))) (fun i hi => by rw [eL]) (fun i _ _ k _ => by rw [eR]) (fun _ _ c => c) (fun v l c => by rw [CLn_cg (h := h) (fun b g1 g2 => rI b (Or.inr (by omega)))]; exact c)
  · obtain ⟨sy, hy⟩ := so e he
    have q := cgp e he
    have e0 : hpI h1 e.1 = hpI h e.1 := rI e.1 (Or.inr (by omega))
    rw [e0, eR]; exact q
  · obtain ⟨g1, g2, g3, g4, g5, g6⟩ := cgf
    refine ⟨ct, e4, l, ?_, e6, g6.1, g6.2.1, by rw [eR]; exact g6.2.2⟩
    unfold CV hd_at at cv ⊢
    rw [eR, eK, eZ]
    exact cv
  · obtain ⟨r1, r2, r3, r4⟩ := cgr
    exact ⟨by rw [eR]; exact r1, e11, e12, by rw [eR]; exact r4⟩
  · rw [eR] at ho
    have q := (cgq.1 y hy k hk).2 o ho
    have k5 : hpK h o = 5 := ((oi.2.2.1 (y + 9) (by unfold cRS; simp; exact Or.inr (Or.inr (Or.inl hy)))).2.2 k hk o ho).2
    refine ⟨q.1, fun c hc => ?_⟩
    rw [rI o (Or.inl k5)]; exact q.2 c hc
  · unfold CN mx_kd at cn ⊢
    rw [eN, eC, eS, eK]
    exact cn
theorem CG.sp (c : CG C h s w A G T Ks P cur pl rn XL FS VS OS inh) : CG C (hsI h 282 11 v) s w A G T Ks P cur v rn XL FS VS OS inh := by
  obtain ⟨g1, g2, g3, g4, g5, -⟩ := c.2.2.2.2.2.2.2.1
  have r := c.2.2.2.2.2.2.2.2.1
  have f : ∀ k, k ≠ 11 → hpI (hsI h 282 11 v) 282 k = hpI h 282 k := fun k hk => by rw [hpI_sIe, fup_n hk]
  exact c.reg (ExI.rf.I (Or.inl rfl)) g4 (by rw [f 6 (by decide)]; exact g5) (by rw [show hpI (hsI h 282 11 v) 285 = hpI h 285 by funext k; rw [hpI_sIn (by decide)]]; exact g1) (by rw [f 4 (by decide)]; exact g2) g3 (by rw [hpI_sIe, fup_e]) (by rw [f 12 (by decide)]; exact r.2.2.1)
theorem CG.sr (c : CG C h s w A G T Ks P cur pl rn XL FS VS OS inh) : CG C (hsI h 282 12 v) s w A G T Ks P cur pl v XL FS VS OS inh := by
  obtain ⟨g1, g2, g3, g4, g5, -⟩ := c.2.2.2.2.2.2.2.1
  have r := c.2.2.2.2.2.2.2.2.1
  have f : ∀ k, k ≠ 12 → hpI (hsI h 282 12 v) 282 k = hpI h 282 k := fun k hk => by rw [hpI_sIe, fup_n hk]
  exact c.reg (ExI.rf.I (Or.inl rfl)) g4 (by rw [f 6 (by decide)]; exact g5) (by rw [show hpI (hsI h 282 12 v) 285 = hpI h 285 by funext k; rw [hpI_sIn (by decide)]]; exact g1) (by rw [f 4 (by decide)]; exact g2) g3 (by rw [f 11 (by decide)]; exact r.2.1) (by rw [hpI_sIe, fup_e])
theorem CG.sc (c : CG C h s w A G T Ks P cur pl rn XL FS VS OS inh) : SC h := c.2.2.1.1
theorem g_push {a b c e : Int32} (g : CG C h s w A G T Ks P cur pl rn XL FS VS OS inh) (ht : T.length < 2950) : mx_SM mY_X4_push d [.ref 282, .int a, .int b, .int c, .int e] h (fun r h1 => r = .inl none ∧ CG C h1 s w A G ((a, b, c, e) :: T) Ks P cur pl rn XL FS VS OS inh) := by
  obtain ⟨g1, g2, g3, g4, g5, -⟩ := g.2.2.2.2.2.2.2.1
  have r := g.2.2.2.2.2.2.2.2.1
  refine (k_X4_push g.sc g2 (by omega)).mono ?_
  rintro r _ ⟨rfl, rfl⟩
  have f : ∀ k, k ≠ 4 → hpI (fr_push h T.length a b c e) 282 k = hpI h 282 k := fun k hk => by
    unfold fr_push
    rw [hpI_sIe, fup_n hk, hpI_rI, if_neg (by decide)]
  refine ⟨rfl, g.reg ((ExI.rf.rI (Or.inr rfl)).I (Or.inl rfl)) g4 (by rw [f 6 (by decide)]; exact g5) ?_ ?_ ?_ (by rw [f 11 (by decide)]; exact r.2.1) (by rw [f 12 (by decide)]; exact r.2.2.1)⟩
  · rw [show hpI (fr_push h T.length a b c e) 285 = fup (fup (fup (fup (hpI h 285) (4 * T.length) a) (4 * T.length + 1) b) (4 * T.length + 2) c) (4 * T.length + 3) e from by
      unfold fr_push
      funext k
      rw [hpI_sIn (by decide), hpI_rI, if_pos rfl]]
    exact g1.push
  · unfold fr_push
    rw [hpI_sIe, fup_e]; rfl
  · rw [List.length_cons]; omega
theorem g_pop {y : cT} (g : CG C h s w A G (y :: T) Ks P cur pl rn XL FS VS OS inh) : mx_SM mY_X4_pop d [.ref 282] h (fun r h1 => r = .inl none ∧ CG C h1 s w A G T Ks P cur pl rn XL FS VS OS inh) := by
  obtain ⟨g1, g2, g3, g4, g5, -⟩ := g.2.2.2.2.2.2.2.1
  have r := g.2.2.2.2.2.2.2.2.1
  rw [List.length_cons] at g2 g3
  refine (k_X4_pop g.sc g2 (by omega)).mono ?_
  rintro r _ ⟨rfl, rfl⟩
  have f : ∀ k, k ≠ 4 → hpI (hsI h 282 4 (nI T.length)) 282 k = hpI h 282 k := fun k hk => by rw [hpI_sIe, fup_n hk]
  refine ⟨rfl, g.reg (ExI.rf.I (Or.inl rfl)) g4 (by rw [f 6 (by decide)]; exact g5) ?_ (by rw [hpI_sIe, fup_e]) (by omega) (by rw [f 11 (by decide)]; exact r.2.1) (by rw [f 12 (by decide)]; exact r.2.2.1)⟩
  rw [show hpI (hsI h 282 4 (nI T.length)) 285 = hpI h 285 by funext k; rw [hpI_sIn (by decide)]]
  exact g1.pop.1
theorem g_field {y : cT} (g : CG C h s w A G (y :: T) Ks P cur pl rn XL FS VS OS inh) : (mx_SM mY_X4_field d [.ref 282, .int 0] h (mx_xct (.inl (some (.int y.1))) h)) ∧ (mx_SM mY_X4_field d [.ref 282, .int 1] h (mx_xct (.inl (some (.int y.2.1))) h)) ∧ (mx_SM mY_X4_field d [.ref 282, .int 2] h (mx_xct (.inl (some (.int y.2.2.1))) h)) ∧ (mx_SM mY_X4_field d [.ref 282, .int 3] h (mx_xct (.inl (some (.int y.2.2.2))) h)) := by
  obtain ⟨g1, g2, g3, g4, g5, -⟩ := g.2.2.2.2.2.2.2.1
  rw [List.length_cons] at g2 g3
  obtain ⟨-, p1, p2, p3, p4⟩ := g1.pop
  refine ⟨?_, ?_, ?_, ?_⟩
  · rw [← p1]; exact k_X4_field (k := 0) g.sc g2 (by omega) (by decide)
  · rw [← p2]; exact k_X4_field (k := 1) g.sc g2 (by omega) (by decide)
  · rw [← p3]; exact k_X4_field (k := 2) g.sc g2 (by omega) (by decide)
  · rw [← p4]; exact k_X4_field (k := 3) g.sc g2 (by omega) (by decide)
/-- a field of the uppermost frame -/
def ySt (y : cT) (k : Nat) (a : Int32) : cT := if k = 0 then (a, y.2) else if k = 1 then (y.1, a, y.2.2) else if k = 2 then (y.1, y.2.1, a, y.2.2.2) else (y.1, y.2.1, y.2.2.1, a)
theorem CT.set {f : Nat → Int32} {y : cT} {k : Nat} (hk : k < 4) (c0 : CT f (y :: T)) : CT (fup f (4 * T.length + k) a) (ySt y k a :: T) := by
  intro i hi
  rw [List.length_cons] at hi ⊢
  have c1 := c0 i (by rw [List.length_cons]; omega)
  rw [show (y :: T).length - 1 - i = T.length + 1 - 1 - i from rfl] at c1
  rcases i with _ | i
  · rw [show T.length + 1 - 1 - 0 = T.length by omega] at c1 ⊢
    simp only [List.getElem_cons_zero] at c1 ⊢
    unfold ySt
    have : k = 0 ∨ k = 1 ∨ k = 2 ∨ k = 3 := by omega
    rcases this with rfl | rfl | rfl | rfl
    · rw [if_pos rfl]
      exact ⟨fup_e, by rw [fup_n (by omega)]; exact c1.2.1, by rw [fup_n (by omega)]; exact c1.2.2.1, by rw [fup_n (by omega)]; exact c1.2.2.2⟩
    · rw [if_neg (by decide), if_pos rfl]
      exact ⟨by rw [fup_n (by omega)]; exact c1.1, fup_e, by rw [fup_n (by omega)]; exact c1.2.2.1, by rw [fup_n (by omega)]; exact c1.2.2.2⟩
    · rw [if_neg (by decide), if_neg (by decide), if_pos rfl]
      exact ⟨by rw [fup_n (by omega)]; exact c1.1, by rw [fup_n (by omega)]; exact c1.2.1, fup_e, by rw [fup_n (by omega)]; exact c1.2.2.2⟩
    · rw [if_neg (by decide), if_neg (by decide), if_neg (by decide)]
      exact ⟨by rw [fup_n (by omega)]; exact c1.1, by rw [fup_n (by omega)]; exact c1.2.1, by rw [fup_n (by omega)]; exact c1.2.2.1, fup_e⟩
  · simp only [List.getElem_cons_succ] at c1 ⊢
    rw [fup_n (by omega), fup_n (by omega), fup_n (by omega), fup_n (by omega)]
    exact c1
theorem g_setField {y : cT} {k : Nat} (hk : k < 4) (g : CG C h s w A G (y :: T) Ks P cur pl rn XL FS VS OS inh) : mx_SM mY_X4_setField d [.ref 282, .int (nI k), .int a] h (fun r h1 => r = .inl none ∧ CG C h1 s w A G (ySt y k a :: T) Ks P cur pl rn XL FS VS OS inh) := by
  obtain ⟨g1, g2, g3, g4, g5, -⟩ := g.2.2.2.2.2.2.2.1
  have r := g.2.2.2.2.2.2.2.2.1
  have g2' := g2
  rw [List.length_cons] at g2 g3
  refine (k_X4_setField g.sc g2 (by omega) hk).mono ?_
  rintro r _ ⟨rfl, rfl⟩
  have f : hpI (hsI h 285 (4 * T.length + k) a) 282 = hpI h 282 := by funext j; rw [hpI_sIn (by decide)]
  refine ⟨rfl, g.reg (ExI.rf.I (Or.inr rfl)) g4 (by rw [f]; exact g5) ?_ (by rw [f]; exact g2) (by rw [List.length_cons]; omega) (by rw [f]; exact r.2.1) (by rw [f]; exact r.2.2.1)⟩
  rw [hpI_sIe]
  exact g1.set hk
theorem CG.ks {Ks' : List spH} (g : CG C h s w A G T Ks P cur pl rn XL FS VS OS inh) (cv : CV h A VS Ks') : CG C (hsI h 282 6 (nI Ks'.length)) s w A G T Ks' P cur pl rn XL FS VS OS inh := by
  obtain ⟨g1, g2, g3, g4, g5, -⟩ := g.2.2.2.2.2.2.2.1
  have r := g.2.2.2.2.2.2.2.2.1
  have f : ∀ k, k ≠ 6 → hpI (hsI h 282 6 (nI Ks'.length)) 282 k = hpI h 282 k := fun k hk => by rw [hpI_sIe, fup_n hk]
  exact g.reg (ExI.rf.I (Or.inl rfl)) cv (by rw [hpI_sIe, fup_e]) (by rw [show hpI (hsI h 282 6 (nI Ks'.length)) 285 = hpI h 285 by funext k; rw [hpI_sIn (by decide)]]; exact g1) (by rw [f 4 (by decide)]; exact g2) g3 (by rw [f 11 (by decide)]; exact r.2.1) (by rw [f 12 (by decide)]; exact r.2.2.1)
end MXRG
