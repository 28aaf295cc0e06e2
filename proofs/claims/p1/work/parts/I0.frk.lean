/-! Steps: a subshell, a job, a pipeline's command -/
section MXI0
variable {C : cC} {h h1 h2 h6 : mxH} {s s' d t k sl o c i p p' n fl pu pq : Nat} {v bh : Int32} {w w' : spW} {A A' A2 : Nat → Option Nat} {G G' G2 : List cE} {T : List cT} {Ks : List spH} {P P' : cP} {cur cur' : Option Nat} {pl rn : Int32} {XL XL' FS FS' VS VS' OS OS' inh inh' RS RS' : List Nat} {D : pmC} {e : cE} {x y x2 : Nat} {fh hs : spH} {f f' F1 gg : spF} {en en' en2 last : Bool} {jb jb' js js' : List spJ} {jl jl' : List Nat} {fr fr' : List pmF} {K : List (pmU × pmL)} {Z : List cZ} {m1 : pmM} {ex : Nat → Prop} {oh ah : Option Nat} {bg : Bool} {l : spL} {as : List spL} {q0 : pmF}
theorem CKr.jobs : ∀ {x : Nat} {Z : List cZ} {K : List (pmU × pmL)}, CKr P x Z K → Z.length = K.length := fun k => k.len
/-- at most so many shells live -/
theorem cJs_len : ∀ (jb : List spJ) (jl : List Nat), (cJs jb jl).length ≤ jb.length
  | [], _ => Nat.zero_le _
  | _ :: _, [] => Nat.zero_le _
  | j :: jb, y :: jl => by
    rw [cJs_cons]
    have := cJs_len jb jl
    split
    · rw [List.length_cons, List.length_cons]; omega
    · rw [List.length_cons]; omega
theorem cG_len (h8 : ∀ z ∈ Z, z.2.1.2.2.1.length ≤ 8) : (cG Z).length ≤ 9 * Z.length := by
  induction Z with
  | nil => exact Nat.zero_le _
  | cons z Z ih =>
    rw [cG_cons, List.length_append, List.length_cons]
    have h1 := ih (fun y hy => h8 y (List.mem_cons_of_mem _ hy))
    have h2 := cJs_len z.2.1.2.2.1 z.2.2
    have h3 := h8 z List.mem_cons_self
    have : (cZe z).length = (cJs z.2.1.2.2.1 z.2.2).length + 1 := rfl
    omega
theorem CMz.cnt (cz : CMz C h s rn (w, p, (f, en, js, fr), K) A x jl Z P XL FS VS OS) (hK : K.length ≤ 100) : (cJs js jl ++ cG Z).length ≤ 990 := by
  have g := cz.cg
  have a := cJs_len js jl
  have l8 := g.cj.2.2.1
  have b := cG_len (Z := Z) (fun z hz => by
    have c := (g.2.2.2.2.2.1.1 _ (List.mem_cons_of_mem _ (List.mem_append_right _ (cG_mem hz)))).2.2.2
    exact c.2.2.1)
  have c := cz.2.1.len
  have c : Z.length = K.length := c
  rw [List.length_append]
  omega
theorem CMz.m146 (cz : CMz C h s rn (w, p, (f, en, js, fr), K) A x jl Z P XL FS VS OS) : 146 ∈ x :: (cJs js jl ++ cG Z).map (fun e => e.1) := by
  have l : 146 ∈ x :: Z.map (fun z => z.1) := cz.2.1.last
  rcases List.mem_cons.mp l with c | c
  · rw [c]; exact List.mem_cons_self
  · obtain ⟨z, hz, e⟩ := List.mem_map.mp c
    exact List.mem_cons_of_mem _ (List.mem_map.mpr ⟨_, List.mem_append_right _ (cG_mem hz), e⟩)
theorem s_fork (hd : 5 ≤ d) (cz : CMz C h s 1 (w, p + 1, (f, en, js, fr), K) A x jl Z P XL FS VS OS) (hK : K.length ≤ 100) (hl : fr.length + nFK K ≤ 2900) (ht : t < 2 ^ 31) :
    mx_SX mY_X4_doStep d 332 [(0, .ref 282), (3, .int (nI t))] [] h (fun r h1 => r = .inl none ∧ CMn C h1 (s + 1) (frk w, p + 1, (subF f, false, [], []), ((nI t, 0, 0), (f, en, js, fr)) :: K)) := by
  have g := cz.cg
  refine b_X4_doStep_332 282 _ ⟨by omega, sc_k282 g.sc, (g_fork (d := d - 1) (by omega) g (cz.cnt hK) cz.m146).mono ?_⟩
  rintro r h1 ⟨y, XL', FS', v11, rfl, yx, g1⟩
  refine Or.inl ⟨_, rfl, y, rfl, sc_k282 g1.sc, (g_enter2 (d := d - 1) (by omega) g1 (by rw [List.length_append, List.length_map, TFk_len]; omega)).mono ?_⟩
  rintro r h2 ⟨rfl, g2⟩
  refine Or.inl ⟨rfl, b_X4_doStep_404 ⟨rfl, ?_⟩⟩
  exact CMn.ent (P' := fup (fup P y (none, 0, v11)) y (some x, nI ((fr.map tfR ++ TFk K).length + 1), (fup P y (none, 0, v11) y).2.2)) cz.2.1 (FrA.mono (ex := fun _ => False) cz.2.2.1 (WGr.of (Nat.le_refl _) rfl) (fun _ _ => rfl) (fun _ _ c => c)) cz.nd (g2.sm (by omega)) (List.Perm.refl _) (by rw [fup_e]) (by rw [fup_e]) (fun z hz => by rw [fup_n hz, fup_n hz]) ⟨⟨t, ht, rfl⟩, (show (0 : Nat) ≤ 3 by decide), (fun c => absurd (show 2 ≤ (0 : Nat) from c) (by decide)), (fun c => absurd (show (0 : Nat) = 1 from c) (by decide))⟩
theorem s_job (hd : 5 ≤ d) (cz : CMz C h s 1 (w, p + 1, (f, en, js, fr), K) A x jl Z P XL FS VS OS) (hK : K.length ≤ 100) (hkp : kPl (kcD C) (kAn (kcD C) p) = p + 1) (e : pmMkj (kcD C) w p f en js fr K t = some (fl, m1)) :
    mx_SM mY_X4_makeJob d [.ref 282, .int (nI t)] h (StQ C s fl m1) := by
  have g := cz.cg
  have cj := g.cj
  rw [← hkp] at g
  refine (g_makeJob (t := t) hd g (cz.cnt hK) cz.m146).mono ?_
  rintro r h1 ⟨rfl, b1, b2⟩
  refine ⟨rfl, ?_⟩
  unfold pmMkj at e
  by_cases c : 8 ≤ js.length
  · rw [if_pos c] at e
    cases e
    exact ⟨rfl, cz.same WGr.rf ((b1 c).sm (by omega)) rfl⟩
  · rw [if_neg c] at e
    cases e
    obtain ⟨y, XL', FS', v11, yx, g1⟩ := b2 (by omega)
    have nds := g1.2.2.2.2.2.1.2.1
    rw [List.map_cons, List.map_cons, List.cons_append, List.cons_append] at nds
    have n1 := (List.nodup_cons.mp nds).1
    have n2 := (List.nodup_cons.mp (List.nodup_cons.mp nds).2).1
    have nx : x ≠ y := fun c => n1 (by rw [c]; exact List.mem_cons_self)
    have nz : ∀ z ∈ Z, z.1 ≠ y := fun z hz c => n2 (List.mem_append_left _ (List.mem_map.mpr ⟨_, List.mem_append_right _ (cG_mem hz), c⟩))
    have sn := cJs_snoc (y := y) js jl (0, 0, kAn (kcD C) p, subF f) cj.2.2.2.1 rfl
    refine ⟨rfl, cz.go (ex := fun _ => False) (fr' := fr) (WGr.of (Nat.le_refl _) rfl) (fun _ _ c => c) (g1.sm (by omega)) ?_ ⟨by rw [fup_n nx], by rw [fup_n nx]⟩ (fun z hz => by rw [fup_n (nz z hz)]) (fun q hq => (cz.fo q hq).mono (ex := fun _ => False) (WGr.of (Nat.le_refl _) rfl) (by rw [fup_n nx]) (fun _ _ _ c => c)) cz.nd cz.cn⟩
    rw [sn, List.append_assoc]
    exact List.perm_middle.symm
/-- a command of a pipeline -/
theorem s_pip (hd : 5 ≤ d) (cz : CMz C h s 1 (w, p + 1, (f, en, js, fr), K) A x jl Z P XL FS VS OS) (hK : K.length ≤ 100) (hl : fr.length + 1 + nFK K ≤ 2910) (ht : t < 2 ^ 31) (hU : (wU w).length < 302) (g : CG C h1 s w A ((x, (f, en, js), jl) :: (cJs js jl ++ cG Z)) ((q0 :: fr').map tfR ++ TFk K) (tsv (q0 :: fr') ++ TSK K) P (some x) (nI (p + 1)) 1 XL FS VS OS []) (hfr : fr'.length ≤ fr.length) (h6 : q0.1 = 6)
    (hq : (q0.2.2.2.2.2 = none ∧ q0.2.2.2.1 = -1) ∨ FrOK P A w x q0) (hf : ∀ q ∈ fr', FrOK P A w x q) (nd : (pnF (q0 :: fr') ++ pnZ Z).Nodup) (hn : cN fr' ≤ fN f) :
    mx_SM mY_X4_forkPiped d [.ref 282, .int (if last = true then 1 else 0), .int (nI t)] h1 (fun r h2 => r = .inl none ∧ CMn C h2 (s + 1) ((pipd (frk w) (subF f) q0.2.2.2.2.2 last).1, p + 1, ((pipd (frk w) (subF f) q0.2.2.2.2.2 last).2.1, false, [], []), ((nI t, 1, 0), (f, en, js, ((if last then 8 else 6), q0.2.1, q0.2.2.1, if last then q0.2.2.2.1 else nI (wU w).length, pmN, (pipd (frk w) (subF f) q0.2.2.2.2.2 last).2.2) :: fr')) :: K)) := by
  have g : CG C h1 s w A ((x, (f, en, js), jl) :: (cJs js jl ++ cG Z)) (tfR q0 :: (fr'.map tfR ++ TFk K)) (tsv (q0 :: fr') ++ TSK K) P (some x) (nI (p + 1)) 1 XL FS VS OS [] := g
  rw [tsv_n (by omega)] at g
  have hah : (q0.2.2.2.2.2 = none ∧ (tfR q0).2.2.2 = -1) ∨ ∃ o pp, q0.2.2.2.2.2 = some o ∧ (tfR q0).2.2.2 = nI pp ∧ pp < (wU w).length ∧ (wO w)[o]? = some (5, pp, 0) ∧ ∀ x, A x ≠ some o := by
    rcases hq with c | c
    · exact Or.inl c
    · exact Or.inr (c.2.2.2 h6)
  have pn0 : ∀ o, q0.2.2.2.2.2 = some o → pnF (q0 :: fr') = o :: pnF fr' := fun o e => by
    unfold pnF
    rw [List.filterMap_cons, if_pos h6, e]
  have exn : ∀ o, (o ∈ pnF fr' ∨ o ∈ pnZ Z) → ¬ q0.2.2.2.2.2 = some o := fun o ho c => by
    rw [pn0 o c, List.cons_append] at nd
    exact (List.nodup_cons.mp nd).1 (List.mem_append.mpr ho)
  have nd' : (pnF fr' ++ pnZ Z).Nodup := nd.sublist (pnF_tail.append_right _)
  have hff : ∀ q ∈ fr', ∀ o, q.1 = 6 → q.2.2.2.2.2 = some o → o ∈ pnF fr' := fun q hq o h6 ho => List.mem_filterMap.mpr ⟨q, hq, by rw [if_pos h6]; exact ho⟩
  refine (g_forkPiped (last := last) (t := t) hd g (by rw [List.length_cons, List.length_append, List.length_map, TFk_len]; omega) (cz.cnt hK) cz.m146 hU hah).mono ?_
  rintro r h2 ⟨y, XL', FS', v11, yx, rfl, A', OS', ay, g2⟩
  refine ⟨rfl, ?_⟩
  rw [pipd_2]
  have kk := cz.2.1
  have fo : FrA P A w ((x, (f, en, js, fr'), jl) :: Z) := fun z hz => by
    rcases List.mem_cons.mp hz with rfl | hz
    · exact ⟨hn, hf⟩
    · exact cz.2.2.1 z (List.mem_cons_of_mem _ hz)
  have mw : pnZ ((x, (f, en, js, fr'), jl) :: Z) = pnF fr' ++ pnZ Z := pnZ_cons
  suffices main : ∀ F1 : spF, CG C h2 s (pip2 (frk w) F1 last).1 A' ((y, ((pip2 (frk w) F1 last).2.1, false, []), []) :: (x, (f, en, js), jl) :: (cJs js jl ++ cG Z)) ((7, nI t, 1, 0) :: (if last = true then tfR q0 else ySt (tfR q0) 3 (nI (wU w).length)) :: (fr'.map tfR ++ TFk K)) (tsv fr' ++ TSK K) (fup (fup P y (none, 0, v11)) y (some x, nI ((tfR q0 :: (fr'.map tfR ++ TFk K)).length + 1), (fup P y (none, 0, v11) y).2.2)) (some y) (nI (p + 1)) 1 XL' FS' VS OS' [] →
      CMn C h2 (s + 1) ((pip2 (frk w) F1 last).1, p + 1, ((pip2 (frk w) F1 last).2.1, false, [], []), ((nI t, 1, 0), (f, en, js, ((if last then 8 else 6), q0.2.1, q0.2.2.1, if last then q0.2.2.2.1 else nI (wU w).length, pmN, (pip2 (frk w) F1 last).2.2) :: fr')) :: K) from main _ g2
  clear g2
  intro F1 g2
  cases last with
  | true =>
    have g2 : CG C h2 s (frk w) A' ((y, (F1, false, []), []) :: (x, (f, en, js), jl) :: (cJs js jl ++ cG Z)) ((7, nI t, 1, 0) :: tfR q0 :: (fr'.map tfR ++ TFk K)) (tsv fr' ++ TSK K) (fup (fup P y (none, 0, v11)) y (some x, nI ((tfR q0 :: (fr'.map tfR ++ TFk K)).length + 1), (fup P y (none, 0, v11) y).2.2)) (some y) (nI (p + 1)) 1 XL' FS' VS OS' [] := g2
    have wg : WGr (fun o => q0.2.2.2.2.2 = some o) w (frk w) A A' := ⟨Nat.le_refl _, fun o pp he h1 h2 => ⟨h1, fun z hz => by
      rcases ay z o hz with c | c | c
      · exact h2 z c
      · exact he c
      · have := (List.getElem?_eq_some_iff.mp h1).1
        have c : o = (wO w).length := c
        omega⟩⟩
    have fo2 := fo.mono (P' := P) wg (fun _ _ => rfl) (fun o ho => exn o (by rw [mw] at ho; exact List.mem_append.mp ho))
    show CMn C h2 (s + 1) (frk w, p + 1, (F1, false, [], []), ((nI t, 1, 0), (f, en, js, (8, q0.2.1, q0.2.2.1, q0.2.2.2.1, pmN, none) :: fr')) :: K)
    have et : tfR q0 = tfR (8, q0.2.1, q0.2.2.1, q0.2.2.2.1, pmN, none) := by
      unfold tfR
      simp only []
      rw [h6]
      rfl
    rw [et] at g2
    refine CMn.ent (fr := (8, q0.2.1, q0.2.2.1, q0.2.2.2.1, pmN, none) :: fr') kk (fun z hz => ?_) ?_ (show CG C h2 (s + 1) (frk w) A' _ _ (tsv ((8, q0.2.1, q0.2.2.1, q0.2.2.2.1, pmN, none) :: fr') ++ TSK K) _ _ _ _ _ _ _ _ _ from by rw [tsv_k (by decide)]; exact g2.sm (by omega)) (List.Perm.refl _) (by rw [fup_e]) (by rw [fup_e]; rfl) (fun z hz => by rw [fup_n hz, fup_n hz]) ⟨⟨t, ht, rfl⟩, (show (1 : Nat) ≤ 3 by decide), (fun c => absurd (show 2 ≤ (1 : Nat) from c) (by decide)), fun _ => ⟨_, _, rfl, Or.inr rfl⟩⟩
    · rcases List.mem_cons.mp hz with rfl | hz
      · have c := fo2 _ List.mem_cons_self
        refine ⟨by show 0 + cN fr' ≤ fN f; omega, fun q hq => ?_⟩
        rcases List.mem_cons.mp hq with rfl | hq
        · exact ⟨Or.inr (Or.inr (Or.inr (Or.inr (Or.inr (Or.inr rfl))))), fun c => absurd c (fun c => by rcases c with c | c | c <;> exact nomatch c), (fun c => nomatch c), (fun c => nomatch c)⟩
        · exact c.2 q hq
      · exact fo2 z (List.mem_cons_of_mem _ hz)
    · exact nd'
  | false =>
    have g2 : CG C h2 s (uO (uU (frk w) (wU w ++ [[]])) (wO w ++ [(6, (wU w).length, 0), (5, (wU w).length, 0)])) A' ((y, (vH F1 (fup (fH F1) 1 (some (wO w).length)), false, []), []) :: (x, (f, en, js), jl) :: (cJs js jl ++ cG Z)) ((7, nI t, 1, 0) :: ySt (tfR q0) 3 (nI (wU w).length) :: (fr'.map tfR ++ TFk K)) (tsv fr' ++ TSK K) (fup (fup P y (none, 0, v11)) y (some x, nI ((tfR q0 :: (fr'.map tfR ++ TFk K)).length + 1), (fup P y (none, 0, v11) y).2.2)) (some y) (nI (p + 1)) 1 XL' FS' VS OS' [] := g2
    show CMn C h2 (s + 1) (uO (uU (frk w) (wU w ++ [[]])) (wO w ++ [(6, (wU w).length, 0), (5, (wU w).length, 0)]), p + 1, (vH F1 (fup (fH F1) 1 (some (wO w).length)), false, [], []), ((nI t, 1, 0), (f, en, js, (6, q0.2.1, q0.2.2.1, nI (wU w).length, pmN, some ((wO w).length + 1)) :: fr')) :: K)
    have wg : WGr (fun o => q0.2.2.2.2.2 = some o) w (uO (uU (frk w) (wU w ++ [[]])) (wO w ++ [(6, (wU w).length, 0), (5, (wU w).length, 0)])) A A' := ⟨by show _ ≤ (wU w ++ [[]]).length; rw [List.length_append]; omega, fun o pp he h1 h2 => ⟨by
        show (wO w ++ _)[o]? = _
        rw [List.getElem?_append_left (List.getElem?_eq_some_iff.mp h1).1]; exact h1, fun z hz => by
      rcases ay z o hz with c | c | c
      · exact h2 z c
      · exact he c
      · have := (List.getElem?_eq_some_iff.mp h1).1
        have c : o = (wO w).length := c
        omega⟩⟩
    have fo2 := fo.mono (P' := P) wg (fun _ _ => rfl) (fun o ho => exn o (by rw [mw] at ho; exact List.mem_append.mp ho))
    have et : ySt (tfR q0) 3 (nI (wU w).length) = tfR (6, q0.2.1, q0.2.2.1, nI (wU w).length, pmN, some ((wO w).length + 1)) := by
      unfold ySt tfR
      simp only []
      rw [h6]
      rfl
    rw [et] at g2
    have small : ∀ o ∈ pnF fr' ++ pnZ Z, o < (wO w).length := fun o ho => by
      rw [← mw] at ho
      obtain ⟨z, hz, ho⟩ := List.mem_flatMap.mp ho
      obtain ⟨q, hq, e⟩ := List.mem_filterMap.mp ho
      by_cases c6 : q.1 = 6
      · rw [if_pos c6] at e
        obtain ⟨o2, pp, d1, d2, d3, d4, d5⟩ := ((fo z hz).2 q hq).2.2.2 c6
        rw [d1] at e
        rw [← Option.some.inj e]
        exact (List.getElem?_eq_some_iff.mp d4).1
      · rw [if_neg c6] at e
        exact nomatch e
    refine CMn.ent (fr := (6, q0.2.1, q0.2.2.1, nI (wU w).length, pmN, some ((wO w).length + 1)) :: fr') kk (fun z hz => ?_) ?_ (show CG C h2 (s + 1) _ A' _ _ (tsv ((6, q0.2.1, q0.2.2.1, nI (wU w).length, pmN, some ((wO w).length + 1)) :: fr') ++ TSK K) _ _ _ _ _ _ _ _ _ from by rw [tsv_k (by decide)]; exact g2.sm (by omega)) (List.Perm.refl _) (by rw [fup_e]) (by rw [fup_e]; rfl) (fun z hz => by rw [fup_n hz, fup_n hz]) ⟨⟨t, ht, rfl⟩, (show (1 : Nat) ≤ 3 by decide), (fun c => absurd (show 2 ≤ (1 : Nat) from c) (by decide)), fun _ => ⟨_, _, rfl, Or.inl rfl⟩⟩
    · rcases List.mem_cons.mp hz with rfl | hz
      · have c := fo2 _ List.mem_cons_self
        refine ⟨by show 0 + cN fr' ≤ fN f; omega, fun q hq => ?_⟩
        rcases List.mem_cons.mp hq with rfl | hq
        · refine ⟨Or.inr (Or.inr (Or.inr (Or.inr (Or.inr (Or.inl rfl))))), fun c => absurd c (fun c => by rcases c with c | c | c <;> exact nomatch c), (fun c => nomatch c), fun _ => ⟨(wO w).length + 1, (wU w).length, rfl, rfl, ?_, ?_, fun z hz => ?_⟩⟩
          · show _ < (wU w ++ [[]]).length
            rw [List.length_append]; exact Nat.lt_succ_self _
          · show (wO w ++ _)[(wO w).length + 1]? = _
            rw [List.getElem?_append_right (by omega), show (wO w).length + 1 - (wO w).length = 1 by omega]; rfl
          · rcases ay z _ hz with c | c | c
            · have := g.idl c
              omega
            · rcases hah with ⟨c1, -⟩ | ⟨o, pp, c1, -, -, c4, -⟩
              · rw [c1] at c; exact nomatch c
              · rw [c1] at c
                have := (List.getElem?_eq_some_iff.mp c4).1
                have := Option.some.inj c
                omega
            · have c : (wO w).length + 1 = (wO w).length := c
              omega
        · exact c.2 q hq
      · exact fo2 z (List.mem_cons_of_mem _ hz)
    · have ep : pnF ((6, q0.2.1, q0.2.2.1, nI (wU w).length, pmN, some ((wO w).length + 1)) :: fr') = ((wO w).length + 1) :: pnF fr' := by
        unfold pnF
        rw [List.filterMap_cons, if_pos rfl]
      rw [ep, List.cons_append]
      exact List.nodup_cons.mpr ⟨fun m => by have := small _ m; omega, nd'⟩
end MXI0
