/-! Steps that keep the level: begin, finish, define, return, loops -/
section MXS5
variable {C : cC} {h h1 h2 h6 : mxH} {s s' d t k sl o c i p p' n fl : Nat} {v : Int32} {w w' : spW} {A A' A2 : Nat → Option Nat} {G G' G2 : List cE} {T : List cT} {Ks : List spH} {P P' : cP} {cur cur' : Option Nat} {pl rn : Int32} {XL XL' FS FS' VS VS' OS OS' inh inh' RS RS' : List Nat} {D : pmC} {e : cE} {x y x2 : Nat} {fh hs : spH} {f f' : spF} {en en' en2 : Bool} {jb jb' js js' : List spJ} {jl jl' : List Nat} {l : List spH} {fr fr' : List pmF} {K : List (pmU × pmL)} {Z : List cZ} {m1 : pmM} {ex : Nat → Prop}
theorem CMz.cg (cz : CMz C h s rn (w, p, (f, en, js, fr), K) A x jl Z P XL FS VS OS) : CG C h s w A ((x, (f, en, js), jl) :: (cJs js jl ++ cG Z)) (fr.map tfR ++ TFk K) (tsv fr ++ TSK K) P (some x) (nI p) rn XL FS VS OS [] := cz.1
theorem CMz.go (cz : CMz C h s rn (w, p, (f, en, js, fr), K) A x jl Z P XL FS VS OS) (wg : WGr ex w w' A A') (hex : ∀ o ∈ pnZ Z, ¬ ex o) (g1 : CG C h1 s' w' A' ((x, (f', en', js'), jl') :: G') (fr'.map tfR ++ TFk K) (tsv fr' ++ TSK K) P' (some x) (nI p') 1 XL' FS' VS' OS' []) (pm : G'.Perm (cJs js' jl' ++ cG Z)) (pX : (P' x).1 = (P x).1 ∧ (P' x).2.1 = (P x).2.1) (pZ : ∀ z ∈ Z, P' z.1 = P z.1) (hf : ∀ q ∈ fr', FrOK P' A' w' x q) (nd : (pnF fr' ++ pnZ Z).Nodup) (hn : cN fr' ≤ fN f') : CMn C h1 s' (w', p', (f', en', js', fr'), K) := by
  refine ⟨A', x, jl', Z, P', XL', FS', VS', OS', g1.pm (pm.cons _), cz.2.1.cg pX.1 pX.2 (fun z hz => by rw [pZ z hz]; exact ⟨rfl, rfl⟩), fun z hz => ?_, ?_⟩
  · rcases List.mem_cons.mp hz with rfl | hz
    · exact ⟨hn, hf⟩
    · have c := cz.2.2.1 z (List.mem_cons_of_mem _ hz)
      exact ⟨c.1, fun q hq => (c.2 q hq).mono wg (by rw [pZ z hz]) (fun o h6 ho => hex o (List.mem_flatMap.mpr ⟨z, hz, List.mem_filterMap.mpr ⟨q, hq, by rw [if_pos h6]; exact ho⟩⟩))⟩
  · rw [pnZ_cons]; exact nd
theorem CMz.nd (cz : CMz C h s rn (w, p, (f, en, js, fr), K) A x jl Z P XL FS VS OS) : (pnF fr ++ pnZ Z).Nodup := by
  have := cz.2.2.2
  rw [pnZ_cons] at this
  exact this
theorem CMz.fo (cz : CMz C h s rn (w, p, (f, en, js, fr), K) A x jl Z P XL FS VS OS) : ∀ q ∈ fr, FrOK P A w x q := (cz.2.2.1 _ List.mem_cons_self).2
theorem CMz.cn (cz : CMz C h s rn (w, p, (f, en, js, fr), K) A x jl Z P XL FS VS OS) : cN fr ≤ fN f := (cz.2.2.1 _ List.mem_cons_self).1
/-- the frames, the jobs, who waits stay -/
theorem CMz.same (cz : CMz C h s rn (w, p, (f, en, js, fr), K) A x jl Z P XL FS VS OS) (wg : WGr (fun _ => False) w w' A A') (g1 : CG C h1 s' w' A' ((x, (f', en', js), jl) :: (cJs js jl ++ cG Z)) (fr.map tfR ++ TFk K) (tsv fr ++ TSK K) P (some x) (nI p') 1 XL' FS' VS' OS' []) (hn : fN f' = fN f) : CMn C h1 s' (w', p', (f', en', js, fr), K) :=
  cz.go wg (fun _ _ c => c) g1 (List.Perm.refl _) ⟨rfl, rfl⟩ (fun _ _ => rfl) (fun q hq => (cz.fo q hq).mono wg rfl (fun _ _ _ c => c)) cz.nd (by rw [hn]; exact cz.cn)
/-- one more frame, which holds no end of a pipe -/
theorem CMz.push {q : pmF} (cz : CMz C h s rn (w, p, (f, en, js, fr), K) A x jl Z P XL FS VS OS) (wg : WGr (fun _ => False) w w' A A') (g1 : CG C h1 s' w' A' ((x, (f', en', js), jl) :: (cJs js jl ++ cG Z)) ((q :: fr).map tfR ++ TFk K) (tsv (q :: fr) ++ TSK K) P (some x) (nI p') 1 XL' FS' VS' OS' []) (hq : FrOK P A' w' x q) (h6 : q.1 ≠ 6) (hn : cN (q :: fr) ≤ fN f') : CMn C h1 s' (w', p', (f', en', js, q :: fr), K) := by
  refine cz.go wg (fun _ _ c => c) g1 (List.Perm.refl _) ⟨rfl, rfl⟩ (fun _ _ => rfl) (fun z hz => ?_) ?_ hn
  · rcases List.mem_cons.mp hz with rfl | hz
    · exact hq
    · exact (cz.fo z hz).mono wg rfl (fun _ _ _ c => c)
  · have : pnF (q :: fr) = pnF fr := by
      unfold pnF
      rw [List.filterMap_cons, if_neg h6]
    rw [this]; exact cz.nd
theorem pnF_tail {q : pmF} : (pnF fr).Sublist (pnF (q :: fr)) := by
  unfold pnF
  rw [List.filterMap_cons]
  split
  · exact List.Sublist.refl _
  · exact List.sublist_cons_self _ _
/-- a frame less -/
theorem CMz.pop {q : pmF} (cz : CMz C h s rn (w, p, (f, en, js, q :: fr), K) A x jl Z P XL FS VS OS) (wg : WGr (fun _ => False) w w' A A') (g1 : CG C h1 s' w' A' ((x, (f', en', js), jl) :: (cJs js jl ++ cG Z)) (fr.map tfR ++ TFk K) (tsv fr ++ TSK K) P (some x) (nI p') 1 XL' FS' VS' OS' []) (hn : cN fr ≤ fN f') : CMn C h1 s' (w', p', (f', en', js, fr), K) :=
  cz.go wg (fun _ _ c => c) g1 (List.Perm.refl _) ⟨rfl, rfl⟩ (fun _ _ => rfl) (fun z hz => (cz.fo z (List.mem_cons_of_mem _ hz)).mono wg rfl (fun _ _ _ c => c)) (cz.nd.sublist (pnF_tail.append_right _)) hn
/-- the uppermost frame changes -/
theorem CMz.top {q q' : pmF} (cz : CMz C h s rn (w, p, (f, en, js, q :: fr), K) A x jl Z P XL FS VS OS) (wg : WGr (fun _ => False) w w' A A') (g1 : CG C h1 s' w' A' ((x, (f', en', js), jl) :: (cJs js jl ++ cG Z)) ((q' :: fr).map tfR ++ TFk K) (tsv (q' :: fr) ++ TSK K) P (some x) (nI p') 1 XL' FS' VS' OS' []) (hq : FrOK P A' w' x q') (h6 : q'.1 ≠ 6) (hn : cN (q' :: fr) ≤ fN f') : CMn C h1 s' (w', p', (f', en', js, q' :: fr), K) := by
  refine cz.go wg (fun _ _ c => c) g1 (List.Perm.refl _) ⟨rfl, rfl⟩ (fun _ _ => rfl) (fun z hz => ?_) ?_ hn
  · rcases List.mem_cons.mp hz with rfl | hz
    · exact hq
    · exact (cz.fo z (List.mem_cons_of_mem _ hz)).mono wg rfl (fun _ _ _ c => c)
  · have : pnF (q' :: fr) = pnF fr := by
      unfold pnF
      rw [List.filterMap_cons, if_neg h6]
    rw [this]; exact cz.nd.sublist (pnF_tail.append_right _)
theorem TFk_len : ∀ K : List (pmU × pmL), (TFk K).length = nFK K
  | [] => rfl
  | u :: K => by
    show ((7, u.1.1, nI u.1.2.1, nI u.1.2.2) :: (u.2.2.2.2.map tfR ++ TFk K)).length = 1 + u.2.2.2.2.length + nFK K
    rw [List.length_cons, List.length_append, List.length_map, TFk_len K]; omega
theorem tsv_len : ∀ fr : List pmF, (tsv fr).length = nSL fr
  | [] => rfl
  | q :: fr => by
    have ih := tsv_len fr
    unfold tsv at ih ⊢
    rw [List.filterMap_cons]
    show _ = (if q.1 = 1 then 1 else 0) + nSL fr
    by_cases c : q.1 = 1
    · rw [if_pos c, if_pos c]
      simp only [List.length_cons, ih]
      omega
    · rw [if_neg c, if_neg c]
      simp only [ih]
      omega
theorem TSK_len : ∀ K : List (pmU × pmL), (TSK K).length = nSK K
  | [] => rfl
  | u :: K => by
    show (tsv u.2.2.2.2 ++ TSK K).length = nSL u.2.2.2.2 + nSK K
    rw [List.length_append, tsv_len, TSK_len K]
theorem tsv_1 {q : pmF} (e : q.1 = 1) : tsv (q :: fr) = q.2.2.2.2.1 :: tsv fr := by
  unfold tsv
  rw [List.filterMap_cons, if_pos e]
theorem tsv_n {q : pmF} (e : q.1 ≠ 1) : tsv (q :: fr) = tsv fr := by
  unfold tsv
  rw [List.filterMap_cons, if_neg e]
/-- the lowest level's handles become these -/
def lastH (fh : spH) : List cZ → List cZ
  | [] => []
  | [z] => [(z.1, (vH z.2.1.1 fh, z.2.1.2), z.2.2)]
  | z :: z2 :: L => z :: lastH fh (z2 :: L)
def lst146 : List cZ → Prop
  | [] => False
  | [z] => z.1 = 146
  | _ :: z2 :: L => lst146 (z2 :: L)
theorem CKr.lst : ∀ {x : Nat} {Z : List cZ} {K : List (pmU × pmL)} (l : pmL) (jl : List Nat), CKr P x Z K → lst146 ((x, l, jl) :: Z)
  | x, [], K, _, _, h => h.2.1
  | x, z :: Z, K, _, _, ⟨u, K', _, _, _, _, _, h6⟩ => h6.lst z.2.1 z.2.2
/-- the main shell among those that live -/
theorem cG_main : ∀ {L : List cZ}, lst146 L → ∃ Fm enm jbm jsm G2, (cG L).Perm ((146, (Fm, enm, jbm), jsm) :: G2) ∧ ((146, (vH Fm fh, enm, jbm), jsm) :: G2).Perm (cG (lastH fh L))
  | [], h => h.elim
  | [z], h => by
    have h : z.1 = 146 := h
    refine ⟨z.2.1.1, z.2.1.2.1, z.2.1.2.2.1, z.2.2, cJs z.2.1.2.2.1 z.2.2 ++ [], ?_, ?_⟩
    · rw [← h]; exact List.Perm.refl _
    · rw [← h]; exact List.Perm.refl _
  | z :: z2 :: L, h => by
    obtain ⟨Fm, enm, jbm, jsm, G2, p1, p2⟩ := cG_main (L := z2 :: L) h
    refine ⟨Fm, enm, jbm, jsm, cZe z ++ G2, ?_, ?_⟩
    · show (cZe z ++ cG (z2 :: L)).Perm _
      exact (p1.append_left _).trans List.perm_middle
    · show ((146, (vH Fm fh, enm, jbm), jsm) :: (cZe z ++ G2)).Perm (cZe z ++ cG (lastH fh (z2 :: L)))
      exact List.perm_middle.symm.trans (p2.append_left _)
/-- the run has stopped -/
def CStp (C : cC) (h : mxH) (s : Nat) (m : pmM) : Prop := ∃ A x jl Z P XL FS VS OS, CKr P x Z m.2.2.2 ∧
  CG C h s m.1 A (cG (lastH (kcF C) ((x, m.2.2.1, jl) :: Z))) (cTf m) (cTS m) P (some x) (nI m.2.1) 0 XL FS VS OS []
theorem wg_red {w : spW} {rs : List spR} {F : spF} (ax : AX A A' (wO w).length) {w2 : spW} (e1 : wO w2 = wO (redOps rs w F).2.1) (e2 : wU w2 = wU w) : WGr ex w w2 A A' := by
  obtain ⟨⟨l, e⟩, -⟩ := redOps_pre rs w F
  refine ⟨by rw [e2]; exact Nat.le_refl _, fun o pp _ h1 h2 => ⟨?_, fun z hz => ?_⟩⟩
  · rw [e1, e, List.getElem?_append_left (List.getElem?_eq_some_iff.mp h1).1]; exact h1
  · rcases ax z o hz with c | c
    · exact h2 z c
    · have := (List.getElem?_eq_some_iff.mp h1).1
      omega
theorem pmRec_O {w : spW} {F : spF} : wO (pmRec D c w F) = wO w ∧ wU (pmRec D c w F) = wU w := by
  unfold pmRec
  split <;> exact ⟨rfl, rfl⟩
theorem redOp_N {r : spR} {w : spW} {F : spF} {q : spW × spF} (e : redOp r w F = some q) : fN q.2 = fN F := by
  unfold redOp at e
  repeat' split at e
  all_goals first
    | (cases e; rfl)
    | cases e
theorem redOps_N : ∀ (rs : List spR) (w : spW) (F : spF), fN (redOps rs w F).2.2 = fN F
  | [], _, _ => rfl
  | r :: rs, w, F => by
    unfold redOps
    split
    · rfl
    · rename_i w1 F1 e
      rw [redOps_N rs w1 F1]
      exact redOp_N e
theorem s_begin (hd : 6 ≤ d) (cz : CMz C h s 1 (w, p + 1, (f, en, js, fr), K) A x jl Z P XL FS VS OS) (hc : c < kcC C) (hs2 : s < 2 ^ 31) (hl : fr.length + nFK K ≤ 2900) (hk : nSL fr + nSK K ≤ wB w) (e : pmBeg (kcD C) w p f en js fr K c t = some (fl, m1)) :
    mx_SM mY_X4_begin d [.ref 282, .int (nI c), .int (nI t)] h (fun r h1 => r = .inl none ∧ ((fl = 0 ∧ CMn C h1 (s + 1) m1) ∨ (fl = 1 ∧ CStp C h1 (s + 1) m1))) := by
  have g := cz.cg
  obtain ⟨Fm, enm, jbm, jsm, G2, pm, pm2⟩ := cG_main (fh := kcF C) (CKr.lst (f, en, js, fr) jl cz.2.1)
  have pm : ((x, (f, en, js), jl) :: (cJs js jl ++ cG Z)).Perm ((146, (Fm, enm, jbm), jsm) :: G2) := pm
  refine (g_begin (t := t) hd g hc hs2 (by rw [List.length_append, List.length_map, TFk_len]; omega) (by rw [List.length_append, tsv_len, TSK_len]; exact hk) pm).mono ?_
  rintro r h1 ⟨rfl, b1, b2, b3⟩
  refine ⟨rfl, ?_⟩
  unfold pmBeg at e
  by_cases c3 : wB w = 300
  · rw [if_pos c3] at e
    cases e
    exact Or.inr ⟨rfl, A, x, jl, Z, P, XL, FS, VS, OS, cz.2.1, (b1 c3).pm pm2⟩
  · rw [if_neg c3] at e
    by_cases cr : kRd (kcD C) c = []
    · rw [if_pos cr] at e
      cases e
      exact Or.inl ⟨rfl, cz.same (WGr.of (Nat.le_refl _) rfl) (b2 c3 cr) rfl⟩
    · rw [if_neg cr] at e
      obtain ⟨VS', -, A', OS', ax, q⟩ := b3 c3 cr
      simp only [] at e
      rcases q with ⟨q1, g1⟩ | ⟨q1, g1⟩
      · rw [if_pos q1] at e
        cases e
        refine Or.inl ⟨rfl, cz.push (q := (1, 0, 0, 0, fH f, none)) (wg_red ax rfl (redOps_pre _ _ _).2) g1 ⟨Or.inl rfl, fun c => by omega, fun c => by omega, fun c => by omega⟩ (fun c => nomatch c) ?_⟩
        rw [redOps_N]
        show 0 + cN fr ≤ fN f
        have := cz.cn
        omega
      · rw [if_neg (by rw [q1]; decide)] at e
        cases e
        exact Or.inl ⟨rfl, cz.same (wg_red ax pmRec_O.1 (pmRec_O.2.trans (redOps_pre _ _ _).2)) g1 (redOps_N _ _ _)⟩
theorem s_finish (hd : 4 ≤ d) (cz : CMz C h s 1 (w, p + 1, (f, en, js, fr), K) A x jl Z P XL FS VS OS) (hc : c < kcC C) (hs2 : s < 2 ^ 31) (e : pmFns (kcD C) w p f en js fr K c = some (fl, m1)) :
    mx_SM mY_X4_finish d [.ref 282, .int (nI c)] h (fun r h1 => r = .inl none ∧ fl = 0 ∧ CMn C h1 (s + 1) m1) := by
  have g := cz.cg
  unfold pmFns at e
  by_cases cr : kRd (kcD C) c = []
  · rw [if_pos cr] at e
    refine (g_finish hd hc hs2 g (fun q => absurd cr q)).mono ?_
    rintro r h1 ⟨rfl, b1, -⟩
    cases e
    exact ⟨rfl, rfl, cz.same (WGr.of (by rw [pmRec_O.2]; exact Nat.le_refl _) pmRec_O.1) (b1 cr) rfl⟩
  · rw [if_neg cr] at e
    rcases fr with _ | ⟨q, fr⟩
    · exact nomatch e
    · simp only [] at e
      by_cases q1 : q.1 = 1
      · rw [if_pos q1] at e
        rw [tsv_1 q1] at g
        refine (g_finish hd hc hs2 g (fun _ => ⟨tfR q, fr.map tfR ++ TFk K, q.2.2.2.2.1, tsv fr ++ TSK K, rfl, rfl⟩)).mono ?_
        rintro r h1 ⟨rfl, -, b2⟩
        cases e
        refine ⟨rfl, rfl, cz.pop (WGr.of (by rw [pmRec_O.2]; exact Nat.le_refl _) pmRec_O.1) (b2 cr _ _ _ _ rfl rfl) ?_⟩
        have cn := cz.cn
        unfold cN at cn
        have en : fN (if kKd (kcD C) c = 6 ∧ kAr (kcD C) c = [] then f else vH f q.2.2.2.2.1) = fN f := by split <;> rfl
        rw [en]
        omega
      · rw [if_neg q1] at e
        exact nomatch e
theorem s_define (hd : 2 ≤ d) (cz : CMz C h s 1 (w, p + 1, (f, en, js, fr), K) A x jl Z P XL FS VS OS) (hc : c < kcC C) (hkp : kPl (kcD C) (kAn (kcD C) p) = p + 1) (e : pmDef (kcD C) w p f en js fr K t c = some (fl, m1)) :
    mx_SM mY_X4_define d [.ref 282, .int (nI c), .int (nI t)] h (fun r h1 => r = .inl none ∧ fl = 0 ∧ CMn C h1 (s + 1) m1) := by
  have g := cz.cg
  rw [← hkp] at g
  refine (g_define (t := t) hd hc g).mono ?_
  rintro r h1 ⟨rfl, b1, b2⟩
  unfold pmDef at e
  refine ⟨rfl, ?_⟩
  rcases ek : tbF (fU f) (kNm (kcD C) c) with _ | i
  · rw [ek] at e
    simp only [] at e
    by_cases c10 : 10 ≤ (fU f).length
    · rw [if_pos c10] at e
      cases e
      have : dfn f (kNm (kcD C) c) (kAn (kcD C) p) = none := by unfold dfn; rw [ek]; simp only []; rw [if_pos c10]
      exact ⟨rfl, cz.same WGr.rf ((b1 this).sm (by omega)) rfl⟩
    · rw [if_neg c10] at e
      cases e
      have : dfn f (kNm (kcD C) c) (kAn (kcD C) p) = some (vU f (tbP (fU f) (kNm (kcD C) c) (kAn (kcD C) p))) := by unfold dfn; rw [ek]; simp only []; rw [if_neg c10]
      exact ⟨rfl, cz.same WGr.rf ((b2 _ this).sm (by omega)) rfl⟩
  · rw [ek] at e
    cases e
    have : dfn f (kNm (kcD C) c) (kAn (kcD C) p) = some (vU f (tbP (fU f) (kNm (kcD C) c) (kAn (kcD C) p))) := by unfold dfn; rw [ek]
    exact ⟨rfl, cz.same WGr.rf ((b2 _ this).sm (by omega)) rfl⟩
theorem s_return (hd : 1 ≤ d) (cz : CMz C h s 1 (w, p + 1, (f, en, js, fr), K) A x jl Z P XL FS VS OS) (hn4 : fN f ≤ 4) (e : pmRet w f en js fr K = some (fl, m1)) :
    mx_SM mY_X4_returnFromCall d [.ref 282] h (fun r h1 => r = .inl none ∧ fl = 0 ∧ CMn C h1 (s + 1) m1) := by
  have g := cz.cg
  unfold pmRet at e
  rcases fr with _ | ⟨q, fr⟩
  · exact nomatch e
  · simp only [] at e
    by_cases qk : q.1 = 2 ∨ q.1 = 3 ∨ q.1 = 4
    · rw [if_pos qk] at e
      have q1n : q.1 ≠ 1 := by omega
      have q8n : ¬ q.1 = 8 := by omega
      have e3 : (nI q.1 = 3 ↔ q.1 = 3) := nI_eq (b := 3) (by omega) (by omega)
      have e4 : (nI q.1 = 4 ↔ q.1 = 4) := nI_eq (b := 4) (by omega) (by omega)
      cases e
      obtain ⟨-, qn, q4, -⟩ := cz.fo q List.mem_cons_self
      obtain ⟨n, hn2, en2⟩ := qn qk
      have cn : 1 + cN fr ≤ fN f := by
        have := cz.cn
        unfold cN at this
        rw [if_pos qk] at this
        exact this
      have hn : 1 ≤ fN f := by omega
      rw [tsv_n q1n] at g
      refine (g_returnFromCall hd g (by omega) hn).mono ?_
      rintro r h1 ⟨rfl, g1⟩
      have e1 : (tfR q).1 = nI q.1 := by
        unfold tfR
        simp only []
        rw [if_neg q8n]
      have e2 : (tfR q).2.1 = q.2.1 := rfl
      rw [e1, e2, en2] at g1
      have ef : (if nI q.1 = 3 then vS (vN f (fN f - 1)) 0 else if nI q.1 = 4 then vS (vN f (fN f - 1)) (P x).2.2 else vN f (fN f - 1)) = (if q.1 = 3 then vS (vN f (fN f - 1)) 0 else if q.1 = 4 then vS (vN f (fN f - 1)) q.2.2.1 else vN f (fN f - 1)) := by
        rcases qk with c | c | c
        · rw [if_neg (fun z => by have := e3.mp z; omega), if_neg (fun z => by have := e4.mp z; omega), if_neg (by omega), if_neg (by omega)]
        · rw [if_pos (e3.mpr c), if_pos c]
        · rw [if_neg (fun z => by have := e3.mp z; omega), if_pos (e4.mpr c), if_neg (by omega), if_pos c, q4 c]
      rw [ef] at g1
      have en3 : nI q.2.1.toNatClampNeg = nI n := by rw [en2, nI_clamp hn2]
      rw [← en3] at g1
      refine ⟨rfl, rfl, cz.pop WGr.rf (g1.sm (Nat.le_succ s)) ?_⟩
      have cn2 : cN fr ≤ fN f - 1 := by omega
      split
      · exact cn2
      · split
        · exact cn2
        · exact cn2
    · rw [if_neg qk] at e
      exact nomatch e
end MXS5
