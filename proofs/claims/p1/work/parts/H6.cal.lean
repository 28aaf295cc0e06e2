/-! Machine.call -/
section MXC6
variable {C : cC} {h h1 h2 h6 : mxH} {s s' d t k sl o c i p p' n fl : Nat} {v : Int32} {w w' : spW} {A A' A2 : Nat → Option Nat} {G G' G2 : List cE} {T : List cT} {Ks : List spH} {P P' : cP} {cur cur' : Option Nat} {pl rn : Int32} {XL XL' FS FS' VS VS' OS OS' inh inh' RS RS' : List Nat} {D : pmC} {e : cE} {x y x2 : Nat} {fh hs : spH} {f f' : spF} {en en' en2 : Bool} {jb jb' js js' : List spJ} {jl jl' : List Nat} {fr fr' : List pmF} {K : List (pmU × pmL)} {Z : List cZ} {m1 : pmM} {ex : Nat → Prop} {oh : Option Nat} {bg : Bool} {l : spL} {as : List spL}
theorem tsv_k {k : Nat} {a b c : Int32} {hh : spH} {o : Option Nat} (hk : k ≠ 1) : tsv ((k, a, b, c, hh, o) :: fr) = tsv fr := tsv_n hk
theorem tsv_k2 {k : Nat} {a : Int32} {z : Int32 × Int32 × spH × Option Nat} (hk : k ≠ 1) : tsv ((k, a, z) :: fr) = tsv fr := tsv_n hk
theorem rd_M : wM (rdLine w oh bg).2 = wM w := by
  cases oh with
  | none => rfl
  | some o =>
    unfold rdLine
    simp only []
    repeat' split
    all_goals rfl
theorem wr_M : wM (wrLine w oh l).2 = wM w := by
  cases oh with
  | none => rfl
  | some o =>
    unfold wrLine
    simp only []
    repeat' split
    all_goals rfl
theorem cat_M : ∀ k (w : spW) r, catN k w f = some r → wM r.2 = wM w
  | 0, _, _, h => nomatch h
  | k + 1, w, r, h => by
    unfold catN at h
    simp only [] at h
    split at h
    · cases h; exact rd_M
    · split at h
      · cases h; exact rd_M
      · split at h
        · cases h; exact rd_M
        · split at h
          · rw [cat_M k _ r h, wr_M, rd_M]
          · cases h; rw [wr_M, rd_M]
theorem asgn_HN {n : Int64} {f1 : spF} (e : asgn f n l = some f1) : fH f1 = fH f ∧ fN f1 = fN f := by
  unfold asgn at e
  split at e
  · cases e; exact ⟨rfl, rfl⟩
  · split at e
    · exact nomatch e
    · cases e; exact ⟨rfl, rfl⟩
theorem opRead_ok (hA : ∀ a, fH f 0 = some a → ∃ z, A z = some a) : wM (opRead as w f).2.1 = wM w ∧ fH (opRead as w f).2.2 = fH f ∧ fN (opRead as w f).2.2 = fN f ∧ WGr ex w (opRead as w f).2.1 A A := by
  have r := rd_wg (ex := ex) (w := w) (bg := fG f) hA
  have m := rd_M (w := w) (oh := fH f 0) (bg := fG f)
  unfold opRead
  split
  · exact ⟨rfl, rfl, rfl, WGr.rf⟩
  · simp only []
    split
    · exact ⟨m, rfl, rfl, r⟩
    · split
      · exact ⟨m, rfl, rfl, r⟩
      · split
        · exact ⟨m, rfl, rfl, r⟩
        · rename_i f1 e
          exact ⟨m, (asgn_HN e).1, (asgn_HN e).2, r⟩
theorem opTrap_ok : (opTrap as w f).1 ≠ -2 ∧ fH (opTrap as w f).2.2 = fH f ∧ fN (opTrap as w f).2.2 = fN f := by
  unfold opTrap
  split
  · exact ⟨by show (2 : Int32) ≠ -2; decide, rfl, rfl⟩
  · split
    · exact ⟨by show (2 : Int32) ≠ -2; decide, rfl, rfl⟩
    · exact ⟨by show (0 : Int32) ≠ -2; decide, rfl, rfl⟩
theorem opSet_ok : (opSet as w f).1 ≠ -2 ∧ fH (opSet as w f).2.2 = fH f ∧ fN (opSet as w f).2.2 = fN f := by
  unfold opSet
  split
  · exact ⟨by show (2 : Int32) ≠ -2; decide, rfl, rfl⟩
  · exact ⟨by show (0 : Int32) ≠ -2; decide, rfl, rfl⟩
theorem opAsgn_ok {n : Int64} {a : spL} : (opAsgn n a w f).1 ≠ -2 ∧ fH (opAsgn n a w f).2.2 = fH f ∧ fN (opAsgn n a w f).2.2 = fN f ∧ (opAsgn n a w f).2.1 = uM w (wM w + 1) := by
  unfold opAsgn
  split
  · exact ⟨by show (1 : Int32) ≠ -2; decide, rfl, rfl, rfl⟩
  · rename_i f1 e
    exact ⟨by show (0 : Int32) ≠ -2; decide, (asgn_HN e).1, (asgn_HN e).2, rfl⟩
theorem CH.exs (c : CH h A x fh) {k : Nat} (hk : k < 10) : ∀ a, fh k = some a → ∃ z, A z = some a := fun a e => by
  rcases c k hk with ⟨-, c2⟩ | ⟨o, b, c1, c2, c3⟩
  · rw [e] at c2; exact nomatch c2
  · rw [e] at c2; exact ⟨o, by rw [c3, Option.some.inj c2]⟩
/-- what a command of the machine leaves -/
abbrev StQ (C : cC) (s fl : Nat) (m1 : pmM) : mxRes → mxH → Prop := fun r h1 => r = .inl none ∧ fl = 0 ∧ CMn C h1 (s + 1) m1
theorem s_goOn {q : Int32 × spW × spF} (hd : 2 ≤ d) (hz : 0 < kZ (kcD C)) (cz : CMz C h s 1 (w, p + 1, (f, en, js, fr), K) A x jl Z P XL FS VS OS) (o : OpE (kcD C) A x s n h q (.inl (some (.int q.1))) h1) (hn : n = kcN C + wM q.2.1) (hH : fH q.2.2 = fH f) (hN : fN q.2.2 = fN f) (wg : WGr (fun _ => False) w q.2.1 A A) (e : pmRes (kcD C) p en js fr K q = some (fl, m1)) :
    mx_SM mY_X4_goOnOrEnd d [.ref 282, .int q.1] h1 (StQ C s fl m1) := by
  have g1 := cz.cg.op o hn hH
  refine (g_goOnOrEnd hd hz g1).mono ?_
  rintro r h2 ⟨rfl, b1, b2⟩
  refine ⟨rfl, ?_⟩
  unfold pmRes at e
  by_cases c : q.1 = -2
  · rw [if_pos c] at e
    cases e
    exact ⟨rfl, cz.same wg ((b2 c).sm (by omega)) hN⟩
  · rw [if_neg c] at e
    cases e
    exact ⟨rfl, cz.same wg ((b1 c).sm (by omega)) hN⟩
theorem s_status {q : Int32 × spW × spF} (cz : CMz C h s 1 (w, p + 1, (f, en, js, fr), K) A x jl Z P XL FS VS OS) {r : mxRes} (o : OpE (kcD C) A x s n h q r h1) (hn : n = kcN C + wM q.2.1) (hH : fH q.2.2 = fH f) (hN : fN q.2.2 = fN f) (wg : WGr (fun _ => False) w q.2.1 A A) (h2n : q.1 ≠ -2) (e : pmRes (kcD C) p en js fr K q = some (fl, m1)) :
    hpK h1 x = 8 ∧ ∀ h2, h2 = hsI h1 x 6 q.1 → fl = 0 ∧ CMn C h2 (s + 1) m1 := by
  have g1 := cz.cg.op o hn hH
  refine ⟨g1.sb.1.k0, ?_⟩
  rintro _ rfl
  unfold pmRes at e
  rw [if_neg h2n] at e
  cases e
  exact ⟨rfl, cz.same wg (g1.st.sm (by omega)) hN⟩
theorem s_fnc {n : Int64} (hd : 3 ≤ d) (cz : CMz C h s 1 (w, p + 1, (f, en, js, fr), K) A x jl Z P XL FS VS OS) (hp : p + 1 < 2 ^ 31) (hl : fr.length + nFK K ≤ 2900) (e : pmFnc (kcD C) w p f en js fr K n = some (fl, m1)) : mx_SM mY_X4_callFunction d [.ref 282, .long n] h (StQ C s fl m1) := by
  refine (g_callFunction hd cz.cg (by rw [List.length_append, List.length_map, TFk_len]; omega)).mono ?_
  rintro r h1 ⟨rfl, b1, b2, b3⟩
  refine ⟨rfl, ?_⟩
  unfold pmFnc at e
  rcases et : tbF (fU f) n with _ | i
  · rw [et] at e
    cases e
    exact ⟨rfl, cz.same WGr.rf ((b1 et).sm (by omega)) rfl⟩
  · rw [et] at e
    simp only [] at e
    by_cases c : 4 ≤ fN f
    · rw [if_pos c] at e
      cases e
      exact ⟨rfl, cz.same WGr.rf ((b2 i et c).sm (by omega)) rfl⟩
    · rw [if_neg c] at e
      cases e
      have g3 : CG C h1 (s + 1) w A ((x, (vN f (fN f + 1), en, js), jl) :: (cJs js jl ++ cG Z)) (((2, nI (p + 1), 0, 0, pmN, none) :: fr).map tfR ++ TFk K) (tsv ((2, nI (p + 1), 0, 0, pmN, none) :: fr) ++ TSK K) P (some x) (nI (kPl (kcD C) ((fU f).getD i (0, 0)).2)) 1 XL FS VS OS [] := by
        rw [tsv_k (by decide)]
        exact (b3 i et c).sm (by omega)
      refine ⟨rfl, cz.push (q := (2, nI (p + 1), 0, 0, pmN, none)) WGr.rf g3 ⟨Or.inr (Or.inl rfl), fun _ => ⟨p + 1, hp, rfl⟩, (fun c => nomatch c), (fun c => nomatch c)⟩ (fun c => nomatch c) ?_⟩
      show 1 + cN fr ≤ fN f + 1
      have := cz.cn
      omega
theorem s_rse (hd : 4 ≤ d) (hz : 0 < kZ (kcD C)) (hc : c < kcC C) (hst : stat (fS f)) (cz : CMz C h s 1 (w, p + 1, (f, en, js, fr), K) A x jl Z P XL FS VS OS) (hp : p + 1 < 2 ^ 31) (hl : fr.length + nFK K ≤ 2900) (e : pmRse (kcD C) w p f en js fr K ((kAr (kcD C) c).map (evA f)) = some (fl, m1)) : mx_SM mY_X4_raise d [.ref 282, .int (nI c)] h (StQ C s fl m1) := by
  have f0 : fl = 0 := by
    have q := e
    unfold pmRse pmEnd pmCal at q
    repeat' split at q
    all_goals (cases q; rfl)
  subst f0
  refine (g_raise hd hz hc hst (by rw [List.length_append, List.length_map, TFk_len]; omega) (show LvG C s A x jl (cJs js jl ++ cG Z) K P XL FS VS OS (w, p + 1, (f, en, js, fr), K) h from cz.cg) e).mono ?_
  rintro r h1 ⟨rfl, g1⟩
  refine ⟨rfl, rfl, ?_⟩
  unfold pmRse pmEnd pmCal at e
  split at e
  · cases e; exact cz.same WGr.rf (CG.sm g1 (by omega)) rfl
  · split at e
    · cases e; exact cz.same WGr.rf (CG.sm g1 (by omega)) rfl
    · split at e
      · cases e; exact cz.same WGr.rf (CG.sm g1 (by omega)) rfl
      · split at e
        · cases e; exact cz.same WGr.rf (CG.sm g1 (by omega)) rfl
        · split at e
          · cases e; exact cz.same WGr.rf (CG.sm g1 (by omega)) rfl
          · split at e
            · cases e; exact cz.same WGr.rf (CG.sm g1 (by omega)) rfl
            · split at e
              · cases e; exact cz.same WGr.rf (CG.sm g1 (by omega)) rfl
              · cases e
                refine cz.push (q := (3, nI (p + 1), 0, 0, pmN, none)) WGr.rf (CG.sm g1 (by omega)) ⟨Or.inr (Or.inr (Or.inl rfl)), fun _ => ⟨p + 1, hp, rfl⟩, (fun c => nomatch c), (fun c => nomatch c)⟩ (fun c => nomatch c) ?_
                show 1 + cN fr ≤ fN f + 1
                have := cz.cn
                omega
theorem s_exit (hd : 4 ≤ d) (hz : 0 < kZ (kcD C)) (hc : c < kcC C) (hst : stat (fS f)) (cz : CMz C h s 1 (w, p + 1, (f, en, js, fr), K) A x jl Z P XL FS VS OS) (e : (match opExit ((kAr (kcD C) c).map (evA f)) f with
    | none => pmGo1 en K w (p + 1) (vS f 2) js fr
    | some v => pmEnd (kcD C) en js fr K w f v) = some (fl, m1)) : mx_SM mY_X4_exit d [.ref 282, .int (nI c)] h (StQ C s fl m1) := by
  have f0 : fl = 0 := by
    have q := e
    split at q
    · cases q; rfl
    · unfold pmEnd at q; cases q; rfl
  subst f0
  refine (g_exit hd hz hc hst (show LvG C s A x jl (cJs js jl ++ cG Z) K P XL FS VS OS (w, p + 1, (f, en, js, fr), K) h from cz.cg) e).mono ?_
  rintro r h1 ⟨rfl, g1⟩
  refine ⟨rfl, rfl, ?_⟩
  split at e
  · cases e; exact cz.same WGr.rf (CG.sm g1 (by omega)) rfl
  · unfold pmEnd at e
    cases e; exact cz.same WGr.rf (CG.sm g1 (by omega)) rfl
end MXC6
