/-! Machine.unwind, callExitFunction; the first waiting job -/
section MXUN
variable {C : cC} {h h1 h2 h6 : mxH} {s s' d t k sl o c i p n : Nat} {v : Int32} {w w' : spW} {A A' A2 : Nat → Option Nat} {G G' G2 : List cE} {T : List cT} {Ks : List spH} {P P' : cP} {cur cur' : Option Nat} {pl rn : Int32} {XL XL' FS FS' VS OS inh inh' RS RS' : List Nat} {D : pmC} {e : cE} {x y : Nat} {fh hs : spH} {F F1 Fy : spF} {en en' : Bool} {jb jb' : List spJ} {js js' jl : List Nat} {l : List spH} {bh pu j : Int32} {last bg : Bool} {ah : Option Nat} {q0 : cT}
theorem tfR_1 {q : pmF} (hk : q.1 = 1 ∨ q.1 = 2 ∨ q.1 = 3 ∨ q.1 = 4 ∨ q.1 = 5 ∨ q.1 = 6 ∨ q.1 = 8) : (tfR q).1 = 1 ↔ q.1 = 1 := by
  unfold tfR
  simp only []
  rcases hk with e | e | e | e | e | e | e <;> rw [e] <;> decide
theorem g_unw2 (hd : 4 ≤ d) {T0 : List cT} {Ks0 : List spH} (ht : (P x).2.1 = nI T0.length) : ∀ (fr : List pmF) (i : Nat) (F : spF) (h : mxH), i + fr.length ≤ 2950 → (∀ q ∈ fr, q.1 = 1 ∨ q.1 = 2 ∨ q.1 = 3 ∨ q.1 = 4 ∨ q.1 = 5 ∨ q.1 = 6 ∨ q.1 = 8) → T0.length + fr.length ≤ 2950 →
    CG C h s w A ((x, (F, en, jb), js) :: G) (fr.map tfR ++ T0) (tsv fr ++ Ks0) P (some x) pl rn XL FS VS OS [] →
    mx_SX mY_X4_unwind d 2 [(0, .ref 282), (1, .int (nI i))] [] h (fun r h1 => r = .inl none ∧ CG C h1 s w A ((x, (vH F (unw fr (fH F)), en, jb), js) :: G) T0 Ks0 P (some x) pl rn XL FS VS OS []) := by
  intro fr
  induction fr with
  | nil =>
    intro i F h hi hk hl g
    obtain ⟨sx, hx⟩ := g.sb
    have g0 : CG C h s w A ((x, (F, en, jb), js) :: G) T0 Ks0 P (some x) pl rn XL FS VS OS [] := g
    have e4 : hpI h 282 4 = nI T0.length := g0.2.2.2.2.2.2.2.1.2.1
    have e12 : hpI h x 12 = nI T0.length := by rw [(g0.2.2.2.2.2.2.1 _ List.mem_cons_self).2.1]; exact ht
    refine b_X4_unwind_2 282 _ ⟨fun _ => ⟨rfl, g0⟩, fun _ => ⟨sc_k282 g0.sc, x, g0.r10, sx.k0, ?_⟩⟩
    rw [e4, e12]
    exact ⟨fun _ => ⟨rfl, g0⟩, fun c => absurd ((nI_leI (by omega) (by omega)).mpr (Nat.le_refl _)) c⟩
  | cons q fr ih =>
    intro i F h hi hk hl g
    rw [List.length_cons] at hi hl
    obtain ⟨sx, hx⟩ := g.sb
    have g0 : CG C h s w A ((x, (F, en, jb), js) :: G) (tfR q :: (fr.map tfR ++ T0)) (tsv (q :: fr) ++ Ks0) P (some x) pl rn XL FS VS OS [] := g
    have lT : (tfR q :: (fr.map tfR ++ T0)).length = fr.length + T0.length + 1 := by rw [List.length_cons, List.length_append, List.length_map]
    have e4 : hpI h 282 4 = nI (fr.length + T0.length + 1) := by rw [← lT]; exact g0.2.2.2.2.2.2.2.1.2.1
    have e12 : hpI h x 12 = nI T0.length := by rw [(g0.2.2.2.2.2.2.1 _ List.mem_cons_self).2.1]; exact ht
    have k4 := sc_k282 g0.sc
    have t1 := tfR_1 (hk q List.mem_cons_self)
    refine b_X4_unwind_2 282 _ ⟨fun c => absurd ((nI_leI (a := 3000) (by omega) (by omega)).mp c) (by omega), fun _ => ⟨k4, x, g0.r10, sx.k0, ?_⟩⟩
    rw [e4, e12]
    refine ⟨fun c => absurd ((nI_leI (by omega) (by omega)).mp c) (by omega), fun _ => ⟨fun c => absurd c (nI_nle (by omega) (by omega)), fun _ => ⟨by omega, mx_xKI2 (g_field (d := d - 1) g0).1 ⟨fun c1 => ⟨k4, (g_pop (d := d - 1) g0).mono ?_⟩, fun c1 => ⟨k4, ?_⟩⟩⟩⟩⟩
    · have q1 : q.1 ≠ 1 := fun e => c1 (t1.mpr e)
      rintro r h2 ⟨rfl, g2⟩
      refine Or.inl ⟨rfl, b_X4_unwind_51 282 _ ?_⟩
      rw [nI_1]
      have et : tsv (q :: fr) = tsv fr := by
        unfold tsv
        rw [List.filterMap_cons, if_neg q1]
      rw [et] at g2
      have r := ih (i + 1) F h2 (by omega) (fun z hz => hk z (List.mem_cons_of_mem _ hz)) (by omega) g2
      have eu : unw (q :: fr) (fH F) = unw fr (fH F) := by
        show unw fr (if q.1 = 1 then q.2.2.2.2.1 else fH F) = _
        rw [if_neg q1]
      rw [eu]
      exact r
    · have q1 : q.1 = 1 := t1.mp c1
      have et : tsv (q :: fr) = q.2.2.2.2.1 :: tsv fr := by
        unfold tsv
        rw [List.filterMap_cons, if_pos q1]
      rw [et] at g0
      refine (g_setBack (d := d - 1) (b := true) (by omega) g0).mono ?_
      rintro r h2 ⟨rfl, g2⟩
      refine Or.inl ⟨rfl, b_X4_unwind_51 282 _ ?_⟩
      rw [nI_1]
      have r := ih (i + 1) (vH F q.2.2.2.2.1) h2 (by omega) (fun z hz => hk z (List.mem_cons_of_mem _ hz)) (by omega) g2
      have eu : unw (q :: fr) (fH F) = unw fr (fH (vH F q.2.2.2.2.1)) := by
        show unw fr (if q.1 = 1 then q.2.2.2.2.1 else fH F) = _
        rw [if_pos q1]
      rw [eu]
      exact r
theorem g_unwind (hd : 4 ≤ d) {T0 : List cT} {Ks0 : List spH} {fr : List pmF} (ht : (P x).2.1 = nI T0.length) (hk : ∀ q ∈ fr, q.1 = 1 ∨ q.1 = 2 ∨ q.1 = 3 ∨ q.1 = 4 ∨ q.1 = 5 ∨ q.1 = 6 ∨ q.1 = 8) (hl : T0.length + fr.length ≤ 2950) (g : CG C h s w A ((x, (F, en, jb), js) :: G) (fr.map tfR ++ T0) (tsv fr ++ Ks0) P (some x) pl rn XL FS VS OS []) :
    mx_SM mY_X4_unwind d [.ref 282] h (fun r h1 => r = .inl none ∧ CG C h1 s w A ((x, (vH F (unw fr (fH F)), en, jb), js) :: G) T0 Ks0 P (some x) pl rn XL FS VS OS []) :=
  b_X4_unwind 282 (g_unw2 hd ht fr 0 F h (by omega) hk hl g)
theorem g_firstWaiting (hd : 1 ≤ d) (g : CG C h s w A ((x, (F, en, jb), js) :: G) T Ks P cur pl rn XL FS VS OS inh) : mx_SM mY_X8_firstWaiting d [.ref x] h (mx_xct (.inl (some (.int (ixI (pmFw jb))))) h) := by
  obtain ⟨sx, hx⟩ := g.sb
  obtain ⟨c1, c2, c3, c4, c5⟩ := g.cj
  refine (k_X8_firstWaiting hd sx c2 c3).mono ?_
  rintro r h1 ⟨rfl, v, rfl, q⟩
  have row : ∀ k (hk : k < jb.length), hpR h1 (x + 10) k = none → jb[k].1 ≠ 0 := fun k hk e z => by
    have := (c5 k hk (by omega)).1
    rw [if_pos z, e] at this
    exact nomatch this
  have row2 : ∀ k (hk : k < jb.length), hpR h1 (x + 10) k ≠ none → jb[k].1 = 0 := fun k hk e => by
    by_cases z : jb[k].1 = 0
    · exact z
    · have := (c5 k hk (by omega)).1
      rw [if_neg z] at this
      exact absurd this e
  refine ⟨?_, rfl⟩
  rcases q with ⟨i, il, q1, q2, rfl⟩ | ⟨q1, rfl⟩
  · have : pmFw jb = some i := List.findIdx?_eq_some_iff_getElem.mpr ⟨il, by rw [row2 i il q2]; rfl, fun k hk => by
      have := row k (by omega) (q1 k hk)
      simp only [decide_eq_true_eq]
      exact this⟩
    rw [this]; rfl
  · have : pmFw jb = none := List.findIdx?_eq_none_iff.mpr fun z hz => by
      obtain ⟨k, hk, rfl⟩ := List.getElem_of_mem hz
      have := row k hk (q1 k hk)
      simp only [decide_eq_false_iff_not]
      exact this
    rw [this]; rfl
/-- an action's cell -/
theorem CG.act {i : Nat} {a : Int64} (g : CG C h s w A ((x, (F, en, jb), js) :: G) T Ks P cur pl rn XL FS VS OS inh) : CG C (hsL h (x + 7) i a) s w A ((x, (vA F (fup (fA F) i a), en, jb), js) :: G) T Ks P cur pl rn XL FS VS OS inh := by
  obtain ⟨sx, hx⟩ := g.sb
  have ex : ExL (fun _ => False) (fun b => b = x + 7) h (hsL h (x + 7) i a) := ExL.rf.L rfl
  exact g.loc (LC.ofL ex (fun b hb => hb.elim) (fun b hb => Or.inr (Or.inr (Or.inr hb))) (fun o ho c => c) (fun _ _ => rfl)) (g.2.2.1.cgL ex (fun b hb c => c) (fun c => by omega)) g.cf.act (CU_cg g.2.2.2.2.1 (fun b _ _ => rfl)) (fun v l c => c) rfl
theorem fup_self {α : Type} {f : Nat → α} {k : Nat} : fup f k (f k) = f := by
  funext j
  by_cases e : j = k
  · rw [e, fup_e]
  · rw [fup_n e]
/-- the status kept for the end -/
theorem CG.es (g : CG C h s w A ((x, (F, en, jb), js) :: G) T Ks P cur pl rn XL FS VS OS inh) : CG C (hsI h x 11 v) s w A ((x, (F, en, jb), js) :: G) T Ks (fup P x ((P x).1, (P x).2.1, v)) cur pl rn XL FS VS OS inh := by
  have p0 := g.2.2.2.2.2.2.1 _ List.mem_cons_self
  have cj := g.cj
  exact g.own ⟨rfl, rfl, rfl, rfl, rfl, rfl⟩ (fun b hb => by funext k; rw [hpI_sIn hb]) (fun k hk => by rw [hpI_sIe, fup_n (by omega)]) (fun _ _ => rfl) (fun _ _ => rfl) (by rw [hpI_sIe, fup_n (by decide)]; exact cj.1) p0.1 (by rw [hpI_sIe, fup_n (by decide)]; exact p0.2.1) (by rw [hpI_sIe, fup_e])
/-- the shell ends -/
theorem CG.endS (g : CG C h s w A ((x, (F, en, jb), js) :: G) T Ks P cur pl rn XL FS VS OS inh) : CG C (hsI h x 10 1) s w A ((x, (F, true, jb), js) :: G) T Ks P cur pl rn XL FS VS OS inh := by
  have p0 := g.2.2.2.2.2.2.1 _ List.mem_cons_self
  have q := g.own (h1 := hsI h x 10 1) (en' := true) (p' := P x) ⟨rfl, rfl, rfl, rfl, rfl, rfl⟩ (fun b hb => by funext k; rw [hpI_sIn hb]) (fun k hk => by rw [hpI_sIe, fup_n (by omega)]) (fun _ _ => rfl) (fun _ _ => rfl) (by rw [hpI_sIe, fup_e]; rfl) p0.1 (by rw [hpI_sIe, fup_n (by decide)]; exact p0.2.1) (by rw [hpI_sIe, fup_n (by decide)]; exact p0.2.2)
  rw [fup_self] at q
  exact q
/-- the exit function -/
theorem g_callExit (hd : 4 ≤ d) (g : CG C h s w A ((x, (F, en, jb), js) :: G) T Ks P (some x) pl rn XL FS VS OS []) (ht : T.length < 2950) :
    mx_SM mY_X4_callExitFunction d [.ref 282] h (fun r h1 => (fA F 3 = 0 ∨ fA F 3 = -2 → r = .inl (some (.int 0)) ∧ h1 = h) ∧ (¬ (fA F 3 = 0 ∨ fA F 3 = -2) →
      (r = .inl (some (.int 0)) ∧ (∀ i, tbF (fU F) (fA F 3) = some i → 4 ≤ fN F) ∧ CG C h1 s w A ((x, (vA F (fup (fA F) 3 0), en, jb), js) :: G) T Ks (fup P x ((P x).1, (P x).2.1, fS F)) (some x) pl rn XL FS VS OS []) ∨
      ∃ i, tbF (fU F) (fA F 3) = some i ∧ ¬ 4 ≤ fN F ∧ r = .inl (some (.int 1)) ∧ CG C h1 s w A ((x, (vN (vA F (fup (fA F) 3 0)) (fN F + 1), en, jb), js) :: G) ((4, pl, 0, 0) :: T) Ks (fup P x ((P x).1, (P x).2.1, fS F)) (some x) (nI (kPl (kcD C) ((fU F).getD i (0, 0)).2)) rn XL FS VS OS [])) := by
  obtain ⟨sx, hx⟩ := g.sb
  have k4 := sc_k282 g.sc
  have ea : hpL h (x + 7) (3 : Int32).toNatClampNeg = fA F 3 := g.cf.2.2.1 3 (by decide)
  refine b_X4_callExitFunction 282 ⟨k4, x, g.r10, sx.k0, x + 7, sx.r0_2, sx.k7, by rw [sx.z7]; exact vp_in_nI (n := 3) (by decide) (by decide), ?_⟩
  rw [ea, lg_cmp_eq, lg_cmp_eq]
  refine ⟨fun c => ⟨fun _ => ⟨rfl, rfl⟩, fun q => absurd (Or.inl c) q⟩, fun c => ⟨fun c2 => ?_, fun c2 => ⟨fun _ => ⟨rfl, rfl⟩, fun q => absurd (Or.inr c2) q⟩⟩⟩
  have nc : ¬ (fA F 3 = 0 ∨ fA F 3 = -2) := fun q => q.elim c c2
  rintro _ rfl
  have g1 : CG C (hsL h (x + 7) (3 : Int32).toNatClampNeg 0) s w A ((x, (vA F (fup (fA F) 3 0), en, jb), js) :: G) T Ks P (some x) pl rn XL FS VS OS [] := g.act (i := 3)
  obtain ⟨sx1, -⟩ := g1.sb
  refine ⟨x, g1.r10, sx1.k0, ?_⟩
  rw [show hpI (hsL h (x + 7) (3 : Int32).toNatClampNeg 0) x 6 = fS F from g1.cf.2.2.2.2.2.1]
  rintro _ rfl
  have g2 := g1.es (v := fS F)
  refine ⟨by omega, (g_callForTrap (d := d - 1) (kd := 4) (n := fA F 3) (by omega) g2 ht).mono ?_⟩
  rintro r h3 (⟨rfl, rfl, q⟩ | ⟨i, ei, q, rfl, g3⟩)
  · exact Or.inl ⟨_, rfl, Or.inl rfl, fun e => absurd e nc, fun _ => Or.inl ⟨rfl, q, g2⟩⟩
  · exact Or.inl ⟨_, rfl, Or.inr rfl, fun e => absurd e nc, fun _ => Or.inr ⟨i, ei, q, rfl, g3⟩⟩
end MXUN
