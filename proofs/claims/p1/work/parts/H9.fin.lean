/-! endShell, fork, job, pipeline: steps -/
section MXE9
variable {C : cC} {h h1 h2 h6 : mxH} {s s' d t k sl o c i p p' n fl pu pq : Nat} {v bh : Int32} {w w' : spW} {A A' A2 : Nat → Option Nat} {G G' G2 : List cE} {T : List cT} {Ks : List spH} {P P' : cP} {cur cur' : Option Nat} {pl rn : Int32} {XL XL' FS FS' VS VS' OS OS' inh inh' RS RS' : List Nat} {D : pmC} {e : cE} {x y x2 : Nat} {fh hs : spH} {f f' F1 gg : spF} {en en' en2 last : Bool} {jb jb' js js' : List spJ} {jl jl' : List Nat} {fr fr' : List pmF} {K : List (pmU × pmL)} {Z : List cZ} {m1 : pmM} {ex : Nat → Prop} {oh ah : Option Nat} {bg : Bool} {l : spL} {as : List spL} {q0 : pmF}
/-- what the end of a step leaves -/
abbrev StR (C : cC) (s fl : Nat) (m1 : pmM) : mxRes → mxH → Prop := fun r h1 => r = .inl none ∧ ((fl = 0 ∧ CMn C h1 (s + 1) m1) ∨ (fl = 2 ∧ CEnd C h1 (s + 1) m1))
theorem s_jobs (hd : 4 ≤ d) (k : CKr P x Z K) (fo : FrA P A w Z) (nd : (pnZ Z).Nodup) (hK : nFK K ≤ 2900) (hz : kZ (kcD C) < 2 ^ 31) (g : CG C h s w A ((x, (gg, true, js), jl) :: (cJs js jl ++ cG Z)) (TFk K) (TSK K) P (some x) (nI (kZ (kcD C) - 1)) 1 XL FS VS OS []) (e : pmJbs (kcD C) w js K gg = some (fl, m1)) :
    mx_SX mY_X4_endShell d 55 [(0, .ref 282)] [] h (StR C s fl m1) := by
  have k4 := sc_k282 g.sc
  refine b_X4_endShell_55 282 ⟨k4, x, g.r10, by omega, g.sb.1.k0, mx_xKI2 (g_firstWaiting (by omega) g) ⟨k4, ?_⟩⟩
  unfold pmJbs at e
  rcases ef : pmFw js with _ | i
  · rw [ef] at e
    refine (g_runJob_no (d := d - 1) (pu := 3) (bh := 1) (by omega) g (Or.inl (by decide))).mono ?_
    rintro r h2 ⟨rfl, rfl⟩
    refine Or.inl ⟨_, rfl, fun c => absurd rfl c, fun _ => ⟨k4, (s_leave (d := d - 1) (by omega) k fo nd g ef e).mono ?_⟩⟩
    rintro r h3 ⟨rfl, q⟩
    exact Or.inl ⟨rfl, rfl, q (s + 1) (by omega)⟩
  · rw [ef] at e
    obtain ⟨j, hj, hw⟩ := pmFw_some ef
    have fo' : FrA P A w ((x, (gg, true, js, []), jl) :: Z) := fun z hz => by
      rcases List.mem_cons.mp hz with rfl | hz
      · exact ⟨Nat.zero_le _, fun q hq => absurd hq List.not_mem_nil⟩
      · exact fo z hz
    refine (s_runJob (d := d - 1) (bg := true) (pu := 3) (fr := []) (by omega) k fo' nd g (by show 0 + nFK K ≤ 2900; omega) (by omega) (Or.inr rfl) hj hw).mono ?_
    rintro r h2 ⟨rfl, q⟩
    refine Or.inl ⟨_, rfl, fun _ => ⟨rfl, ?_⟩, fun c => absurd c (by decide)⟩
    have e : pmRun (kcD C) w gg js [] K true i true 3 (kZ (kcD C) - 1) = some (fl, m1) := e
    unfold pmRun at e
    rw [jset hj, pmJb_at hj] at e
    cases e
    exact Or.inl ⟨rfl, q (s + 1) (by omega)⟩
theorem s_end (hd : 5 ≤ d) (cz : CMz C h s 1 (w, p + 1, (f, en, js, fr), K) A x jl Z P XL FS VS OS) (hl : fr.length + nFK K ≤ 2900) (hz0 : 0 < kZ (kcD C)) (hz : kZ (kcD C) < 2 ^ 31) (e : pmFin (kcD C) w f en js fr K = some (fl, m1)) : mx_SM mY_X4_endShell d [.ref 282] h (StR C s fl m1) := by
  have g := cz.cg
  have k4 := sc_k282 g.sc
  have hPx : (P x).2.1 = nI (TFk K).length := by
    rw [TFk_len]
    have k := cz.2.1
    rcases Z with _ | ⟨z, Z⟩
    · obtain ⟨k1, -, -, k4⟩ := k
      have k1 : K = [] := k1
      rw [k4, k1]; rfl
    · obtain ⟨u, K', k1, -, -, k4, -⟩ := k
      exact k4
  refine b_X4_endShell 282 ⟨by omega, k4, (g_unwind (d := d - 1) (by omega) hPx (fun q hq => (cz.fo q hq).1) (by rw [TFk_len]; omega) g).mono ?_⟩
  rintro r h1 ⟨rfl, g1⟩
  obtain ⟨sx, hx⟩ := g1.sb
  have b4 : fB f ≤ 4 := g.cf.2.2.2.2.2.2.2.2.2.2
  refine Or.inl ⟨rfl, sc_k282 g1.sc, x, g1.r10, sx.k0, ?_⟩
  rw [show hpI h1 x 9 = nI (fB f) from g1.cf.2.2.2.2.2.2.2.2.2.1]
  rintro _ rfl
  have g2 := g1.ns (n := fB f) b4
  obtain ⟨pb, pd⟩ := g2.pg
  refine ⟨kcG C, g2.r9, pb.1, mx_xKI2 (p_end pb pd hz0) ⟨sc_k282 g2.sc, ?_⟩⟩
  rintro _ rfl
  have g3 := g2.sp (v := nI (kZ (kcD C) - 1))
  obtain ⟨sx3, -⟩ := g3.sb
  refine ⟨x, g3.r10, sx3.k0, ?_⟩
  rw [show hpI (hsI (hsI h1 x 8 (nI (fB f))) 282 11 (nI (kZ (kcD C) - 1))) x 10 = (if en = true then 1 else 0) from g3.cj.1]
  have fo : FrA P A w Z := fun z hz => cz.2.2.1 z (List.mem_cons_of_mem _ hz)
  have nd : (pnZ Z).Nodup := (List.nodup_append.mp cz.nd).2.1
  have hK : nFK K ≤ 2900 := by omega
  unfold pmFin at e
  simp only [] at e
  cases en with
  | true =>
    rw [if_pos rfl] at e
    exact ⟨fun _ => s_jobs (by omega) cz.2.1 fo nd hK hz g3 e, fun c => absurd c (by decide)⟩
  | false =>
    rw [if_neg (by decide)] at e
    refine ⟨fun c => absurd rfl c, fun _ => ?_⟩
    rintro _ rfl
    have g4 := g3.endS
    refine (g_callExit (d := d - 1) (by omega) g4 (by rw [TFk_len]; omega)).mono ?_
    rintro r h5 ⟨b1, b2⟩
    by_cases c : fA f 3 = 0 ∨ fA f 3 = -2
    · obtain ⟨rfl, rfl⟩ := b1 c
      rw [if_pos c] at e
      exact Or.inl ⟨_, rfl, fun _ => s_jobs (by omega) cz.2.1 fo nd hK hz g4 e, fun c => absurd rfl c⟩
    · rw [if_neg c] at e
      have nz : ∀ z ∈ Z, z.1 ≠ x := fun z hz c2 => by
        have nds := g4.2.2.2.2.2.1.2.1
        rw [List.map_cons, List.cons_append] at nds
        exact (List.nodup_cons.mp nds).1 (List.mem_append_left _ (List.mem_map.mpr ⟨_, List.mem_append_right _ (cG_mem hz), c2⟩))
      have k' : CKr (fup P x ((P x).1, (P x).2.1, fS f)) x Z K := cz.2.1.cg (by rw [fup_e]) (by rw [fup_e]) (fun z hz => by rw [fup_n (nz z hz)]; exact ⟨rfl, rfl⟩)
      have fo' : FrA (fup P x ((P x).1, (P x).2.1, fS f)) A w Z := fo.mono (ex := fun _ => False) WGr.rf (fun z hz => by rw [fup_n (nz z hz)]) (fun _ _ c => c)
      rcases b2 c with ⟨rfl, q, g5⟩ | ⟨i, ei, q, rfl, g5⟩
      · refine Or.inl ⟨_, rfl, fun _ => ?_, fun c => absurd rfl c⟩
        have e5 : pmJbs (kcD C) w js K (vA (vN (vH f (unw fr (fH f))) (fB f)) (fup (fA f) 3 0)) = some (fl, m1) := by
          rcases ei : tbF (fU f) (fA f 3) with _ | i
          · rw [ei] at e; exact e
          · rw [ei] at e
            simp only [] at e
            rw [if_pos (q i ei)] at e
            exact e
        exact s_jobs (by omega) k' fo' nd hK hz g5 e5
      · refine Or.inl ⟨_, rfl, fun c => absurd c (by decide), fun _ => ⟨rfl, ?_⟩⟩
        have ei : tbF (fU f) (fA f 3) = some i := ei
        rw [ei] at e
        simp only [] at e
        rw [if_neg q] at e
        unfold pmCal at e
        cases e
        refine Or.inl ⟨rfl, A, x, jl, Z, _, XL, FS, VS, OS, g5.sm (by omega), k', fun z hz => ?_, ?_⟩
        · rcases List.mem_cons.mp hz with rfl | hz
          · refine ⟨?_, fun z hz => ?_⟩
            · show 1 + 0 ≤ fB f + 1
              omega
            · rw [List.mem_singleton.mp hz]
              refine ⟨Or.inr (Or.inr (Or.inr (Or.inl rfl))), fun _ => ⟨kZ (kcD C) - 1, by omega, rfl⟩, fun _ => ?_, fun c => nomatch c⟩
              show (fup P x ((P x).1, (P x).2.1, fS f) x).2.2 = fS f
              rw [fup_e]
          · exact fo' z hz
        · rw [pnZ_cons]
          exact nd
end MXE9
