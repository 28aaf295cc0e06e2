section MXJ2
variable {C : cC} {h h1 h2 h6 : mxH} {s s' d t k sl o c i p n : Nat} {v : Int32} {w w' : spW} {A A' A2 : Nat → Option Nat} {G G' G2 : List cE} {T : List cT} {Ks : List spH} {P P' : cP} {cur cur' : Option Nat} {pl rn : Int32} {XL XL' FS FS' VS OS inh inh' RS RS' : List Nat} {D : pmC} {e : cE} {x y : Nat} {fh hs : spH} {F F1 Fy : spF} {en en' : Bool} {jb jb' : List spJ} {js js' jl : List Nat} {l : List spH} {bh pu j : Int32} {last bg : Bool} {ah : Option Nat} {q0 : cT}
theorem g_makeJob (hd : 5 ≤ d) (g : CG C h s w A ((x, (F, en, jb), js) :: G) T Ks P (some x) (nI (kPl (kcD C) v)) rn XL FS VS OS []) (hG : G.length ≤ 990) (h146 : 146 ∈ x :: G.map (fun e => e.1)) :
    mx_SM mY_X4_makeJob d [.ref 282, .int (nI t)] h (fun r h1 => r = .inl none ∧ (8 ≤ jb.length → CG C h1 s w A ((x, (vS F 1, en, jb), js) :: G) T Ks P (some x) (nI t) rn XL FS VS OS []) ∧
      (jb.length < 8 → ∃ y XL' FS' v11, 365 ≤ y ∧ CG C h1 s (frk w) A ((x, (vS F 0, en, jb ++ [(0, 0, v, subF F)]), js ++ [y]) :: (y, (subF F, false, []), []) :: G) T Ks (fup P y (none, 0, v11)) (some x) (nI t) rn XL' FS' VS OS [])) := by
  obtain ⟨sx, hx⟩ := g.sb
  have k4 := sc_k282 g.sc
  obtain ⟨c1, c2, c3, c4, c5⟩ := g.cj
  refine b_X4_makeJob 282 _ ⟨k4, x, g.r10, sx.k0, ?_⟩
  rw [c2]
  refine ⟨fun c => ⟨by omega, (g_fork (d := d - 1) (by omega) g hG h146).mono ?_⟩, fun c => ?_⟩
  · have l8 : jb.length < 8 := (nI_ltI (b := 8) (by omega) (by omega)).mp c
    rintro r h2 ⟨y, XL', FS', v11, rfl, yx, g2⟩
    have g3 := g2.pm (List.Perm.swap (x, (F, en, jb), js) (y, (subF F, false, []), []) G)
    refine Or.inl ⟨_, rfl, sc_k282 g3.sc, y, rfl, g3.sb.1.k0, ?_⟩
    rw [g3.r11]
    refine (g_addJob (d := d - 1) l8 g3).mono ?_
    rintro r h4 ⟨rfl, g4⟩
    refine Or.inl ⟨_, rfl, fun c => absurd c (by decide), fun _ => ⟨sc_k282 g4.sc, x, g4.r10, g4.sb.1.k0, ?_⟩⟩
    rintro _ rfl _ rfl
    exact ⟨rfl, fun c => absurd c (by omega), fun _ => ⟨y, XL', FS', v11, yx, g4.st.sp⟩⟩
  · have l8 : 8 ≤ jb.length := by
      rcases Nat.lt_or_ge jb.length 8 with q | q
      · exact absurd (show nI jb.length < nI 8 from nI_lt q (by omega)) c
      · exact q
    rintro _ rfl _ rfl
    exact ⟨rfl, fun _ => g.st.sp, fun c => absurd c (by omega)⟩
theorem k_X8_takeJob_no {n : Nat} (hd : 1 ≤ d) (sx : SB h x) (hn : hpI h x 14 = nI n) (hz : n ≤ 8) (hj : j < 0 ∨ nI n ≤ j ∨ ∃ i, j = nI i ∧ i < n ∧ hpR h (x + 10) i = none) : mx_SM mY_X8_takeJob d [.ref x, .int j] h (mx_xct (.inl (some (va_rf none))) h) := by
  have iw : mx_SM mY_X8_isWaiting (d - 1) [.ref x, .int j] h (mx_xct (.inl (some (.int 0))) h) := by
    refine b_X8_isWaiting x j ⟨fun _ => ⟨rfl, rfl⟩, fun c => ⟨sx.k0, ?_⟩⟩
    rw [hn]
    refine ⟨fun _ => ⟨rfl, rfl⟩, fun c2 => ⟨fun _ => ⟨rfl, rfl⟩, fun c3 => ?_⟩⟩
    rcases hj with q | q | ⟨i, rfl, il, hr⟩
    · exact absurd q c
    · exact absurd q c2
    · rw [nI_clamp (by omega)]
      exact ⟨x + 10, sx.r0_15, sx.k10, by rw [sx.z10]; exact vp_in_nI (by omega) (by omega), fun _ => ⟨rfl, rfl⟩, fun b e => by rw [hr] at e; exact nomatch e⟩
  exact b_X8_takeJob x j ⟨hd, sx.k0, mx_xKI2 iw ⟨fun c => absurd rfl c, fun _ => ⟨rfl, rfl⟩⟩⟩
theorem k_X8_startOfJob_any (sx : SB h x) : mx_SM mY_X8_startOfJob d [.ref x, .int j] h (fun r h1 => h1 = h ∧ ∃ v, r = .inl (some (.int v))) := by
  refine b_X8_startOfJob x j ⟨fun _ => ⟨rfl, _, rfl⟩, fun c => ⟨fun _ => ⟨rfl, _, rfl⟩, fun c2 => ⟨sx.k0, x + 11, sx.r0_16, sx.k11, ?_, rfl, _, rfl⟩⟩⟩
  obtain ⟨i, hi, rfl⟩ := nI_of c
  rw [sx.z11]
  refine vp_in_nI ?_ (by decide)
  rcases Nat.lt_or_ge i 8 with q | q
  · exact q
  · exact absurd ((nI_leI (a := 8) (by omega) hi).mpr q) c2
theorem g_runJob_no (hd : 2 ≤ d) (g : CG C h s w A ((x, (F, en, jb), js) :: G) T Ks P (some x) pl rn XL FS VS OS inh) (hj : j < 0 ∨ nI jb.length ≤ j ∨ ∃ i, ∃ hi : i < jb.length, j = nI i ∧ jb[i].1 ≠ 0) : mx_SM mY_X4_runJob d [.ref 282, .int j, .int pu, .int bh] h (fun r h1 => r = .inl (some (.int 0)) ∧ h1 = h) := by
  obtain ⟨sx, hx⟩ := g.sb
  have k4 := sc_k282 g.sc
  obtain ⟨c1, c2, c3, c4, c5⟩ := g.cj
  refine b_X4_runJob 282 _ _ _ ⟨k4, x, g.r10, by omega, sx.k0, (k_X8_startOfJob_any (d := d - 1) sx).mono ?_⟩
  rintro r h1 ⟨rfl, v, rfl⟩
  refine Or.inl ⟨v, rfl, k4, x, g.r10, sx.k0, mx_xKR (k_X8_takeJob_no (by omega) sx c2 c3 ?_) ⟨fun _ => ⟨rfl, rfl⟩, (fun b e => nomatch e)⟩⟩
  rcases hj with q | q | ⟨i, hi, e, q⟩
  · exact Or.inl q
  · exact Or.inr (Or.inl q)
  · exact Or.inr (Or.inr ⟨i, e, hi, by rw [(c5 i hi (by omega)).1, if_neg q]⟩)
/-- a job's shell executes -/
theorem g_runJob (hd : 3 ≤ d) (g : CG C h s w A ((x, (F, en, jb), js) :: G) T Ks P (some x) pl rn XL FS VS OS inh) {i : Nat} (hi : i < jb.length) (hw : jb[i].1 = 0) (hy : js[i]? = some y) (hp : G.Perm ((y, (Fy, false, []), []) :: G2)) (ht : T.length < 2950) :
    mx_SM mY_X4_runJob d [.ref 282, .int (nI i), .int pu, .int (if bg = true then 1 else 0)] h (fun r h1 => r = .inl (some (.int 1)) ∧ CG C h1 s w A ((y, (vG Fy bg, false, []), []) :: (x, (F, en, jb.set i (2, jb[i].2)), js) :: G2) ((7, pl, pu, nI i) :: T) Ks (fup P y (some x, nI (T.length + 1), (P y).2.2)) (some y) (nI (kPl (kcD C) jb[i].2.2.1)) rn XL FS VS OS inh) := by
  obtain ⟨sx, hx⟩ := g.sb
  have k4 := sc_k282 g.sc
  obtain ⟨c1, c2, c3, c4, c5⟩ := g.cj
  obtain ⟨a1, a2⟩ := List.getElem?_eq_some_iff.mp hy
  have q := c5 i hi a1
  rw [a2, if_pos hw] at q
  have my : (y, (Fy, false, []), []) ∈ G := hp.mem_iff.mpr List.mem_cons_self
  have syG := (g.2.2.2.2.2.1.sx.2.2 _ my)
  have sy : SB h y := syG.1.1
  have apy : x + 13 ≤ y ∨ y + 13 ≤ x := syG.2
  refine b_X4_runJob 282 _ _ _ ⟨k4, x, g.r10, by omega, sx.k0, mx_xKI2 (k_X8_startOfJob sx (by omega)) ⟨k4, x, g.r10, sx.k0, mx_xKR (k_X8_takeJob (by omega) sx c2 c3 hi q.1 (by have := sy.1; omega)) ⟨(fun c => nomatch c), fun b eb => ?_⟩⟩⟩
  obtain rfl := Option.some.inj eb
  rw [q.2.1]
  have g1 : CG C (hsR h (x + 10) i none) s w A ((x, (F, en, jb.set i (2, jb[i].2)), js) :: G) T Ks P (some x) pl rn XL FS VS OS inh := by
    refine g.setJ ⟨rfl, rfl, rfl, rfl, rfl, rfl⟩ (fun _ _ _ _ => rfl) (fun _ _ => rfl) (fun b hb => by funext k; rw [hpR_sRn hb]) ⟨c1, by rw [List.length_set]; exact c2, by rw [List.length_set]; exact c3, by rw [List.length_set]; exact c4, fun k hk hj => ?_⟩
    rw [List.length_set] at hk
    rw [hpR_sR, if_pos rfl]
    rw [List.getElem_set]
    have q2 := c5 k hk hj
    by_cases c : i = k
    · subst c
      rw [if_pos rfl, if_pos rfl]
      refine ⟨?_, q2.2.1, ?_⟩
      · rw [if_neg (fun c => nomatch c)]
      · rw [if_neg (fun c => nomatch c)]
        have q3 := q2.2.2
        rw [if_neg (by omega)] at q3
        exact q3
    · rw [if_neg (fun e => c e.symm), if_neg c]
      exact q2
  have pm : ((x, (F, en, jb.set i (2, jb[i].2)), js) :: G).Perm ((y, (Fy, false, []), []) :: (x, (F, en, jb.set i (2, jb[i].2)), js) :: G2) := (hp.cons _).trans (List.Perm.swap _ _ _)
  have g2 := g1.pm pm
  obtain ⟨sy2, -⟩ := g2.sb
  refine ⟨sy2.k0, ?_, ?_⟩
  · cases bg
    · exact Or.inl rfl
    · exact Or.inr rfl
  rintro _ rfl
  have g3 := g2.bg (b := bg)
  refine ⟨sc_k282 g3.sc, ?_⟩
  rw [g3.r11]
  refine (g_enter2 (d := d - 1) (by omega) g3 ht).mono ?_
  rintro r h4 ⟨rfl, g4⟩
  refine Or.inl ⟨rfl, sc_k282 g4.sc, ?_⟩
  rintro _ rfl
  exact ⟨rfl, g4.sp⟩
end MXJ2
