/-! Machine.leave, waitForAll, waitForOne -/
section MXLV
variable {C : cC} {h h1 h2 h6 : mxH} {s s' d t k sl o c i p n : Nat} {v : Int32} {w w' : spW} {A A' A2 : Nat → Option Nat} {G G' G2 : List cE} {T : List cT} {Ks : List spH} {P P' : cP} {cur cur' : Option Nat} {pl rn : Int32} {XL XL' FS FS' VS OS inh inh' RS RS' : List Nat} {D : pmC} {e : cE} {x y x2 : Nat} {fh hs : spH} {F F1 Fy F2 : spF} {en en' en2 : Bool} {jb jb' jb2 : List spJ} {js js' jl js2 : List Nat} {l : List spH} {bh pu j : Int32} {last bg : Bool} {ah : Option Nat} {q0 y0 : cT}
/-- a job's status -/
theorem CG.keep {i : Nat} (g : CG C h s w A ((x, (F, en, jb), js) :: G) T Ks P cur pl rn XL FS VS OS inh) (hi : i < jb.length) (hw : jb[i].1 ≠ 0) : CG C (hsI h (x + 12) i v) s w A ((x, (F, en, jb.set i (1, v, jb[i].2.2)), js) :: G) T Ks P cur pl rn XL FS VS OS inh := by
  obtain ⟨c1, c2, c3, c4, c5⟩ := g.cj
  have ix : hpI (hsI h (x + 12) i v) x = hpI h x := by funext k; rw [hpI_sIn (by omega)]
  refine g.setJ ⟨rfl, rfl, rfl, rfl, rfl, rfl⟩ (fun b _ _ hb => by funext k; rw [hpI_sIn hb]) (fun k _ => by rw [ix]) (fun _ _ => rfl) ⟨by rw [ix]; exact c1, by rw [ix, List.length_set]; exact c2, by rw [List.length_set]; exact c3, by rw [List.length_set]; exact c4, fun k hk hj => ?_⟩
  rw [List.length_set] at hk
  rw [List.getElem_set, hpI_sIe, hpI_sIn (by omega)]
  have q := c5 k hk hj
  by_cases e : i = k
  · subst e
    rw [if_pos rfl, fup_e]
    rw [if_neg hw] at q
    refine ⟨?_, q.2.1, ?_⟩
    · rw [if_neg (fun c => nomatch c)]; exact q.1
    · rw [if_pos rfl]
  · rw [if_neg e, fup_n (fun c => e c.symm)]
    exact q
theorem g_noteInPipeline (hd : 1 ≤ d) (g : CG C h s w A ((x, (F, en, jb), js) :: G) (y0 :: T) Ks P cur pl rn XL FS VS OS inh) : mx_SM mY_X4_noteInPipeline d [.ref 282, .int v] h (fun r h1 => r = .inl none ∧ CG C h1 s w A ((x, (F, en, jb), js) :: G) ((y0.1, v, (if v = 0 then y0.2.2.1 else v), y0.2.2.2) :: T) Ks P cur pl rn XL FS VS OS inh) := by
  refine b_X4_noteInPipeline 282 _ ⟨by omega, sc_k282 g.sc, (g_setField (d := d - 1) (k := 1) (a := v) (by decide) g).mono ?_⟩
  rintro r h1 ⟨rfl, g1⟩
  have g1 : CG C h1 s w A ((x, (F, en, jb), js) :: G) ((y0.1, v, y0.2.2) :: T) Ks P cur pl rn XL FS VS OS inh := g1
  refine Or.inl ⟨rfl, fun c => ⟨rfl, ?_⟩, fun c => ⟨sc_k282 g1.sc, (g_setField (d := d - 1) (k := 2) (a := v) (by decide) g1).mono ?_⟩⟩
  · rw [if_pos c]; exact g1
  · rintro r h2 ⟨rfl, g2⟩
    refine Or.inl ⟨rfl, rfl, ?_⟩
    rw [if_neg c]; exact g2
/-- the shell that waits goes on -/
theorem g_leave (hd : 3 ≤ d) {pp jj : Nat} (g : CG C h s w A ((x, (F, en, jb), js) :: (x2, (F2, en2, jb2), js2) :: G) ((7, bh, nI pp, nI jj) :: T) Ks P (some x) pl rn XL FS VS OS []) (hP : (P x).1 = some x2) (hpp : pp ≤ 3) (h1 : pp = 1 → ∃ y0 T', T = y0 :: T') (h2 : 2 ≤ pp → ∃ hj : jj < jb2.length, jb2[jj].1 ≠ 0) :
    mx_SM mY_X4_leave d [.ref 282] h (fun r h1 => r = .inl none ∧ (pp = 0 → CG C h1 s w A ((x2, (vS F2 (fS F), en2, jb2), js2) :: G) T Ks P (some x2) bh rn XL (x :: FS) VS OS []) ∧
      (pp = 1 → ∀ y0 T', T = y0 :: T' → CG C h1 s w A ((x2, (F2, en2, jb2), js2) :: G) ((y0.1, fS F, (if fS F = 0 then y0.2.2.1 else fS F), y0.2.2.2) :: T') Ks P (some x2) bh rn XL (x :: FS) VS OS []) ∧
      (pp = 2 → ∀ hj : jj < jb2.length, CG C h1 s w A ((x2, (vS F2 (fS F), en2, jb2.set jj (1, fS F, jb2[jj].2.2)), js2) :: G) T Ks P (some x2) bh rn XL (x :: FS) VS OS []) ∧
      (pp = 3 → ∀ hj : jj < jb2.length, CG C h1 s w A ((x2, (F2, en2, jb2.set jj (1, fS F, jb2[jj].2.2)), js2) :: G) T Ks P (some x2) bh rn XL (x :: FS) VS OS [])) := by
  obtain ⟨sx, hx⟩ := g.sb
  have k4 := sc_k282 g.sc
  have p0 := g.2.2.2.2.2.2.1 _ List.mem_cons_self
  have e13 : hpR h x 13 = some x2 := p0.1.trans hP
  refine b_X4_leave 282 ⟨k4, x, g.r10, sx.k0, fun c => absurd (e13.symm.trans c) (fun c => nomatch c), fun b2 eb => ⟨by omega, mx_xKI2 (g_field (d := d - 1) g).2.1 ⟨k4, ?_⟩⟩⟩
  rintro _ rfl
  have g1 := g.sp (v := bh)
  have k41 := sc_k282 g1.sc
  refine mx_xKI2 (g_field (d := d - 1) g1).2.2.1 ⟨k41, mx_xKI2 (g_field (d := d - 1) g1).2.2.2 ⟨k41, (g_pop (d := d - 1) g1).mono ?_⟩⟩
  rintro r h6 ⟨rfl, g6⟩
  obtain ⟨sx6, -⟩ := g6.sb
  have k46 := sc_k282 g6.sc
  have e6 : hpR h6 x 13 = some x2 := (g6.2.2.2.2.2.2.1 _ List.mem_cons_self).1.trans hP
  refine Or.inl ⟨rfl, sx6.k0, k46, ?_⟩
  rw [e6]
  rintro _ rfl
  have e10 : ∀ b k, (b = 282 → k ≠ 10) → hpR (hsR h6 282 10 (some x2)) b k = hpR h6 b k := fun b k hk => by
    rw [hpR_sR]
    split
    · rename_i e
      rw [if_neg (hk e), e]
    · rfl
  have g7 : CG C (hsR h6 282 10 (some x2)) s w A ((x, (F, en, jb), js) :: (x2, (F2, en2, jb2), js2) :: G) T Ks P (some x2) bh rn XL FS VS OS [] := by
    refine g6.rr sx6 hx ⟨rfl, rfl, rfl, rfl, rfl, rfl, rfl⟩ (fun b k h1 h2 => e10 b k (fun c => (h2 c).2)) (fun e he => he) (List.Perm.refl _) ?_ (fun e he => ⟨?_, rfl⟩) ?_
    · rw [e10 282 8 (fun _ => by decide)]
      exact g6.2.2.2.2.2.1.2.2.2.2.2.cg (fun z _ => e10 z 13 (fun _ => by decide))
    · rw [e10 e.1 13 (fun _ => by decide)]
      exact (g6.2.2.2.2.2.2.1 e he).1
    · rw [hpR_sR, if_pos rfl, if_pos rfl]
  refine (g_release (d := d - 1) (by omega) g7).mono ?_
  rintro r h8 ⟨rfl, g8⟩
  refine Or.inl ⟨rfl, ?_⟩
  have es : hpI h x 6 = fS F := g.cf.2.2.2.2.2.1
  rw [es, nI_ti (show pp < 2 ^ 31 by omega)]
  obtain ⟨s8, -⟩ := g8.sb
  have k48 := sc_k282 g8.sc
  refine ⟨fun c => ?_, fun c => ?_, fun c => ?_, fun c => ?_⟩
  · have p3 : pp = 3 := by omega
    obtain ⟨hj, hw⟩ := h2 (by omega)
    have j8 : jj < 8 := by have := g8.cj.2.2.1; omega
    refine b_X4_leave_128 282 _ _ ⟨k48, x2, g8.r10, by omega, s8.k0, mx_xKV (k_X8_keepJobStatus s8 j8) ?_⟩
    exact ⟨rfl, fun c => absurd c (by omega), fun c => absurd c (by omega), fun c => absurd c (by omega), fun _ hj => g8.keep hj hw⟩
  · have p3 : pp = 0 := by omega
    refine b_X4_leave_88 282 _ ⟨k48, x2, g8.r10, s8.k0, ?_⟩
    rintro _ rfl
    exact ⟨rfl, fun _ => g8.st, fun c => absurd c (by omega), fun c => absurd c (by omega), fun c => absurd c (by omega)⟩
  · have p3 : pp = 1 := by omega
    obtain ⟨y0, T', rfl⟩ := h1 p3
    refine b_X4_leave_99 282 _ ⟨by omega, k48, (g_noteInPipeline (d := d - 1) (by omega) g8).mono ?_⟩
    rintro r h9 ⟨rfl, g9⟩
    refine Or.inl ⟨rfl, rfl, fun c => absurd c (by omega), fun _ y1 T1 e => ?_, fun c => absurd c (by omega), fun c => absurd c (by omega)⟩
    cases e
    exact g9
  · have p3 : pp = 2 := by omega
    obtain ⟨hj, hw⟩ := h2 (by omega)
    have j8 : jj < 8 := by have := g8.cj.2.2.1; omega
    refine b_X4_leave_107 282 _ _ ⟨k48, x2, g8.r10, by omega, s8.k0, mx_xKV (k_X8_keepJobStatus s8 j8) ?_⟩
    have g9 := g8.keep (v := fS F) hj hw
    refine ⟨sc_k282 g9.sc, x2, g9.r10, g9.sb.1.k0, ?_⟩
    rintro _ rfl
    exact ⟨rfl, fun c => absurd c (by omega), fun c => absurd c (by omega), fun _ _ => g9.st, fun c => absurd c (by omega)⟩
/-- the main shell is left -/
theorem g_leave0 (g : CG C h s w A ((x, (F, en, jb), js) :: G) T Ks P (some x) pl rn XL FS VS OS []) (hP : (P x).1 = none) : mx_SM mY_X4_leave d [.ref 282] h (fun r h1 => r = .inl none ∧ CG C h1 s w A ((x, (F, en, jb), js) :: G) T Ks P (some x) pl 0 XL FS VS OS []) := by
  obtain ⟨sx, hx⟩ := g.sb
  have e13 : hpR h x 13 = none := (g.2.2.2.2.2.2.1 _ List.mem_cons_self).1.trans hP
  refine b_X4_leave 282 ⟨sc_k282 g.sc, x, g.r10, sx.k0, fun c => ?_, fun b2 eb => absurd (e13.symm.trans eb) (fun c => nomatch c)⟩
  rintro _ rfl
  exact ⟨rfl, g.sr⟩
end MXLV
