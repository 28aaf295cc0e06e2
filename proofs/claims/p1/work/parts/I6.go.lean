/-! Machine.letGo -/
section MXI6
variable {C : cC} {h h1 h2 h6 : mxH} {s s' d t k sl o c i p p' n fl pu pq : Nat} {v bh : Int32} {w w' : spW} {A A' A2 : Nat → Option Nat} {G G' G2 : List cE} {T : List cT} {Ks : List spH} {P P' : cP} {cur cur' : Option Nat} {pl rn : Int32} {XL XL' FS FS' VS VS' OS OS' inh inh' RS RS' : List Nat} {D : pmC} {e : cE} {x y x2 : Nat} {fh hs : spH} {F F1 Fy F2 : spF} {f f' gg : spF} {en en' en2 last : Bool} {jb jb' js js' : List spJ} {jl jl' jm : List Nat} {fr fr' : List pmF} {K : List (pmU × pmL)} {Z : List cZ} {m m1 : pmM} {Q : mxRes → mxH → Prop} {lm : pmL}
/-- who waits for whom -/
def lnk (P : cP) : Nat → List cZ → Prop
  | x, [] => x = 146
  | x, z :: L => (P x).1 = some z.1 ∧ lnk P z.1 L
/-- nothing executes any more -/
def CFin (C : cC) (s : Nat) (w : spW) (A : Nat → Option Nat) (lm : pmL) (jm : List Nat) (T : List cT) (P : cP) (pl rn : Int32) (XL VS OS : List Nat) (r : mxRes) (h1 : mxH) : Prop := r = .inl none ∧ ∃ jb' FS', jDone lm.2.2.1 jb' 8 ∧ CG (C.1, C.2.1, (fun _ => none), C.2.2.2) h1 s w A [(146, (lm.1, lm.2.1, jb'), jm)] T [] P (some 146) pl rn XL FS' VS OS []
theorem lg_81 (hd : 3 ≤ d) {jb0 : List spJ} : ∀ q i (Ks : List spH) (h : mxH), i + q = Ks.length → CG C h s w A [(146, (F, en, jb), jm)] T Ks P cur pl rn XL FS VS OS [] → jDone jb0 jb 8 → cur = some 146 →
    mx_SX mY_X4_letGo d 81 [(0, .ref 282), (1, .int (nI i))] [] h (CFin C s w A (F, en, jb0, fr) jm T P pl rn XL VS OS) := by
  intro q
  induction q with
  | zero =>
    intro i Ks h hi g jd ec
    obtain ⟨cv, c6, v3, cvs⟩ := g.cv
    have k4 := sc_k282 g.sc
    have lv := cv.2.2.1
    refine b_X4_letGo_81 282 _ ⟨k4, ?_⟩
    rw [c6]
    refine ⟨fun _ => ?_, fun c => absurd ((nI_leI (by omega) (by omega)).mpr (by omega)) c⟩
    refine b_X4_letGo_120 282 ⟨k4, ?_⟩
    rintro _ rfl
    have g1 : CG C (hsI h 282 6 0) s w A [(146, (F, en, jb), jm)] T [] P cur pl rn XL FS VS OS [] := g.ks (Ks' := []) ⟨cv.1, cv.2.1, Nat.zero_le _, cv.2.2.2.1, fun j hj => absurd hj (Nat.not_lt_zero _)⟩
    refine ⟨287, sc_r282_7 g1.sc, by omega, sc_k287 g1.sc, (c_close8 (d := d - 1) (by omega) g1).mono ?_⟩
    rintro r h2 (⟨rfl, g2⟩ | ⟨_, _, z⟩)
    · subst ec
      exact Or.inl ⟨rfl, rfl, jb, FS, jd, g2⟩
    · exact z.elim
  | succ q ih =>
    intro i Ks h hi g jd ec
    obtain ⟨cv, c6, v3, cvs⟩ := g.cv
    have k4 := sc_k282 g.sc
    have lv := cv.2.2.1
    have ev : VS[i]? = some (VS[i]'(by omega)) := List.getElem?_eq_getElem (by omega)
    generalize VS[i]'(by omega) = v at ev
    obtain ⟨hv, r6, mv⟩ := cvs _ v ev
    refine b_X4_letGo_81 282 _ ⟨k4, ?_⟩
    rw [c6, nI_clamp (show i < 2 ^ 31 by omega)]
    refine ⟨fun c => absurd ((nI_leI (by omega) (by omega)).mp c) (by omega), fun _ => ⟨fun c => absurd ((nI_leI (a := 300) (by omega) (by omega)).mp c) (by omega), fun _ => ⟨286, sc_r282_5 g.sc, sc_k286 g.sc, by rw [sc_z286 g.sc]; exact vp_in_nI (by omega) (by omega), fun c => absurd (r6.symm.trans c) (fun c => nomatch c), fun b2 hb => ?_⟩⟩⟩
    have eb : b2 = v := by rw [r6] at hb; exact (Option.some.inj hb).symm
    subst eb
    refine ⟨by omega, hv.1, (c_closeV (d := d - 1) (by omega) g ev (by omega)).mono ?_⟩
    rintro r h2 (⟨rfl, Ks', L, g2⟩ | ⟨_, _, z⟩)
    · refine Or.inl ⟨rfl, b_X4_letGo_114 282 _ ?_⟩
      rw [nI_1]
      exact ih (i + 1) Ks' h2 (by omega) g2 jd ec
    · exact z.elim
theorem lg_68 (hd : 4 ≤ d) (g : CG C h s w A (cG [(146, lm, jm)]) T Ks P (some 146) pl rn XL FS VS OS []) : mx_SX mY_X4_letGo d 68 [(0, .ref 282)] [] h (CFin C s w A lm jm T P pl rn XL VS OS) := by
  obtain ⟨F, en, jb, fr⟩ := lm
  have g : CG C h s w A ((146, (F, en, jb), jm) :: (cJs jb jm ++ [])) T Ks P (some 146) pl rn XL FS VS OS [] := g
  have k4 := sc_k282 g.sc
  refine b_X4_letGo_68 282 ⟨k4, 140, sc_r282_0 g.sc, (sc_w g.sc).k0, 146, (sc_w g.sc).r8, by omega, (g_releaseJobs (d := d - 1) (by omega) g).mono ?_⟩
  rintro r h1 ⟨rfl, jb', FS', jd, g1⟩
  exact Or.inl ⟨rfl, lg_81 (by omega) Ks.length 0 Ks h1 (Nat.zero_add _) g1 jd rfl⟩
theorem lg_2 (hd : 4 ≤ d) : ∀ (L : List cZ) (x : Nat) (l : pmL) (jl : List Nat) (i : Nat) (FS : List Nat) (h : mxH), i + L.length < 3000 → lnk P x L → ((x, l, jl) :: L).getLast? = some (146, lm, jm) → CG C h s w A (cG ((x, l, jl) :: L)) T Ks P (some x) pl rn XL FS VS OS [] →
    mx_SX mY_X4_letGo d 2 [(0, .ref 282), (1, .int (nI i))] [] h (CFin C s w A lm jm T P pl rn XL VS OS) := by
  intro L
  induction L with
  | nil =>
    intro x l jl i FS h hi lk el g
    have e0 : (x, l, jl) = (146, lm, jm) := Option.some.inj el
    have ex : x = 146 := lk
    subst ex
    cases e0
    have k4 := sc_k282 g.sc
    refine b_X4_letGo_2 282 _ ⟨fun _ => lg_68 hd g, fun _ => ⟨k4, 146, g.r10, 140, sc_r282_0 g.sc, (sc_w g.sc).k0, 146, (sc_w g.sc).r8, (fun b e => by have := Option.some.inj e; omega), (fun b e => by have := Option.some.inj e; omega), fun _ => lg_68 hd g, fun c => absurd rfl c⟩⟩
  | cons z L ih =>
    intro x l jl i FS h hi lk el g
    rw [List.length_cons] at hi
    obtain ⟨F, en, jb, fr⟩ := l
    obtain ⟨lk1, lk2⟩ := lk
    have g : CG C h s w A ((x, (F, en, jb), jl) :: (cJs jb jl ++ cG (z :: L))) T Ks P (some x) pl rn XL FS VS OS [] := g
    have k4 := sc_k282 g.sc
    obtain ⟨sx, hx⟩ := g.sb
    have nds := g.2.2.2.2.2.1.2.1
    rw [List.map_cons, List.cons_append] at nds
    have m146 : lst146 (z :: L) := by
      have : ∀ (L : List cZ) (z : cZ), lnk P z.1 L → lst146 (z :: L) := by
        intro L
        induction L with
        | nil => intro z e; exact e
        | cons y L ih => intro z e; exact ih y e.2
      exact this L z lk2
    have nx : x ≠ 146 := fun c => by
      obtain ⟨Fm, enm, jbm, jsm, G2, pm, -⟩ := cG_main (fh := fun _ => none) m146
      exact (List.nodup_cons.mp nds).1 (List.mem_append_left _ (List.mem_map.mpr ⟨_, List.mem_append_right _ (pm.mem_iff.mpr List.mem_cons_self), c.symm⟩))
    have e13 : hpR h x 13 = some z.1 := (g.2.2.2.2.2.2.1 _ List.mem_cons_self).1.trans lk1
    have el : (z :: L).getLast? = some (146, lm, jm) := by rw [List.getLast?_cons_cons] at el; exact el
    refine b_X4_letGo_2 282 _ ⟨fun c => absurd ((nI_leI (a := 3000) (by omega) (by omega)).mp c) (by omega), fun _ => ⟨k4, x, g.r10, 140, sc_r282_0 g.sc, (sc_w g.sc).k0, 146, (sc_w g.sc).r8, (fun b e => by have := Option.some.inj e; omega), (fun b e => by have := Option.some.inj e; omega), fun c => absurd (Option.some.inj c) nx, fun _ => ⟨sx.k0, fun c => absurd (e13.symm.trans c) (fun c => nomatch c), fun b4 eb => ⟨by omega, (g_releaseJobs (d := d - 1) (by omega) g).mono ?_⟩⟩⟩⟩
    rw [e13]
    rintro r h1 ⟨rfl, jb', FS', jd, g1⟩
    refine Or.inl ⟨rfl, sc_k282 g1.sc, x, g1.r10, (g_release (d := d - 1) (by omega) g1).mono ?_⟩
    rintro r h2 ⟨rfl, g2⟩
    refine Or.inl ⟨rfl, sc_k282 g2.sc, ?_⟩
    rintro _ rfl
    have e10 : ∀ b k, (b = 282 → k ≠ 10) → hpR (hsR h2 282 10 (some z.1)) b k = hpR h2 b k := fun b k hk => by
      rw [hpR_sR]
      split
      · rename_i e
        rw [if_neg (hk e), e]
      · rfl
    obtain ⟨zx, zl, zj⟩ := z
    have sz : SB h2 zx ∧ (zx = 146 ∨ 365 ≤ zx) := (g2.2.2.2.2.2.1).at (e := (zx, (zl.1, zl.2.1, zl.2.2.1), zj)) (by rw [cG_cons]; exact List.mem_cons_self)
    have g3 : CG C (hsR h2 282 10 (some zx)) s w A (cG ((zx, zl, zj) :: L)) T Ks P (some zx) pl rn XL (x :: FS') VS OS [] := by
      refine g2.rr sz.1 sz.2 ⟨rfl, rfl, rfl, rfl, rfl, rfl, rfl⟩ (fun b k h1 h2 => e10 b k (fun c => (h2 c).2)) (fun e he => he) (List.Perm.refl _) ?_ (fun e he => ⟨?_, rfl⟩) ?_
      · rw [e10 282 8 (fun _ => by decide)]
        exact g2.2.2.2.2.2.1.2.2.2.2.2.cg (fun z _ => e10 z 13 (fun _ => by decide))
      · rw [e10 e.1 13 (fun _ => by decide)]
        exact (g2.2.2.2.2.2.2.1 e he).1
      · rw [hpR_sR, if_pos rfl, if_pos rfl]
    rw [nI_1]
    exact ih zx zl zj (i + 1) (x :: FS') _ (by omega) lk2 el g3
theorem g_letGo (hd : 4 ≤ d) {L : List cZ} {l : pmL} (hl : L.length < 3000) (lk : lnk P x L) (el : ((x, l, jl) :: L).getLast? = some (146, lm, jm)) (g : CG C h s w A (cG ((x, l, jl) :: L)) T Ks P (some x) pl rn XL FS VS OS []) : mx_SM mY_X4_letGo d [.ref 282] h (CFin C s w A lm jm T P pl rn XL VS OS) :=
  b_X4_letGo 282 (lg_2 hd L x l jl 0 FS h (by omega) lk el g)
end MXI6
