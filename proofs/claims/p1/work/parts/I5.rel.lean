/-! Machine.releaseJobs, letGo -/
section MXI5
variable {C : cC} {h h1 h2 h6 : mxH} {s s' d t k sl o c i p p' n fl pu pq : Nat} {v bh : Int32} {w w' : spW} {A A' A2 : Nat → Option Nat} {G G' G2 : List cE} {T : List cT} {Ks : List spH} {P P' : cP} {cur cur' : Option Nat} {pl rn : Int32} {XL XL' FS FS' VS VS' OS OS' inh inh' RS RS' : List Nat} {D : pmC} {e : cE} {x y x2 : Nat} {fh hs : spH} {F F1 Fy F2 : spF} {f f' gg : spF} {en en' en2 last : Bool} {jb jb' js js' : List spJ} {jl jl' : List Nat} {fr fr' : List pmF} {K : List (pmU × pmL)} {Z : List cZ} {m m1 : pmM} {Q : mxRes → mxH → Prop}
/-- jobs that are not to be run any more: the statuses stay -/
def jDone (jb jb' : List spJ) (i : Nat) : Prop := jb'.length = jb.length ∧ ∀ k (h1 : k < jb.length) (h2 : k < jb'.length), (jb[k].1 ≠ 0 → jb'[k] = jb[k]) ∧ (jb[k].1 = 0 → (k < i → jb'[k] = (2, jb[k].2)) ∧ (i ≤ k → jb'[k] = jb[k]))
theorem g_relJobs2 (hd : 3 ≤ d) {jb0 : List spJ} : ∀ q i (jb : List spJ) (FS : List Nat) (h : mxH), i + q = 8 → jDone jb0 jb i → CG C h s w A ((x, (F, en, jb), jl) :: (cJs jb jl ++ G)) T Ks P cur pl rn XL FS VS OS [] →
    mx_SX mY_X4_releaseJobs d 2 [(0, .ref 282), (1, .ref x), (2, .int (nI i))] [] h (fun r h1 => r = .inl none ∧ ∃ jb' FS', jDone jb0 jb' 8 ∧ CG C h1 s w A ((x, (F, en, jb'), jl) :: (cJs jb' jl ++ G)) T Ks P cur pl rn XL FS' VS OS []) := by
  intro q
  induction q with
  | zero =>
    intro i jb FS h hi jd g
    obtain rfl : i = 8 := by omega
    exact b_X4_releaseJobs_2 282 x _ ⟨fun _ => ⟨rfl, jb, FS, jd, g⟩, fun c => absurd (show (8 : Int32) ≤ nI 8 from (nI_leI (by decide) (by decide)).mpr (Nat.le_refl _)) c⟩
  | succ q ih =>
    intro i jb FS h hi jd g
    obtain ⟨sx, hx⟩ := g.sb
    obtain ⟨c1, c2, c3, c4, c5⟩ := g.cj
    have nxt : ∀ (jb1 : List spJ) (FS1 : List Nat) (h1 : mxH), jDone jb0 jb1 (i + 1) → CG C h1 s w A ((x, (F, en, jb1), jl) :: (cJs jb1 jl ++ G)) T Ks P cur pl rn XL FS1 VS OS [] → mx_SX mY_X4_releaseJobs d 23 [(0, .ref 282), (1, .ref x), (2, .int (nI i))] [] h1 (fun r h1 => r = .inl none ∧ ∃ jb' FS', jDone jb0 jb' 8 ∧ CG C h1 s w A ((x, (F, en, jb'), jl) :: (cJs jb' jl ++ G)) T Ks P cur pl rn XL FS' VS OS []) := fun jb1 FS1 h1 jd1 g1 => by
      refine b_X4_releaseJobs_23 282 x _ ?_
      rw [nI_1]
      exact ih (i + 1) jb1 FS1 h1 (by omega) jd1 g1
    refine b_X4_releaseJobs_2 282 x _ ⟨fun c => absurd c (show ¬ nI 8 ≤ nI i from nI_ge (by omega) (by omega)), fun _ => ⟨by omega, sx.k0, ?_⟩⟩
    by_cases hw : ∃ j, jb[i]? = some j ∧ j.1 = 0
    · obtain ⟨j, hj, hw⟩ := hw
      obtain ⟨il, ej⟩ := List.getElem?_eq_some_iff.mp hj
      have ey : jl[i]? = some (jl[i]'(by omega)) := List.getElem?_eq_getElem (by omega)
      have q0 := c5 i il (by omega)
      rw [ej, if_pos hw] at q0
      have pm := (cJs_take jb jl i j hj hw ey (2, j.2) (fun c => nomatch c)).append_right G
      generalize jl[i]'(by omega) = y at ey q0 pm
      have my : ((y, (j.2.2.2, false, []), []) : cE) ∈ cJs jb jl ++ G := pm.mem_iff.mpr List.mem_cons_self
      have sy := (g.2.2.2.2.2.1.sx.2.2 _ my).1.1
      refine mx_xKR (k_X8_takeJob (by omega) sx c2 c3 il q0.1 (by have := sy.1; omega)) ⟨(fun c => nomatch c), fun b eb => ?_⟩
      obtain rfl := Option.some.inj eb
      have g1 : CG C (hsR h (x + 10) i none) s w A ((x, (F, en, jb.set i (2, j.2)), jl) :: (cJs jb jl ++ G)) T Ks P cur pl rn XL FS VS OS [] := by
        refine g.setJ ⟨rfl, rfl, rfl, rfl, rfl, rfl⟩ (fun _ _ _ _ => rfl) (fun _ _ => rfl) (fun b hb => by funext k; rw [hpR_sRn hb]) ⟨c1, by rw [List.length_set]; exact c2, by rw [List.length_set]; exact c3, by rw [List.length_set]; exact c4, fun k hk hj => ?_⟩
        rw [List.length_set] at hk
        rw [hpR_sR, if_pos rfl]
        rw [List.getElem_set]
        have q2 := c5 k hk hj
        by_cases c : i = k
        · subst c
          rw [ej] at q2
          rw [if_pos rfl, if_pos rfl]
          refine ⟨?_, q2.2.1, ?_⟩
          · rw [if_neg (fun c => nomatch c)]
          · rw [if_neg (fun c => nomatch c)]
            have q3 := q2.2.2
            rw [if_neg (by omega)] at q3
            exact q3
        · rw [if_neg (fun e => c e.symm), if_neg c]
          exact q2
      have g2 := g1.pm ((pm.cons _).trans (List.Perm.swap _ _ _))
      refine ⟨sc_k282 g2.sc, (g_release (d := d - 1) (by omega) g2).mono ?_⟩
      rintro r h3 ⟨rfl, g3⟩
      refine Or.inl ⟨rfl, nxt (jb.set i (2, j.2)) _ h3 ?_ g3⟩
      obtain ⟨d1, d2⟩ := jd
      refine ⟨by rw [List.length_set]; exact d1, fun k h1 h2 => ?_⟩
      rw [List.length_set] at h2
      obtain ⟨e1, e2⟩ := d2 k h1 h2
      rw [List.getElem_set]
      by_cases c : i = k
      · subst c
        rw [if_pos rfl]
        have z0 : jb0[i].1 = 0 := by
          by_cases z : jb0[i].1 = 0
          · exact z
          · have := e1 z
            rw [ej] at this
            rw [this] at hw
            exact absurd hw z
        have e3 := (e2 z0).2 (Nat.le_refl _)
        rw [ej] at e3
        exact ⟨fun c => absurd z0 c, fun _ => ⟨fun _ => by rw [e3], fun c => absurd c (by omega)⟩⟩
      · rw [if_neg c]
        exact ⟨e1, fun z => ⟨fun c2 => (e2 z).1 (by omega), fun c2 => (e2 z).2 (by omega)⟩⟩
    · refine mx_xKR (k_X8_takeJob_no (by omega) sx c2 c3 ?_) ⟨fun _ => nxt jb FS h ?_ g, (fun b e => nomatch e)⟩
      · by_cases il : i < jb.length
        · refine Or.inr (Or.inr ⟨i, rfl, il, ?_⟩)
          rw [(c5 i il (by omega)).1, if_neg (fun c => hw ⟨_, List.getElem?_eq_getElem il, c⟩)]
        · exact Or.inr (Or.inl ((nI_leI (by omega) (by omega)).mpr (by omega)))
      · obtain ⟨d1, d2⟩ := jd
        refine ⟨d1, fun k h1 h2 => ?_⟩
        obtain ⟨e1, e2⟩ := d2 k h1 h2
        refine ⟨e1, fun z => ⟨fun c2 => ?_, fun c2 => (e2 z).2 (by omega)⟩⟩
        by_cases c : k = i
        · subst c
          have e3 := (e2 z).2 (Nat.le_refl _)
          exact absurd ⟨_, List.getElem?_eq_getElem h2, by rw [e3]; exact z⟩ hw
        · exact (e2 z).1 (by omega)
theorem jDone_0 : jDone jb jb 0 := ⟨rfl, fun k h1 h2 => ⟨fun _ => rfl, fun _ => ⟨fun c => absurd c (Nat.not_lt_zero _), fun _ => rfl⟩⟩⟩
theorem jDone_8 (hl : jb.length ≤ 8) (jd : jDone jb jb' 8) : ∀ j ∈ jb', j.1 ≠ 0 := fun j hj => by
  obtain ⟨k, hk, rfl⟩ := List.getElem_of_mem hj
  obtain ⟨d1, d2⟩ := jd
  obtain ⟨e1, e2⟩ := d2 k (by omega) hk
  by_cases z : (jb[k]'(by omega)).1 = 0
  · rw [(e2 z).1 (by omega)]; exact fun c => nomatch c
  · rw [e1 z]; exact z
theorem g_releaseJobs (hd : 3 ≤ d) (g : CG C h s w A ((x, (F, en, jb), jl) :: (cJs jb jl ++ G)) T Ks P cur pl rn XL FS VS OS []) : mx_SM mY_X4_releaseJobs d [.ref 282, .ref x] h (fun r h1 => r = .inl none ∧ ∃ jb' FS', jDone jb jb' 8 ∧ CG C h1 s w A ((x, (F, en, jb'), jl) :: G) T Ks P cur pl rn XL FS' VS OS []) := by
  have l8 := g.cj.2.2.1
  refine b_X4_releaseJobs 282 x ((g_relJobs2 hd 8 0 jb FS h rfl jDone_0 g).mono ?_)
  rintro r h1 ⟨rfl, jb', FS', jd, g1⟩
  refine ⟨rfl, jb', FS', jd, ?_⟩
  rw [cJs_none jb' jl (jDone_8 l8 jd), List.nil_append] at g1
  exact g1
end MXI5
