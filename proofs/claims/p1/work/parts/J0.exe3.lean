/-! Machine.execute, whole -/
section MXJ0
variable {C : cC} {B h h1 h2 h6 h10 : mxH} {D : pmC} {s s' d n fl : Nat} {w w' : spW} {A A' : Nat → Option Nat} {F f' : spF} {en en' : Bool} {jb js' : List spJ} {jl : List Int32} {jm XL FS VS OS : List Nat} {Q : mxRes → mxH → Prop} {G : List cE} {T : List cT} {Ks : List spH} {P : cP} {cur : Option Nat} {pl rn : Int32} {inh : List Nat} {m m' : pmM} {fr' : List pmF} {fh : spH} {lm : pmL}
theorem CG.cap (g : CG C h s w A G T Ks P cur pl rn XL FS VS OS inh) : G.length ≤ 1000 := by
  obtain ⟨s1, s2, s3, -⟩ := g.2.2.2.2.2.1
  have l := nd_le s2 (fun x hx => (s3 x).mpr hx)
  have c := g.2.2.2.2.2.2.2.2.2.2.2.2.2.1
  rw [List.length_append, List.length_map] at l
  omega
theorem cG_ge : ∀ L : List cZ, L.length ≤ (cG L).length
  | [] => Nat.le_refl _
  | z :: L => by
    rw [cG_cons, List.length_append, List.length_cons]
    have := cG_ge L
    have : (cZe z).length = (cJs z.2.1.2.2.1 z.2.2).length + 1 := rfl
    omega
theorem CStp.cap (c : CStp C h s m) : m.2.2.2.length < 2900 := by
  obtain ⟨A, x, jl, Z, P, XL, FS, VS, OS, k, g⟩ := c
  have a := g.cap
  have b := cG_ge (lastH (kcF C) ((x, m.2.2.1, jl) :: Z))
  rw [lastH_len, List.length_cons] at b
  have c := k.len
  omega
/-- what is left of the machine's last state: the main shell -/
def lstL (fh : spH) (fl : Nat) (m : pmM) (lm : pmL) : Prop := (fl = 1 ∧ ∃ f' en' js' fr', (pmLs m).getLast? = some (f', en', js', fr') ∧ lm = (vH f' fh, en', js', fr')) ∨ (fl = 2 ∧ lm = (m.2.2.1.1, true, m.2.2.1.2.2.1, []))
theorem x_execute (hd : 9 ≤ d) (id : ID (kcD C) B h (kcN C) w A F jl XL FS VS OS) (hk : K0 C) (e0 : kcH C = h) (eF : kcF C = fH F) (it : pmIt (kcD C) (PI (kcD C)) n (rnW w, 0, (prF F, false, [], []), []) fl m') (nf : fl ≠ 0) (hn : n < 9999999) :
    mx_SM mY_X4_execute d [.ref 282, .ref (kcG C)] h (fun r h1 => ∃ s lm, s ≤ n ∧ lstL (fH F) fl m' lm ∧ XFin C s m'.1 lm r h1) := by
  have id' := id
  obtain ⟨w1, ⟨s, -, w2⟩, wu, w4, oi0, cu, ⟨cgs, -⟩, ⟨v1, v2, v3⟩, past, cn⟩ := id'
  obtain ⟨s1, s2, s3, s4, s5, s6⟩ := cgs
  have m146 : (146 : Nat) ∈ XL := (s3 146).mpr (by simp)
  have s146 : SB h 146 := (s5 146 m146).1
  have k4 := sc_k282 w1
  have m288 : (288 : Nat) ∈ cRS XL VS := by unfold cRS; simp
  have m155 : (146 + 9) ∈ cRS XL VS := by unfold cRS; exact List.mem_append_left _ (List.mem_map.mpr ⟨146, m146, rfl⟩)
  refine b_X4_execute 282 _ ⟨k4, ?_⟩
  rintro _ rfl
  have s1a : SC (hsR h 282 9 (some (kcG C))) := w1.fp (FP.rf.R (by rw [k4]; decide))
  refine ⟨140, sc_r282_0 s1a, (sc_w s1a).k0, 146, (sc_w s1a).r8, ?_⟩
  rintro _ rfl
  have s2a : SC (hsR (hsR h 282 9 (some (kcG C))) 282 10 (some 146)) := s1a.fp (FP.rf.R (by rw [sc_k282 s1a]; decide))
  have k146 : hpK (hsR (hsR h 282 9 (some (kcG C))) 282 10 (some 146)) 146 = 8 := s146.k0
  refine ⟨146, by rw [hpR_sR, if_pos rfl, if_pos rfl], by omega, k146, mx_xKV (k_X8_prepare k146) ?_⟩
  have f3 : FP h (sh_prep (hsR (hsR h 282 9 (some (kcG C))) 282 10 (some 146)) 146) := by
    have f2 : FP h (hsR (hsR h 282 9 (some (kcG C))) 282 10 (some 146)) := (FP.rf.R (by rw [k4]; decide)).R (by show 10 ∉ fnlL (hpK h 282); rw [k4]; decide)
    unfold sh_prep
    exact ((((f2.I).I).I).I.R (by show 13 ∉ fnlL (hpK h 146); rw [s146.k0]; decide)).I
  have s3a := w1.fp f3
  refine ⟨sc_k282 s3a, 140, sc_r282_0 s3a, (sc_w s3a).k0, mx_xKV (k_X10_forgetRun (sc_w s3a).k0) ?_⟩
  have f4 : FP h (wo_forget (sh_prep (hsR (hsR h 282 9 (some (kcG C))) 282 10 (some 146)) 146) 140) := by
    unfold wo_forget
    exact (((f3.I).I).I).I
  have s4a := w1.fp f4
  refine ⟨sc_k282 s4a, 135, sc_r282_1 s4a, sc_k135 s4a, mx_xKV (k_X0_forgetPipes (sc_k135 s4a)) ?_⟩
  have f5 : FP h (xH5 h (kcG C)) := ((f4.I).I).I
  have s5a := w1.fp f5
  show hpK (xH5 h (kcG C)) 282 = 4 ∧ _
  have sb5 : SB (xH5 h (kcG C)) 146 := s146.fp f5
  obtain ⟨⟨xN, xC, xS, xK, xZ⟩, xL⟩ := xH5_s (h := h) (g := kcG C)
  have xr : ∀ a, hpK h a = 18 → ∀ k, hpR (xH5 h (kcG C)) a k = hpR h a k := fun a ha k => by
    rw [xH5_R, if_neg (fun c => by rw [c, k4] at ha; exact absurd ha (by decide)), if_neg (fun c => by rw [c, s146.k0] at ha; exact absurd ha (by decide))]
  have oi5 : OI (xH5 h (kcG C)) (cRS XL VS) [] := by
    refine oi0.cg xN xK xZ (fun a ha k _ => xr a (oi0.2.2.1 a ha).1.2 k) (fun o ho => ⟨?_, ?_⟩) ?_
    · rw [xH5_I (fun c => by have := ho.2; rw [c, s146.k0] at this; exact absurd this (by decide)) (fun c => by have := ho.2; rw [c, (sc_w w1).k0] at this; exact absurd this (by decide)) (fun c => by have := ho.2; rw [c, sc_k135 w1] at this; exact absurd this (by decide))]
    · rw [xH5_R, if_neg (fun c => by have := ho.2; rw [c, k4] at this; exact absurd this (by decide)), if_neg (fun c => by have := ho.2; rw [c, s146.k0] at this; exact absurd this (by decide))]
    · rw [xH5_R, if_neg (by decide), if_neg (by decide)]
  have hd2 : hd_at (xH5 h (kcG C)) 287 135 288 := ⟨sc_k287 s5a, sc_r287_0 s5a, sc_r287_1 s5a, sc_k135 s5a, sc_k288 s5a, sc_z288 s5a⟩
  refine ⟨sc_k282 s5a, 287, sc_r282_7 s5a, 146, (show hpR (xH5 h (kcG C)) 282 10 = some 146 by rw [xH5_R, if_pos rfl, if_pos rfl]), sb5.k0, 146 + 8, sb5.r0_3, sc_k287 s5a, (c_X2_copyFrom (d := d - 1) (by omega) oi5 hd2 (sb5.hd (sc_k135 s5a)) (by decide) m288 m155).mono ?_⟩
  rintro r h6 (⟨rfl, oi6, fr, row⟩ | ⟨_, _, q⟩)
  · have fp6 := fr.fp (sc_k135 s5a)
    have s6a := s5a.fp fp6
    obtain ⟨rN, rC, rS, rK, rZ, rL, rI, rR⟩ := fr
    refine Or.inl ⟨rfl, sc_k282 s6a, ?_⟩
    rintro _ rfl _ rfl _ rfl _ rfl
    have i282 : ∀ b, b ≠ 282 → hpI (hsI (hsI (hsI (hsI h6 282 4 0) 282 6 0) 282 11 0) 282 12 1) b = hpI h6 b := fun b hb => by
      funext k
      rw [hpI_sIn hb, hpI_sIn hb, hpI_sIn hb, hpI_sIn hb]
    have j282 : hpI (hsI (hsI (hsI (hsI h6 282 4 0) 282 6 0) 282 11 0) 282 12 1) 282 = fup (fup (fup (fup (hpI h6 282) 4 0) 6 0) 11 0) 12 1 := by
      rw [hpI_sIe, hpI_sIe, hpI_sIe, hpI_sIe]
    have row' : ∀ k, hpR (hsI (hsI (hsI (hsI h6 282 4 0) 282 6 0) 282 11 0) 282 12 1) k = hpR h6 k := fun _ => rfl
    have n10 : (hpN (hsI (hsI (hsI (hsI h6 282 4 0) 282 6 0) 282 11 0) 282 12 1) = hpN h6 ∧ hpC (hsI (hsI (hsI (hsI h6 282 4 0) 282 6 0) 282 11 0) 282 12 1) = hpC h6 ∧ hpS (hsI (hsI (hsI (hsI h6 282 4 0) 282 6 0) 282 11 0) 282 12 1) = hpS h6 ∧ hpK (hsI (hsI (hsI (hsI h6 282 4 0) 282 6 0) 282 11 0) 282 12 1) = hpK h6 ∧ hpZ (hsI (hsI (hsI (hsI h6 282 4 0) 282 6 0) 282 11 0) 282 12 1) = hpZ h6) ∧ hpL (hsI (hsI (hsI (hsI h6 282 4 0) 282 6 0) 282 11 0) 282 12 1) = hpL h6 := ⟨⟨rfl, rfl, rfl, rfl, rfl⟩, rfl⟩
    have oi10 : OI (hsI (hsI (hsI (hsI h6 282 4 0) 282 6 0) 282 11 0) 282 12 1) (cRS XL VS) [] := oi6.cg rfl rfl rfl (fun _ _ _ _ => rfl) (fun o ho => ⟨by rw [i282 o (fun c => by have := ho.2; rw [c, sc_k282 s6a] at this; exact absurd this (by decide))], rfl⟩) rfl
    generalize hsI (hsI (hsI (hsI h6 282 4 0) 282 6 0) 282 11 0) 282 12 1 = H at i282 j282 row' n10 oi10 ⊢
    obtain ⟨⟨yN, yC, yS, yK, yZ⟩, yL⟩ := n10
    have I5 : ∀ b, hpK h b ≠ 5 → b ≠ 282 → hpI H b = hpI (xH5 h (kcG C)) b := fun b hb h2 => by
      rw [i282 b h2]
      funext k
      exact rI b k (Or.inl (by rw [xK]; exact hb))
    have cm : CMn C H 0 (rnW w, 0, (prF F, false, [], []), []) := by
      refine x_first id hk e0 eF ⟨yN.trans (rN.trans xN), yC.trans (rC.trans xC), yS.trans (rS.trans xS), yK.trans (rK.trans xK), yZ.trans (rZ.trans xZ)⟩ (yL.trans (rL.trans xL)) (fun b a1 a2 a3 a4 a5 => by rw [I5 b a5 a4, xH5_I a1 a2 a3]) (fun b k a5 a4 => ?_) ?_ ?_ ?_ ?_ (fun b k a18 a5 a135 => ?_) oi10 (fun a ha k hk => ?_)
      · have n1 : b ≠ 282 := fun c => by rw [c, k4] at a5; exact absurd a5 (by decide)
        have n2 : b ≠ 146 := fun c => by rw [c, s146.k0] at a5; exact absurd a5 (by decide)
        have n3 : b ≠ 140 := fun c => by rw [c, (sc_w w1).k0] at a5; exact absurd a5 (by decide)
        have n4 : b ≠ 135 := fun c => by rw [c, sc_k135 w1] at a5; exact absurd a5 (by decide)
        rw [i282 b n1, rI b k (Or.inr a4), xH5_I n2 n3 n4]
      · rw [I5 135 (by rw [sc_k135 w1]; decide) (by decide)]; exact xH5_135
      · rw [I5 140 (by rw [(sc_w w1).k0]; decide) (by decide)]; exact xH5_140
      · rw [I5 146 (by rw [s146.k0]; decide) (by decide)]; exact xH5_146
      · rw [j282]
        exact ⟨by rw [fup_n (by decide), fup_n (by decide), fup_n (by decide), fup_e], by rw [fup_n (by decide), fup_n (by decide), fup_e], by rw [fup_n (by decide), fup_e], by rw [fup_e]⟩
      · rw [row', rR b k (by rw [xK]; exact a18) (by rw [xK]; exact a5) a135]
        exact xH5_R
      · rw [row', row a ha k hk]
        by_cases c : a = 288
        · rw [if_pos c, if_pos c]
          exact xr _ s146.k9 k
        · rw [if_neg c, if_neg c]
          exact xr a (oi0.2.2.1 a ha).1.2 k
    refine x_loop (by omega) n 0 0 _ H it nf (by omega) (by omega) cm (fun h1 s' hs' z => ?_)
    have hs' : s' ≤ n := by omega
    rcases z with ⟨z1, z⟩ | ⟨z1, z⟩
    · obtain ⟨⟨f', en', js', fr'⟩, el⟩ : ∃ q, (pmLs m').getLast? = some q := by
        show ∃ q, (m'.2.2.1 :: m'.2.2.2.map Prod.snd).getLast? = some q
        rw [List.getLast?_cons]
        exact ⟨_, rfl⟩
      refine (x_stop (by omega) z z.cap el).mono ?_
      rintro r h2 q
      exact ⟨s', _, hs', Or.inl ⟨z1, f', en', js', fr', el, rfl⟩, by rw [← eF]; exact q⟩
    · refine (x_left (by omega) z).mono ?_
      rintro r h2 q
      exact ⟨s', _, hs', Or.inr ⟨z1, rfl⟩, q⟩
  · exact q.elim
end MXJ0
