/-! Machine.raise, exit -/
section MXRS
variable {C : cC} {h h1 h2 : mxH} {s s' d t k sl o v c i p : Nat} {w w' : spW} {A A' A2 : Nat → Option Nat} {G G' : List cE} {T : List cT} {Ks : List spH} {P : cP} {cur : Option Nat} {pl rn : Int32} {XL FS VS OS inh inh' RS RS' : List Nat} {D : pmC} {e : cE} {x : Nat} {fh hs : spH} {F F1 : spF} {en en' : Bool} {jb : List spJ} {js jl : List Nat} {l : List spH} {y : cT} {n : Int64} {fr : List pmF} {K : List (pmU × pmL)} {m1 : pmM}
/-- the cells of a state of the pure machine whose waiting levels are K -/
def LvG (C : cC) (s : Nat) (A : Nat → Option Nat) (x : Nat) (jl : List Nat) (G : List cE) (K : List (pmU × pmL)) (P : cP) (XL FS VS OS : List Nat) (m : pmM) (h : mxH) : Prop :=
  CG C h s m.1 A ((x, (m.2.2.1.1, m.2.2.1.2.1, m.2.2.1.2.2.1), jl) :: G) (m.2.2.1.2.2.2.map tfR ++ TFk K) (tsv m.2.2.1.2.2.2 ++ TSK K) P (some x) (nI m.2.1) 1 XL FS VS OS []
theorem g_raise (hd : 4 ≤ d) (hz : 0 < kZ (kcD C)) (hc : c < kcC C) (hst : stat (fS F)) (ht : (fr.map tfR ++ TFk K).length < 2950) (g : LvG C s A x jl G K P XL FS VS OS (w, p + 1, (F, en, jb, fr), K) h) (e : pmRse (kcD C) w p F en jb fr K ((kAr (kcD C) c).map (evA F)) = some (0, m1)) :
    mx_SM mY_X4_raise d [.ref 282, .int (nI c)] h (fun r h1 => r = .inl none ∧ LvG C s A x jl G K P XL FS VS OS m1 h1) := by
  have g : CG C h s w A ((x, (F, en, jb), jl) :: G) (fr.map tfR ++ TFk K) (tsv fr ++ TSK K) P (some x) (nI (p + 1)) 1 XL FS VS OS [] := g
  have k4 := sc_k282 g.sc
  obtain ⟨a, -⟩ := g.lk hst
  refine b_X4_raise 282 _ ⟨k4, 283, sc_r282_2 g.sc, kcG C, g.r9, x, g.r10, by omega, sc_k283 g.sc, (k_X1_nameArgument (idx := 0) (by omega) a hc (by omega)).mono ?_⟩
  rintro _ h1 ⟨rfl, ex⟩
  have g1 := g.tx ex
  have k4 := sc_k282 g1.sc
  obtain ⟨sx, hx⟩ := g1.sb
  obtain ⟨pb, pd⟩ := g1.pg
  have l7 : (kAr (kcD C) c).length ≤ 700 := by
    have q1 := (pd.2.2.1.2.2 c hc).2.1
    have q2 := pd.2.2.1.1
    omega
  have len : ((kAr (kcD C) c).map (evA F)).length = (kAr (kcD C) c).length := List.length_map ..
  refine Or.inl ⟨_, rfl, mx_xKI2 (k_X1_signalNamed g1.sgn) ⟨k4, kcG C, g1.r9, pb.1, mx_xKI2 (p_argumentsOf (by omega) pb pd hc) ?_⟩⟩
  generalize (kAr (kcD C) c).map (evA F) = as at len e ⊢
  have st : ∀ v : Int32, pmRse (kcD C) w p F en jb fr K as = pmGo1 en K w (p + 1) (vS F v) jb fr → ∀ h2, h2 = hsI h1 x 6 v → (.inl none : mxRes) = .inl none ∧ LvG C s A x jl G K P XL FS VS OS m1 h2 := by
    rintro v e2 _ rfl
    rw [e2] at e
    cases e
    exact ⟨rfl, g1.st⟩
  refine ⟨fun c1 => ⟨k4, x, g1.r10, sx.k0, st 2 ?_⟩, fun c1 => ?_⟩
  · have : as.length ≠ 1 := fun e => c1 (by rw [← len, e]; rfl)
    unfold pmRse
    rw [if_pos this]
  · have l1 : ¬ as.length ≠ 1 := fun q => q (by rw [len]; exact (nI_eq (b := 1) (by omega) (by omega)).mp c1)
    rcases es : sigK (nmL (as.getD 0 [])) with _ | j
    · refine ⟨fun _ => ⟨k4, x, g1.r10, sx.k0, st 2 ?_⟩, fun c => absurd (by decide) c⟩
      unfold pmRse
      rw [if_neg l1, es]
    · have j4 := sigK_lt es
      refine ⟨fun c => absurd c (nI_pos (by omega)), fun _ => ⟨fun c3 => ⟨k4, x, g1.r10, sx.k0, x + 7, sx.r0_2, sx.k7, ?_, ?_⟩, fun c3 => ⟨k4, x, g1.r10, sx.k0, st 2 ?_⟩⟩⟩
      · rw [sx.z7]; exact vp_in_nI j4 (by omega)
      · have j3 : j < 3 := (nI_ltI (b := 3) (by omega) (by omega)).mp c3
        have ea : hpL h1 (x + 7) (ixI (some j)).toNatClampNeg = fA F j := by
          rw [show (ixI (some j)).toNatClampNeg = j from nI_clamp (by omega)]
          exact g1.cf.2.2.1 j j4
        rw [ea, lg_cmp_eq, lg_cmp_eq]
        have ep : pmRse (kcD C) w p F en jb fr K as = if fA F j = 0 then pmEnd (kcD C) en jb fr K w F (128 + (if j = 2 then 15 else nI (j + 1))) else if fA F j = -2 then pmGo1 en K w (p + 1) (vS F 0) jb fr else match tbF (fU F) (fA F j) with
            | none => pmGo1 en K w (p + 1) (vS F 0) jb fr
            | some i => if 4 ≤ fN F then pmGo1 en K w (p + 1) (vS F 0) jb fr else pmCal (kcD C) w F en jb fr K 3 (nI (p + 1)) i 0 0 := by
          unfold pmRse
          rw [if_neg l1, es]
          simp only []
          rw [if_neg (by omega)]
          rfl
        refine ⟨fun c4 => ⟨fun c5 => st 0 ?_, fun c5 => (g_callForTrap (d := d - 1) (by omega) g1 ht).mono ?_⟩, fun c4 => ⟨fun c5 => (g_endWith (d := d - 1) (by omega) hz g1).mono ?_, fun c5 => (g_endWith (d := d - 1) (by omega) hz g1).mono ?_⟩⟩
        · rw [ep, if_neg c4, if_pos c5]
        · rintro r h2 (⟨rfl, rfl, q⟩ | ⟨i, ei, q, rfl, g2⟩)
          · refine Or.inl ⟨_, rfl, fun c => absurd rfl c, fun _ => ⟨k4, x, g1.r10, sx.k0, st 0 ?_⟩⟩
            rw [ep, if_neg c4, if_neg c5]
            rcases ei : tbF (fU F) (fA F j) with _ | i
            · rfl
            · simp only []
              rw [if_pos (q i ei)]
          · refine Or.inl ⟨_, rfl, fun _ => ⟨rfl, ?_⟩, fun c => absurd c (by decide)⟩
            rw [ep, if_neg c4, if_neg c5, ei] at e
            simp only [] at e
            rw [if_neg q] at e
            cases e
            exact g2
        · rintro r h2 ⟨rfl, g2⟩
          refine Or.inl ⟨rfl, rfl, ?_⟩
          have nj : j ≠ 2 := fun q => c5 (by rw [q]; rfl)
          rw [ep, if_pos c4, if_neg nj] at e
          cases e
          have : (128 : Int32) + (ixI (some j) + 1) = 128 + nI (j + 1) := by rw [show ixI (some j) = nI j from rfl, nI_1]
          rw [this] at g2
          exact g2
        · rintro r h2 ⟨rfl, g2⟩
          refine Or.inl ⟨rfl, rfl, ?_⟩
          have nj : j = 2 := (nI_eq (b := 2) (by omega) (by omega)).mp c5
          rw [ep, if_pos c4, if_pos nj] at e
          cases e
          exact g2
      · have j3 : 3 ≤ j := by
          rcases Nat.lt_or_ge j 3 with q | q
          · exact absurd (show nI j < nI 3 from nI_lt q (by omega)) c3
          · exact q
        unfold pmRse
        rw [if_neg l1, es]
        simp only []
        rw [if_pos j3]
theorem g_exit (hd : 4 ≤ d) (hz : 0 < kZ (kcD C)) (hc : c < kcC C) (hst : stat (fS F)) (g : LvG C s A x jl G K P XL FS VS OS (w, p + 1, (F, en, jb, fr), K) h) (e : (match opExit ((kAr (kcD C) c).map (evA F)) F with
    | none => pmGo1 en K w (p + 1) (vS F 2) jb fr
    | some v => pmEnd (kcD C) en jb fr K w F v) = some (0, m1)) :
    mx_SM mY_X4_exit d [.ref 282, .int (nI c)] h (fun r h1 => r = .inl none ∧ LvG C s A x jl G K P XL FS VS OS m1 h1) := by
  have g : CG C h s w A ((x, (F, en, jb), jl) :: G) (fr.map tfR ++ TFk K) (tsv fr ++ TSK K) P (some x) (nI (p + 1)) 1 XL FS VS OS [] := g
  have k4 := sc_k282 g.sc
  obtain ⟨a, -⟩ := g.lk hst
  obtain ⟨pb, pd⟩ := g.pg
  have l7 : (kAr (kcD C) c).length ≤ 700 := by
    have q1 := (pd.2.2.1.2.2 c hc).2.1
    have q2 := pd.2.2.1.1
    omega
  have len : ((kAr (kcD C) c).map (evA F)).length = (kAr (kcD C) c).length := List.length_map ..
  refine b_X4_exit 282 _ ⟨k4, kcG C, g.r9, by omega, pb.1, mx_xKI2 (p_argumentsOf (by omega) pb pd hc) ⟨k4, 283, sc_r282_2 g.sc, kcG C, g.r9, x, g.r10, sc_k283 g.sc, (k_X1_numberArgument (idx := 0) (by omega) a hc (by omega)).mono ?_⟩⟩
  rintro _ h1 ⟨rfl, ex⟩
  have g1 := g.tx ex
  have k4 := sc_k282 g1.sc
  obtain ⟨sx, hx⟩ := g1.sb
  refine Or.inl ⟨_, rfl, ?_⟩
  generalize (kAr (kcD C) c).map (evA F) = as at len e ⊢
  have st : opExit as F = none → ∀ h2, h2 = hsI h1 x 6 2 → (.inl none : mxRes) = .inl none ∧ LvG C s A x jl G K P XL FS VS OS m1 h2 := by
    rintro e2 _ rfl
    rw [e2] at e
    cases e
    exact ⟨rfl, g1.st⟩
  have ew : ∀ v : Int32, opExit as F = some v → mx_SM mY_X4_endWith (d - 1) [.ref 282, .int v] h1 (mx_KV (fun h5 => (.inl none : mxRes) = .inl none ∧ LvG C s A x jl G K P XL FS VS OS m1 h5) (mx_XX mY_X4_exit (fun r h1 => r = .inl none ∧ LvG C s A x jl G K P XL FS VS OS m1 h1))) := by
    intro v e2
    rw [e2] at e
    cases e
    refine (g_endWith (d := d - 1) (by omega) hz g1).mono ?_
    rintro r h2 ⟨rfl, g2⟩
    exact Or.inl ⟨rfl, rfl, g2⟩
  refine ⟨fun c1 => ⟨fun c2 => ⟨k4, x, g1.r10, sx.k0, st ?_⟩, fun c2 => ?_⟩, fun c1 => ⟨k4, x, g1.r10, sx.k0, ?_⟩⟩
  · rcases as with _ | ⟨b, _ | ⟨b2, as⟩⟩
    · exact absurd (by rw [← len]; rfl) c1
    · exact absurd (by rw [← len]; rfl) c2
    · rfl
  · have l1 : as.length = 1 := by rw [len]; exact (nI_eq (b := 1) (by omega) (by omega)).mp c2
    rcases as with _ | ⟨b, _ | ⟨b2, as⟩⟩
    · exact nomatch l1
    · show (nuL b < 0 → _) ∧ (¬ nuL b < 0 → _)
      rcases nuL_nI b with q | ⟨j, j1, j2⟩
      · rw [q]
        exact ⟨fun _ => ⟨k4, x, g1.r10, sx.k0, st (by show (if nuL b = -1 then none else some (nuL b % 256)) = _; rw [if_pos q])⟩, fun c => absurd (by decide) c⟩
      · have e2 : nuL b - nuL b / 256 * 256 = nuL b % 256 := by
          rw [j2, mod256 j1, show (256 : Int32) = nI 256 from rfl, nI_div (by omega) (by omega), pk_mul, nI_sb (by omega)]
          congr 1
          omega
        refine ⟨fun c => absurd c (by rw [j2]; exact nI_pos (by omega)), fun _ => ⟨k4, ?_⟩⟩
        have q := ew (nuL b % 256) (by show (if nuL b = -1 then none else some (nuL b % 256)) = _; rw [if_neg (by rw [j2]; exact fun c => (nI_neg1 (by omega)).mp c)])
        rw [← e2] at q
        exact q
    · simp at l1
  · have l0 : as.length = 0 := by rw [len]; exact (nI_eq (b := 0) (by omega) (by omega)).mp c1
    have : as = [] := List.length_eq_zero_iff.mp l0
    subst this
    rw [show hpI h1 x 6 = fS F from g1.cf.2.2.2.2.2.1]
    exact ew (fS F) rfl
end MXRS
