/-! Machine.begin, finish -/
section MXBG
variable {C : cC} {h h1 h2 : mxH} {s s' d t k sl o v c : Nat} {w w' : spW} {A A' A2 : Nat → Option Nat} {G G' : List cE} {T : List cT} {Ks : List spH} {P : cP} {cur : Option Nat} {pl rn : Int32} {XL FS VS OS inh inh' RS RS' : List Nat} {D : pmC} {e : cE} {x : Nat} {fh hs : spH} {F F' : spF} {en en' : Bool} {jb : List spJ} {js : List Nat} {l : List spH} {y : cT}
/-- one redirection leaves the pipes, the open files that were there -/
theorem redOp_pre {r : spR} {w1 : spW} {F1 : spF} (e : redOp r w F = some (w1, F1)) : (∃ l, wO w1 = wO w ++ l) ∧ wU w1 = wU w := by
  unfold redOp at e
  have mk : ∀ {i w2} {n : Int64}, mkF w n = some (i, w2) → wO w2 = wO w ∧ wU w2 = wU w := by
    intro i w2 n q
    unfold mkF at q
    split at q
    · cases q; exact ⟨rfl, rfl⟩
    · split at q
      · exact nomatch q
      · cases q; exact ⟨rfl, rfl⟩
  split at e
  · split at e
    · exact nomatch e
    · cases e; exact ⟨⟨_, rfl⟩, rfl⟩
  · split at e
    · split at e
      · exact nomatch e
      · rename_i q
        cases e
        exact ⟨⟨_, by show wO _ ++ _ = _; rw [show wO (setF _ _ []) = wO w from (mk q).1]⟩, (mk q).2⟩
    · split at e
      · split at e
        · exact nomatch e
        · rename_i q
          cases e
          exact ⟨⟨_, by show wO _ ++ _ = _; rw [(mk q).1]⟩, (mk q).2⟩
      · split at e
        · split at e
          · exact nomatch e
          · cases e; exact ⟨⟨[], (List.append_nil _).symm⟩, rfl⟩
        · cases e; exact ⟨⟨[], (List.append_nil _).symm⟩, rfl⟩
theorem redOps_pre : ∀ (rs : List spR) (w : spW) (F : spF), (∃ l, wO (redOps rs w F).2.1 = wO w ++ l) ∧ wU (redOps rs w F).2.1 = wU w
  | [], w, F => ⟨⟨[], (List.append_nil _).symm⟩, rfl⟩
  | r :: rs, w, F => by
    unfold redOps
    split
    · exact ⟨⟨[], (List.append_nil _).symm⟩, rfl⟩
    · rename_i w1 F1 e
      obtain ⟨⟨l, e1⟩, e2⟩ := redOp_pre e
      obtain ⟨⟨l2, e3⟩, e4⟩ := redOps_pre rs w1 F1
      exact ⟨⟨l ++ l2, by rw [e3, e1, List.append_assoc]⟩, e4.trans e2⟩
/-- the end of a command's redirections -/
def BgE (C : cC) (s : Nat) (w0 : spW) (A : Nat → Option Nat) (x : Nat) (en : Bool) (jb : List spJ) (js : List Nat) (G : List cE) (y : cT) (T : List cT) (hs : spH) (Ks : List spH) (P : cP) (pl rn : Int32) (XL FS VS : List Nat) (c t : Nat) (q : Bool × spW × spF) (r : mxRes) (h1 : mxH) : Prop :=
  r = .inl none ∧ ∃ A' OS', AX A A' (wO w0).length ∧ ((q.1 = true ∧ CG C h1 (s + 1) q.2.1 A' ((x, (q.2.2, en, jb), js) :: G) (y :: T) (hs :: Ks) P (some x) pl rn XL FS VS OS' []) ∨
    (q.1 = false ∧ CG C h1 (s + 1) (pmRec (kcD C) c q.2.1 (vS (vH q.2.2 hs) 1)) A' ((x, (vS (vH q.2.2 hs) 1, en, jb), js) :: G) T Ks P (some x) (nI t) rn XL FS VS OS' []))
theorem g_beg59 (hd : 5 ≤ d) (hc : c < kcC C) (hs2 : s < 2 ^ 31) {w0 : spW} : ∀ q i (w : spW) (F : spF) (A2 : Nat → Option Nat) (OS : List Nat) (h : mxH), i + q = (kRd (kcD C) c).length → AX A A2 (wO w0).length → (wO w0).length ≤ (wO w).length →
    CG C h s w A2 ((x, (F, en, jb), js) :: G) (y :: T) (hs :: Ks) P (some x) pl rn XL FS VS OS [] →
    mx_SX mY_X4_begin d 59 [(0, .ref 282), (1, .int (nI c)), (2, .int (nI t)), (3, .int (nI (kRd (kcD C) c).length)), (4, .int (nI i))] [] h (BgE C s w0 A x en jb js G y T hs Ks P pl rn XL FS VS c t (redOps ((kRd (kcD C) c).drop i) w F)) := by
  intro q
  induction q with
  | zero =>
    intro i w F A2 OS h hi ax lw g
    have l7 : (kRd (kcD C) c).length ≤ 700 := by have := (g.pg.2.2.2.2.1 c hc).2.1; omega
    refine b_X4_begin_59 282 _ _ _ _ ⟨fun _ => ?_, fun c => absurd ((nI_leI (by omega) (by omega)).mpr (by omega)) c⟩
    rw [List.drop_of_length_le (by omega)]
    exact ⟨rfl, A2, OS, ax, Or.inl ⟨rfl, g.sm (by omega)⟩⟩
  | succ q ih =>
    intro i w F A2 OS h hi ax lw g
    obtain ⟨pb, pd⟩ := g.pg
    have l7 : (kRd (kcD C) c).length ≤ 700 := by have := (pd.2.2.2.1 c hc).2.1; omega
    have il : i < (kRd (kcD C) c).length := by omega
    have k4 := sc_k282 g.sc
    rw [List.drop_eq_getElem_cons il]
    refine b_X4_begin_59 282 _ _ _ _ ⟨fun c => absurd c (nI_ge (by omega) (by omega)), fun _ => ⟨k4, kcG C, g.r9, by omega, pb.1, mx_xKI2 (p_redirectionAt (by omega) pb pd hc il) ⟨k4, (g_redirect (d := d - 1) (by omega) g hc il).mono ?_⟩⟩⟩
    unfold redOps
    rintro r h1 ⟨A3, OS3, ax3, m⟩
    rcases e : redOp (kRd (kcD C) c)[i] w F with _ | ⟨w1, F1⟩
    · rw [e] at m
      obtain ⟨rfl, g1⟩ := m
      refine Or.inl ⟨_, rfl, fun c => absurd rfl c, fun _ => ⟨sc_k282 g1.sc, (g_setBack (d := d - 1) (b := true) (by omega) g1).mono ?_⟩⟩
      rintro r h2 ⟨rfl, g2⟩
      obtain ⟨sx, hx⟩ := g2.sb
      refine Or.inl ⟨rfl, sc_k282 g2.sc, x, g2.r10, sx.k0, ?_⟩
      rintro _ rfl
      have g3 : CG C (hsI h2 x 6 1) s w A3 ((x, (vS (vH F hs) 1, en, jb), js) :: G) T Ks P (some x) pl rn XL FS VS OS3 [] := g2.st
      refine (g_record (d := d - 1) (by omega) g3 hc hs2).mono ?_
      rintro r h4 ⟨rfl, g4⟩
      refine Or.inl ⟨rfl, sc_k282 g4.sc, ?_⟩
      rintro _ rfl
      exact ⟨rfl, A3, OS3, ax.tr ax3 lw, Or.inr ⟨rfl, g4.sp⟩⟩
    · rw [e] at m
      obtain ⟨rfl, g1⟩ := m
      refine Or.inl ⟨_, rfl, fun _ => ?_, fun c => absurd c (by decide)⟩
      rw [nI_1]
      obtain ⟨⟨l, e1⟩, -⟩ := redOp_pre e
      exact ih (i + 1) w1 F1 A3 OS3 h1 (by omega) (ax.tr ax3 lw) (by rw [e1, List.length_append]; omega) g1
theorem g_begin {Fm : spF} {enm : Bool} {jbm : List spJ} {jsm : List Nat} {G2 : List cE} (hd : 6 ≤ d) (g : CG C h s w A ((x, (F, en, jb), js) :: G) T Ks P (some x) pl rn XL FS VS OS []) (hc : c < kcC C) (hs2 : s < 2 ^ 31) (ht : T.length < 2950) (hk : Ks.length ≤ wB w) (hp : ((x, (F, en, jb), js) :: G).Perm ((146, (Fm, enm, jbm), jsm) :: G2)) :
    mx_SM mY_X4_begin d [.ref 282, .int (nI c), .int (nI t)] h (fun r h1 => r = .inl none ∧ (wB w = 300 → CG C h1 (s + 1) (uX w true) A ((146, (vH Fm (kcF C), enm, jbm), jsm) :: G2) T Ks P (some x) pl 0 XL FS VS OS []) ∧
      (wB w ≠ 300 → kRd (kcD C) c = [] → CG C h1 (s + 1) (uB w (wB w + 1)) A ((x, (F, en, jb), js) :: G) T Ks P (some x) pl rn XL FS VS OS []) ∧
      (wB w ≠ 300 → kRd (kcD C) c ≠ [] → ∃ VS', BgE C s (uB w (wB w + 1)) A x en jb js G (1, 0, 0, 0) T (fH F) Ks P pl rn XL FS VS' c t (redOps (kRd (kcD C) c) (uB w (wB w + 1)) F) r h1)) := by
  have k4 := sc_k282 g.sc
  have cw := g.2.2.1.2.1
  obtain ⟨b1, b2, -⟩ := cw.2.2.2.1
  refine b_X4_begin 282 _ _ ⟨k4, 140, sc_r282_0 g.sc, (sc_w g.sc).k0, ?_⟩
  rw [b1]
  refine ⟨fun c3 => ?_, fun c3 => ⟨by omega, (g_stop (d := d - 1) (by omega) g hp).mono ?_⟩⟩
  · have b3 : wB w < 300 := (nI_ltI (b := 300) (by omega) (by omega)).mp c3
    rw [nI_1]
    rintro _ rfl
    have g1 := g.w0 (w' := uB w (wB w + 1)) (CW.bgn (n := wB w + 1) cw (by omega)) rfl rfl rfl (Nat.le_refl _)
    obtain ⟨pb, pd⟩ := g1.pg
    have l7 : (kRd (kcD C) c).length ≤ 700 := by have := (pd.2.2.2.1 c hc).2.1; omega
    refine ⟨kcG C, g1.r9, by omega, pb.1, mx_xKI2 (p_redirectionsOf (by omega) pb pd hc) ⟨fun c4 => ⟨sc_k282 g1.sc, (g_save (d := d - 1) (by omega) g1 ht (by omega)).mono ?_⟩, fun c4 => ?_⟩⟩
    · have ne : kRd (kcD C) c ≠ [] := fun e => c4 (by rw [e]; rfl)
      rintro r h2 ⟨rfl, VS', g2⟩
      obtain ⟨pb2, pd2⟩ := g2.pg
      refine Or.inl ⟨rfl, sc_k282 g2.sc, kcG C, g2.r9, pb2.1, mx_xKI2 (p_redirectionsOf (by omega) pb2 pd2 hc) ?_⟩
      have q := g_beg59 (A := A) (w0 := uB w (wB w + 1)) (t := t) (d := d) (by omega) hc hs2 (kRd (kcD C) c).length 0 (uB w (wB w + 1)) F A OS h2 (Nat.zero_add _) AX.rf (Nat.le_refl _) g2
      rw [List.drop_zero] at q
      exact q.mono (fun r h3 z => ⟨z.1, fun e => absurd e (by omega), fun _ e => absurd e ne, fun _ _ => ⟨VS', z⟩⟩)
    · have ne : kRd (kcD C) c = [] := List.length_eq_zero_iff.mp ((nI_eq (b := 0) (by omega) (by omega)).mp c4)
      exact ⟨rfl, fun e => absurd e (by omega), fun _ _ => g1.sm (by omega), fun _ e => absurd ne e⟩
  · have b3 : wB w = 300 := by
      rcases Nat.lt_or_ge (wB w) 300 with q | q
      · exact absurd (show nI (wB w) < nI 300 from nI_lt q (by omega)) c3
      · omega
    rintro r h1 ⟨rfl, g1⟩
    exact Or.inl ⟨rfl, rfl, fun _ => g1.sm (by omega), fun e => absurd b3 e, fun e => absurd b3 e⟩
/-- the end of a command -/
theorem g_finish (hd : 4 ≤ d) (hc : c < kcC C) (hs2 : s < 2 ^ 31) (g : CG C h s w A ((x, (F, en, jb), js) :: G) T Ks P (some x) pl rn XL FS VS OS []) (hr : kRd (kcD C) c ≠ [] → ∃ y T' hs Ks', T = y :: T' ∧ Ks = hs :: Ks') :
    mx_SM mY_X4_finish d [.ref 282, .int (nI c)] h (fun r h1 => r = .inl none ∧ (kRd (kcD C) c = [] → CG C h1 (s + 1) (pmRec (kcD C) c w F) A ((x, (F, en, jb), js) :: G) T Ks P (some x) pl rn XL FS VS OS []) ∧
      (kRd (kcD C) c ≠ [] → ∀ y T' hs Ks', T = y :: T' → Ks = hs :: Ks' → CG C h1 (s + 1) (pmRec (kcD C) c w (if kKd (kcD C) c = 6 ∧ kAr (kcD C) c = [] then F else vH F hs)) A ((x, (if kKd (kcD C) c = 6 ∧ kAr (kcD C) c = [] then F else vH F hs, en, jb), js) :: G) T' Ks' P (some x) pl rn XL FS VS OS [])) := by
  obtain ⟨pb, pd⟩ := g.pg
  have k4 := sc_k282 g.sc
  have l7 : (kRd (kcD C) c).length ≤ 700 := by have := (pd.2.2.2.1 c hc).2.1; omega
  have a7 : (kAr (kcD C) c).length ≤ 700 := by
    have q1 := (pd.2.2.1.2.2 c hc).2.1
    have q2 := pd.2.2.1.1
    omega
  refine b_X4_finish 282 _ ⟨k4, kcG C, g.r9, by omega, pb.1, mx_xKI2 (p_redirectionsOf (by omega) pb pd hc) ⟨fun c1 => ?_, fun c1 => ⟨k4, kcG C, g.r9, pb.1, mx_xKI2 (p_kindOf (by omega) pb pd hc) ?_⟩⟩⟩
  · have ne : kRd (kcD C) c = [] := List.length_eq_zero_iff.mp (by have := (nI_leI (b := 0) (by omega) (by omega)).mp c1; omega)
    refine b_X4_finish_54 282 _ ⟨by omega, k4, (g_record (d := d - 1) (by omega) g hc hs2).mono ?_⟩
    rintro r h1 ⟨rfl, g1⟩
    exact Or.inl ⟨rfl, rfl, fun _ => g1, fun c => absurd ne c⟩
  · have ne : kRd (kcD C) c ≠ [] := fun e => c1 (by rw [e]; exact (nI_leI (b := 0) (by decide) (by decide)).mpr (Nat.le_refl _))
    obtain ⟨y, T', hs, Ks', rfl, rfl⟩ := hr ne
    have fin : ∀ (h1 : mxH) (F1 : spF), F1 = (if kKd (kcD C) c = 6 ∧ kAr (kcD C) c = [] then F else vH F hs) → CG C h1 s w A ((x, (F1, en, jb), js) :: G) T' Ks' P (some x) pl rn XL FS VS OS [] → mx_SX mY_X4_finish d 54 [(0, .ref 282), (1, .int (nI c))] [] h1 (fun r h1 => r = .inl none ∧ (kRd (kcD C) c = [] → CG C h1 (s + 1) (pmRec (kcD C) c w F) A ((x, (F, en, jb), js) :: G) (y :: T') (hs :: Ks') P (some x) pl rn XL FS VS OS []) ∧
      (kRd (kcD C) c ≠ [] → ∀ y2 T2 hs2 Ks2, y :: T' = y2 :: T2 → hs :: Ks' = hs2 :: Ks2 → CG C h1 (s + 1) (pmRec (kcD C) c w (if kKd (kcD C) c = 6 ∧ kAr (kcD C) c = [] then F else vH F hs2)) A ((x, (if kKd (kcD C) c = 6 ∧ kAr (kcD C) c = [] then F else vH F hs2, en, jb), js) :: G) T2 Ks2 P (some x) pl rn XL FS VS OS [])) := by
      intro h1 F1 eF g1
      refine b_X4_finish_54 282 _ ⟨by omega, sc_k282 g1.sc, (g_record (d := d - 1) (by omega) g1 hc hs2).mono ?_⟩
      rintro r h1 ⟨rfl, g2⟩
      refine Or.inl ⟨rfl, rfl, fun c => absurd c ne, fun _ y2 T2 hs2 Ks2 e1 e2 => ?_⟩
      cases e1
      cases e2
      rw [← eF]; exact g2
    have back : ∀ b : Bool, mx_SM mY_X4_setBackHandles (d - 1) [.ref 282, .int (if b = true then 1 else 0)] h (fun r h1 => r = .inl none ∧ CG C h1 s w A ((x, (if b = true then vH F hs else F, en, jb), js) :: G) T' Ks' P (some x) pl rn XL FS VS OS []) := fun b => g_setBack (by omega) g
    have no : ¬ (kKd (kcD C) c = 6 ∧ kAr (kcD C) c = []) → mx_SX mY_X4_finish d 39 [(0, .ref 282), (1, .int (nI c))] [] h (fun r h1 => r = .inl none ∧ (kRd (kcD C) c = [] → CG C h1 (s + 1) (pmRec (kcD C) c w F) A ((x, (F, en, jb), js) :: G) (y :: T') (hs :: Ks') P (some x) pl rn XL FS VS OS []) ∧
      (kRd (kcD C) c ≠ [] → ∀ y2 T2 hs2 Ks2, y :: T' = y2 :: T2 → hs :: Ks' = hs2 :: Ks2 → CG C h1 (s + 1) (pmRec (kcD C) c w (if kKd (kcD C) c = 6 ∧ kAr (kcD C) c = [] then F else vH F hs2)) A ((x, (if kKd (kcD C) c = 6 ∧ kAr (kcD C) c = [] then F else vH F hs2, en, jb), js) :: G) T2 Ks2 P (some x) pl rn XL FS VS OS [])) := fun nc => by
      refine b_X4_finish_39 282 _ ⟨fun c => absurd rfl c, fun _ => ⟨by omega, k4, (back true).mono ?_⟩⟩
      rintro r h1 ⟨rfl, g1⟩
      exact Or.inl ⟨rfl, fin h1 (vH F hs) (by rw [if_neg nc]) g1⟩
    refine ⟨fun c2 => no (fun q => c2 q.1), fun c2 => ⟨k4, kcG C, g.r9, pb.1, mx_xKI2 (p_argumentsOf (by omega) pb pd hc) ⟨fun c3 => no (fun q => c3 (by rw [q.2]; rfl)), fun c3 => ⟨fun _ => ⟨k4, (back false).mono ?_⟩, fun c => absurd c (by decide)⟩⟩⟩⟩
    rintro r h1 ⟨rfl, g1⟩
    have na : kAr (kcD C) c = [] := List.length_eq_zero_iff.mp ((nI_eq (b := 0) (by omega) (by omega)).mp c3)
    exact Or.inl ⟨rfl, fin h1 F (by rw [if_pos ⟨c2, na⟩]) g1⟩
end MXBG
