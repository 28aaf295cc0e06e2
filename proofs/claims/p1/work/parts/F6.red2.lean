/-! Machine.redirect -/
section MXRD6
variable {C : cC} {h h1 h2 : mxH} {s s' d t k sl o : Nat} {w w' : spW} {A A' A2 : Nat → Option Nat} {G : List cE} {T : List cT} {Ks : List spH} {P : cP} {cur : Option Nat} {pl rn : Int32} {XL FS VS OS inh inh' RS : List Nat} {D : pmC} {e : cE} {x : Nat} {fh hs : spH} {F F' : spF} {en en' : Bool} {jb : List spJ} {js : List Nat} {p : Nat → Prop} {a b c v : Int32} {ln : Int32 → spL → Prop}
theorem CG.ixF (g : CG C h s w A G T Ks P cur pl rn XL FS VS OS inh) (n : Int64) : mx_ix (hpL h 141) n (wF w).length 0 = ixI (tbF (wF w) n) := ix_tbF (fun j hj => (g.2.2.1.2.1.1.2.2 j hj).1)
theorem g_findOrMake {n : Int64} (hd : 1 ≤ d) (g : CG C h s w A ((x, (F, en, jb), js) :: G) T Ks P cur pl rn XL FS VS OS inh) :
    mx_SM mY_X10_findOrMake d [.ref 140, .long n] h (fun r h1 => match mkF w n with
      | none => r = .inl (some (.int (-1))) ∧ h1 = h
      | some (i, w1) => r = .inl (some (.int (nI i))) ∧ i < (wF w1).length ∧ wO w1 = wO w ∧ CG C h1 s w1 A ((x, (F, en, jb), js) :: G) T Ks P cur pl rn XL FS VS OS inh) := by
  have cw := g.2.2.1.2.1
  have sw := sc_w g.sc
  have ix := g.ixF n
  unfold mkF
  rcases e : tbF (wF w) n with _ | i
  · rw [e] at ix
    by_cases c : 8 ≤ (wF w).length
    · simp only [if_pos c]
      have e8 : (wF w).length = 8 := by have := cw.1.2.1; omega
      rw [e8] at ix
      refine (k_X10_findOrMake_no hd sw (by rw [cw.1.1, e8]) ix).mono ?_
      rintro r _ ⟨rfl, rfl⟩
      exact ⟨rfl, rfl⟩
    · simp only [if_neg c]
      refine (k_X10_findOrMake_new hd sw cw.1.1 (by omega) ix).mono ?_
      rintro r _ ⟨rfl, rfl⟩
      refine ⟨rfl, by show _ < (wF w ++ [(n, [])]).length; rw [List.length_append]; exact Nat.lt_succ_self _, trivial, g.wI (w' := uF w (wF w ++ [(n, [])])) (ExL.I (ExL.I (ExL.L ExL.rf rfl) (Or.inl (by decide))) (Or.inl (by decide))) ?_ rfl rfl rfl (by show _ ≤ (wF w ++ [(n, [])]).length; rw [List.length_append]; omega)⟩
      have q := CW.mkf (k := n) cw (by omega)
      have el : CLn (wo_make h 140 (wF w).length n) = CLn h := CLn_cg (fun b g1 g2 => by
        unfold wo_make
        funext j
        rw [hpI_sIn (by omega), hpI_sIn (by omega)]; rfl)
      have r : ∀ b, b ≠ 140 → b ≠ 142 → hpI (wo_make h 140 (wF w).length n) b = hpI h b := fun b h1 h2 => by
        unfold wo_make
        funext j
        rw [hpI_sIn h1, hpI_sIn h2]; rfl
      show CW (CLn (wo_make h 140 (wF w).length n)) (hpI (wo_make h 140 (wF w).length n) 140) (hpI (wo_make h 140 (wF w).length n) 142) (hpI (wo_make h 140 (wF w).length n) 143) (hpI (wo_make h 140 (wF w).length n) 144) (hpI (wo_make h 140 (wF w).length n) 145) (hpI (wo_make h 140 (wF w).length n) 159) (hpL (wo_make h 140 (wF w).length n) 141) s _
      rw [el, r 143 (by decide) (by decide), r 144 (by decide) (by decide), r 145 (by decide) (by decide), r 159 (by decide) (by decide)]
      have e0 : hpI (wo_make h 140 (wF w).length n) 140 = fup (hpI h 140) 3 (nI ((wF w).length + 1)) := by
        unfold wo_make
        rw [hpI_sIe]
        congr 1
      have e2 : hpI (wo_make h 140 (wF w).length n) 142 = fup (hpI h 142) (wF w).length 0 := by
        unfold wo_make
        rw [show hpI (hsI (hsI (hsL h (140 + 1) (wF w).length n) (140 + 2) (wF w).length 0) 140 3 (nI ((wF w).length + 1))) 142 = hpI (hsI (hsL h (140 + 1) (wF w).length n) (140 + 2) (wF w).length 0) 142 by funext j; rw [hpI_sIn (by decide)]]
        exact hpI_sIe
      have e1 : hpL (wo_make h 140 (wF w).length n) 141 = fup (hpL h 141) (wF w).length n := by
        unfold wo_make
        show (if 141 = 140 + 1 then fup (hpL h (140 + 1)) (wF w).length n else hpL h 141) = _
        rw [if_pos rfl]
      rw [e0, e1, e2]
      exact q
  · rw [e] at ix
    simp only []
    have il : i < (wF w).length := (List.findIdx?_eq_some_iff_findIdx_eq.mp e).1
    refine (k_X10_findOrMake_old hd sw cw.1.1 cw.1.2.1 ix (by have := cw.1.2.1; omega)).mono ?_
    rintro r _ ⟨rfl, rfl⟩
    exact ⟨rfl, il, trivial, g⟩
theorem k_X10_loseLines_no : mx_SM mY_X10_loseLines d [.ref 140, .int (-1)] h (mx_xct (.inl none) h) :=
  b_X10_loseLines 140 _ ⟨fun _ => ⟨rfl, rfl⟩, fun c => absurd (by decide) c⟩
theorem CG.lose {i : Nat} (g : CG C h s w A ((x, (F, en, jb), js) :: G) T Ks P cur pl rn XL FS VS OS inh) (hi : i < (wF w).length) : CG C (hsI h 142 i 0) s (setF w i []) A ((x, (F, en, jb), js) :: G) T Ks P cur pl rn XL FS VS OS inh := by
  have cw := g.2.2.1.2.1
  refine g.wI (w' := setF w i []) (ExL.rf.I (Or.inl (by decide))) ?_ rfl rfl rfl (by show _ ≤ ((wF w).set i _).length; rw [List.length_set]; exact Nat.le_refl _)
  have r : ∀ b, b ≠ 142 → hpI (hsI h 142 i 0) b = hpI h b := fun b h1 => by funext j; rw [hpI_sIn h1]
  show CW (CLn (hsI h 142 i 0)) (hpI (hsI h 142 i 0) 140) (hpI (hsI h 142 i 0) 142) (hpI (hsI h 142 i 0) 143) (hpI (hsI h 142 i 0) 144) (hpI (hsI h 142 i 0) 145) (hpI (hsI h 142 i 0) 159) (hpL (hsI h 142 i 0) 141) s _
  rw [CLn_cg (h := h) (fun b g1 g2 => r b (by omega)), r 140 (by decide), r 143 (by decide), r 144 (by decide), r 145 (by decide), r 159 (by decide), hpI_sIe]
  exact CW.stf cw hi fup_e (by decide) (fun k hk => absurd hk (Nat.not_lt_zero _)) (fun j hj => fup_n hj) (fun k hk => rfl)
theorem lN_10 : ∀ k, k < 10 → (lN k).toInt32 = nI k ∧ (lN k).toNatClampNeg = k := by decide
theorem g_redirect {c i : Nat} (hd : 4 ≤ d) (g : CG C h s w A ((x, (F, en, jb), js) :: G) T Ks P (some x) pl rn XL FS VS OS []) (hc : c < kcC C) (hi : i < (kRd (kcD C) c).length) :
    mx_SM mY_X4_redirect d [.ref 282, .int (nI (kcd C c + i))] h (RdE C s w A x F en jb js G T Ks P pl rn XL FS VS (redOp (kRd (kcD C) c)[i] w F)) := by
  obtain ⟨pb, pd⟩ := g.pg
  obtain ⟨sx, hx⟩ := g.sb
  have k4 := sc_k282 g.sc
  have hh := ((pd.2.2.2.1 c hc).2.2.2 i hi).2.2.1
  have h4 := ((pd.2.2.2.1 c hc).2.2.2 i hi).2.1
  have cw := g.2.2.1.2.1
  have n3 := g.k0.2.2.2.2.2.2.2.1 c hc _ (List.getElem_mem hi)
  refine b_X4_redirect 282 _ ⟨k4, kcG C, g.r9, by omega, pb.1, mx_xKI2 (p_redirectedHandle pb pd hc hi) ⟨k4, kcG C, g.r9, pb.1, mx_xKL2 (p_redirectionName pb pd hc hi) ⟨k4, kcG C, g.r9, pb.1, mx_xKI2 (p_redirectionKind pb pd hc hi) ?_⟩⟩⟩
  generalize (kRd (kcD C) c)[i] = r at hh h4 n3 ⊢
  obtain ⟨kd, hn, nm⟩ := r
  simp only at hh h4 n3 ⊢
  rw [nI_ti (show kd < 2 ^ 31 by omega)]
  have op : ∀ (i m : Nat) (w1 : spW) (h1 : mxH), (m = 2 ∨ m = 3 ∨ m = 4) → i < (wF w1).length → wO w1 = wO w → CG C h1 s w1 A ((x, (F, en, jb), js) :: G) T Ks P (some x) pl rn XL FS VS OS [] →
      mx_SM mY_X4_openFile (d - 1) [.ref 282, .int (nI hn), .int (nI m), .int (nI i)] h1 (mx_KI (fun v2 h2 => (v2 = 0 ∨ v2 = 1) ∧ RdE C s w A x F en jb js G T Ks P pl rn XL FS VS (some ((opn w1 m i).2, vH F (fup (fH F) hn (some (opn w1 m i).1)))) (.inl (some (.int v2))) h2) (mx_XX mY_X4_redirect (RdE C s w A x F en jb js G T Ks P pl rn XL FS VS (some ((opn w1 m i).2, vH F (fup (fH F) hn (some (opn w1 m i).1))))))) := by
    intro i m w1 h1 hm hi hO g1
    refine (g_openFile (by omega) hh hm hi g1).mono ?_
    rintro r h2 ⟨rfl, A', OS', ax, g2⟩
    rw [hO] at ax
    exact Or.inl ⟨_, rfl, Or.inr rfl, A', OS', ax, rfl, g2⟩
  have no : ∀ (m : Int32), mx_SM mY_X4_openFile (d - 1) [.ref 282, .int (nI hn), .int m, .int (-1)] h (mx_KI (fun v2 h2 => (v2 = 0 ∨ v2 = 1) ∧ RdE C s w A x F en jb js G T Ks P pl rn XL FS VS none (.inl (some (.int v2))) h2) (mx_XX mY_X4_redirect (RdE C s w A x F en jb js G T Ks P pl rn XL FS VS none))) := fun m =>
    mx_xKI2 g_openFile_no ⟨Or.inl rfl, A, OS, AX.rf, rfl, g⟩
  refine ⟨fun c => ?_, fun c => ?_, fun c => ?_, fun c => ?_, fun c => ?_⟩
  · have e4 : kd = 4 := by omega
    subst e4
    refine b_X4_redirect_132 282 _ ⟨k4, x, g.r10, sx.k0, x + 8, sx.r0_3, by omega, sx.k8, (g_put (d := d - 1) (new := none) hh g (Or.inl rfl) (fun b e => nomatch e) (fun b e => nomatch e) none (Or.inl ⟨rfl, rfl⟩)).mono ?_⟩
    rintro r h1 ⟨rfl, g1⟩
    exact Or.inl ⟨rfl, A, OS, AX.rf, rfl, g1⟩
  · have e4 : kd = 0 := by omega
    subst e4
    have ix := g.ixF nm
    refine b_X4_redirect_56 282 _ _ ⟨k4, 140, sc_r282_0 g.sc, by omega, (sc_w g.sc).k0, mx_xKI2 (k_X10_findFile (sc_w g.sc) cw.1.1 cw.1.2.1) ⟨k4, ?_⟩⟩
    rw [ix]
    unfold redOp
    rw [if_pos rfl]
    rcases e : tbF (wF w) nm with _ | i
    · exact no 2
    · exact op i 2 w h (Or.inl rfl) (List.findIdx?_eq_some_iff_findIdx_eq.mp e).1 rfl g
  · have e4 : kd = 1 := by omega
    subst e4
    refine b_X4_redirect_71 282 _ _ ⟨k4, 140, sc_r282_0 g.sc, by omega, (sc_w g.sc).k0, (g_findOrMake (n := nm) (by omega) g).mono ?_⟩
    unfold redOp
    rw [if_neg (fun c => nomatch c), if_pos rfl]
    rcases e : mkF w nm with _ | ⟨i, w1⟩
    · rintro r h1 ⟨rfl, rfl⟩
      exact Or.inl ⟨_, rfl, k4, 140, sc_r282_0 g.sc, (sc_w g.sc).k0, mx_xKV k_X10_loseLines_no ⟨k4, no 3⟩⟩
    · rintro r h1 ⟨rfl, il, eO, g1⟩
      have i8 : i < 8 := by have := g1.2.2.1.2.1.1.2.1; omega
      refine Or.inl ⟨_, rfl, sc_k282 g1.sc, 140, sc_r282_0 g1.sc, (sc_w g1.sc).k0, mx_xKV (k_X10_loseLines (sc_w g1.sc) i8) ⟨sc_k282 g1.sc, ?_⟩⟩
      exact op i 3 (setF w1 i []) _ (Or.inr (Or.inl rfl)) (by show i < ((wF w1).set i _).length; rw [List.length_set]; exact il) eO (g1.lose il)
  · have e4 : kd = 2 := by omega
    subst e4
    refine b_X4_redirect_99 282 _ _ ⟨k4, 140, sc_r282_0 g.sc, by omega, (sc_w g.sc).k0, (g_findOrMake (n := nm) (by omega) g).mono ?_⟩
    unfold redOp
    rw [if_neg (fun c => nomatch c), if_neg (fun c => nomatch c), if_pos rfl]
    rcases e : mkF w nm with _ | ⟨i, w1⟩
    · rintro r h1 ⟨rfl, rfl⟩
      exact Or.inl ⟨_, rfl, k4, no 4⟩
    · rintro r h1 ⟨rfl, il, eO, g1⟩
      exact Or.inl ⟨_, rfl, sc_k282 g1.sc, op i 4 w1 _ (Or.inr (Or.inr rfl)) il eO g1⟩
  · have e4 : kd = 3 := by omega
    subst e4
    obtain ⟨k, hk, rfl⟩ := n3 rfl
    obtain ⟨l1, l2⟩ := lN_10 k hk
    have oi := g.2.2.2.1
    have row := (oi.2.2.1 (x + 9) g.mx).2.2 k hk
    refine b_X4_redirect_114 282 _ _ ⟨k4, x, g.r10, sx.k0, x + 8, sx.r0_3, by omega, sx.k8, ?_⟩
    rw [l1]
    refine mx_xKR (k_X2_at (sx.hd (sc_k135 g.sc)) hk (fun b e => (row b e).1)) ⟨k4, ?_⟩
    unfold redOp
    rw [if_neg (fun c => nomatch c), if_neg (fun c => nomatch c), if_neg (fun c => nomatch c), if_pos rfl]
    simp only [l2]
    refine (g_share (by omega) hh g (g.ch k hk) (fun b e c => ?_)).mono ?_
    · have := rcnt_pos (cRS XL VS) g.mx hk e
      omega
    · rintro r h1 q
      rcases e : fH F k with _ | o
      · rw [e] at q
        obtain ⟨A', OS', ax, rfl, g1⟩ := q
        exact Or.inl ⟨_, rfl, Or.inl rfl, A', OS', ax, rfl, g1⟩
      · rw [e] at q
        obtain ⟨A', OS', ax, rfl, g1⟩ := q
        exact Or.inl ⟨_, rfl, Or.inr rfl, A', OS', ax, rfl, g1⟩
end MXRD6
