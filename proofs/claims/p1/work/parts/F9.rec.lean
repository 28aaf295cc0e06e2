/-! The world's numbers; Machine.record, stop -/
section MXRC
variable {C : cC} {h h1 h2 : mxH} {s s' d t k sl o v c : Nat} {w w' : spW} {A A' A2 : Nat → Option Nat} {G G' : List cE} {T : List cT} {Ks : List spH} {P : cP} {cur : Option Nat} {pl rn : Int32} {XL FS VS OS inh inh' RS RS' : List Nat} {D : pmC} {e : cE} {x : Nat} {fh hs : spH} {F F' : spF} {en en' : Bool} {jb : List spJ} {js : List Nat} {l : List spH} {y : cT} {ln : Int32 → spL → Prop} {f0 f2 f3 f4 f5 f9 : Nat → Int32} {g1 : Nat → Int64}
theorem CW.bgn {n : Nat} (c : CW ln f0 f2 f3 f4 f5 f9 g1 s w) (hn : n ≤ 300) : CW ln (fup f0 11 (nI n)) f2 f3 f4 f5 f9 g1 s (uB w n) := by
  obtain ⟨a, b, c, d, t⟩ := c
  refine ⟨?_, ?_, ?_, ?_, ?_⟩
  · rw [fup_n (by decide)]; exact a
  · rw [fup_n (by decide)]; exact b
  · rw [fup_n (by decide)]; exact c
  · rw [fup_e, fup_n (by decide), fup_n (by decide)]; exact ⟨rfl, hn, d.2.2⟩
  · rw [fup_n (by decide)]; exact t
theorem CW.frk {n : Nat} (c : CW ln f0 f2 f3 f4 f5 f9 g1 s w) : CW ln (fup f0 12 (nI n)) f2 f3 f4 f5 f9 g1 s (uK w n) := by
  obtain ⟨a, b, c, d, t⟩ := c
  refine ⟨?_, ?_, ?_, ?_, ?_⟩
  · rw [fup_n (by decide)]; exact a
  · rw [fup_n (by decide)]; exact b
  · rw [fup_n (by decide)]; exact c
  · rw [fup_e, fup_n (by decide), fup_n (by decide)]; exact ⟨d.1, d.2.1, rfl, d.2.2.2⟩
  · rw [fup_n (by decide)]; exact t
theorem CW.stp {b : Bool} (c : CW ln f0 f2 f3 f4 f5 f9 g1 s w) : CW ln (fup f0 13 (if b = true then 1 else 0)) f2 f3 f4 f5 f9 g1 s (uX w b) := by
  obtain ⟨a, b, c, d, t⟩ := c
  refine ⟨?_, ?_, ?_, ?_, ?_⟩
  · rw [fup_n (by decide)]; exact a
  · rw [fup_n (by decide)]; exact b
  · rw [fup_n (by decide)]; exact c
  · rw [fup_e, fup_n (by decide), fup_n (by decide)]; exact ⟨d.1, d.2.1, d.2.2.1, rfl⟩
  · rw [fup_n (by decide)]; exact t
theorem CG.w0 {k : Nat} {v : Int32} (g : CG C h s w A ((x, (F, en, jb), js) :: G) T Ks P cur pl rn XL FS VS OS inh) (cw : CW (CLn h) (fup (hpI h 140) k v) (hpI h 142) (hpI h 143) (hpI h 144) (hpI h 145) (hpI h 159) (hpL h 141) s w') (eM : wM w' = wM w) (eO : wO w' = wO w) (eU : wU w' = wU w) (lF : (wF w).length ≤ (wF w').length) : CG C (hsI h 140 k v) s w' A ((x, (F, en, jb), js) :: G) T Ks P cur pl rn XL FS VS OS inh := by
  refine g.wI (ExL.rf.I (Or.inl (by decide))) ?_ eM eO eU lF
  have r : ∀ b, b ≠ 140 → hpI (hsI h 140 k v) b = hpI h b := fun b h1 => by funext j; rw [hpI_sIn h1]
  show CW (CLn (hsI h 140 k v)) (hpI (hsI h 140 k v) 140) (hpI (hsI h 140 k v) 142) (hpI (hsI h 140 k v) 143) (hpI (hsI h 140 k v) 144) (hpI (hsI h 140 k v) 145) (hpI (hsI h 140 k v) 159) (hpL (hsI h 140 k v) 141) s _
  rw [CLn_cg (h := h) (fun b g1 g2 => r b (by omega)), hpI_sIe, r 142 (by decide), r 143 (by decide), r 144 (by decide), r 145 (by decide), r 159 (by decide)]
  exact cw
theorem CW.sm (c : CW ln f0 f2 f3 f4 f5 f9 g1 s w) (hs : s ≤ s') : CW ln f0 f2 f3 f4 f5 f9 g1 s' w := by
  obtain ⟨a, b, c, d, n, t1, t2, t3⟩ := c
  exact ⟨a, b, c, d, n, t1, by omega, t3⟩
theorem CG.sm (g : CG C h s w A G T Ks P cur pl rn XL FS VS OS inh) (hs : s ≤ s') : CG C h s' w A G T Ks P cur pl rn XL FS VS OS inh := by
  obtain ⟨k0, fc, ⟨w1, w2, w3⟩, r⟩ := g
  exact ⟨k0, fc, ⟨w1, CW.sm w2 hs, w3⟩, r⟩
theorem CG.pm (g : CG C h s w A G T Ks P cur pl rn XL FS VS OS inh) (p : G.Perm G') : CG C h s w A G' T Ks P cur pl rn XL FS VS OS inh := by
  obtain ⟨k0, fc, wc, oi, cu, ⟨s1, s2, s3, s4, s5, s6⟩, cgp, r⟩ := g
  have p2 : (G.map (fun e => e.1) ++ FS).Perm (G'.map (fun e => e.1) ++ FS) := (p.map _).append_right FS
  exact ⟨k0, fc, wc, oi, cu, ⟨fun e he => s1 e (p.mem_iff.mpr he), p2.nodup_iff.mp s2, fun x => (s3 x).trans p2.mem_iff, s4, s5, s6⟩, fun e he => cgp e (p.mem_iff.mpr he), r⟩
theorem g_record (hd : 2 ≤ d) (g : CG C h s w A ((x, (F, en, jb), js) :: G) T Ks P (some x) pl rn XL FS VS OS []) (hc : c < kcC C) (hs : s < 2 ^ 31) : mx_SM mY_X4_record d [.ref 282, .int (nI c)] h (fun r h1 => r = .inl none ∧ CG C h1 (s + 1) (pmRec (kcD C) c w F) A ((x, (F, en, jb), js) :: G) T Ks P (some x) pl rn XL FS VS OS []) := by
  obtain ⟨pb, pd⟩ := g.pg
  obtain ⟨sx, hx⟩ := g.sb
  have k4 := sc_k282 g.sc
  have cf := g.cf
  have cw := g.2.2.1.2.1
  refine b_X4_record 282 _ ⟨k4, kcG C, g.r9, by omega, pb.1, mx_xKI2 (p_kindOf (by omega) pb pd hc) ⟨fun e => ?_, fun e => ⟨k4, 140, sc_r282_0 g.sc, kcG C, g.r9, pb.1, mx_xKI2 (p_offsetOf (by omega) pb pd hc) ⟨k4, x, g.r10, sx.k0, (sc_w g.sc).k0, ?_⟩⟩⟩⟩
  · refine ⟨rfl, ?_⟩
    unfold pmRec
    rw [if_pos e]
    exact g.sm (by omega)
  · have e6 : hpI h x 6 = fS F := cf.2.2.2.2.2.1
    have e7 : hpI h x 7 = fD F := cf.2.2.2.2.2.2.1
    rw [e6, e7]
    obtain ⟨n, n1, n2, n3, n4⟩ := cw.2.2.2.2
    refine mx_xKV (k_X10_addRecord (sc_w g.sc) n1 (by omega)) ⟨rfl, ?_⟩
    unfold pmRec
    rw [if_neg e]
    have q := CW.rec (r := (kOf (kcD C) c, fS F, fD F)) cw n1 (by omega) hs
    have ex : ExI (fun b => (140 ≤ b ∧ b ≤ 145 ∧ b ≠ 141) ∨ b = 159) h (wo_rec h 140 n (kOf (kcD C) c) (fS F) (fD F)) := (ExI.rf.rI (Or.inr rfl)).I (Or.inl (by decide))
    refine g.wI (w' := uT w (rec60 (wT w) (kOf (kcD C) c, fS F, fD F))) ex.toL ?_ rfl rfl rfl (Nat.le_refl _)
    have r : ∀ b, b ≠ 140 → b ≠ 159 → hpI (wo_rec h 140 n (kOf (kcD C) c) (fS F) (fD F)) b = hpI h b := fun b h1 h2 => by
      unfold wo_rec
      funext j
      rw [hpI_sIn h1, hpI_rI, if_neg h2]
    have r0 : hpI (wo_rec h 140 n (kOf (kcD C) c) (fS F) (fD F)) 140 = fup (hpI h 140) 10 (nI (n + 1)) := by
      unfold wo_rec
      rw [hpI_sIe, hpI_rI, if_neg (by decide)]
    have r9 : hpI (wo_rec h 140 n (kOf (kcD C) c) (fS F) (fD F)) 159 = fup (fup (fup (hpI h 159) (3 * (n % 60)) (kOf (kcD C) c)) (3 * (n % 60) + 1) (fS F)) (3 * (n % 60) + 2) (fD F) := by
      unfold wo_rec
      funext j
      rw [hpI_sIn (by decide), hpI_rI, if_pos rfl]
    show CW (CLn (wo_rec h 140 n (kOf (kcD C) c) (fS F) (fD F))) (hpI (wo_rec h 140 n (kOf (kcD C) c) (fS F) (fD F)) 140) (hpI (wo_rec h 140 n (kOf (kcD C) c) (fS F) (fD F)) 142) (hpI (wo_rec h 140 n (kOf (kcD C) c) (fS F) (fD F)) 143) (hpI (wo_rec h 140 n (kOf (kcD C) c) (fS F) (fD F)) 144) (hpI (wo_rec h 140 n (kOf (kcD C) c) (fS F) (fD F)) 145) (hpI (wo_rec h 140 n (kOf (kcD C) c) (fS F) (fD F)) 159) (hpL h 141) (s + 1) _
    rw [CLn_cg (h := h) (fun b g1 g2 => r b (by omega) (by omega)), r0, r9, r 142 (by decide) (by decide), r 143 (by decide) (by decide), r 144 (by decide) (by decide), r 145 (by decide) (by decide)]
    exact q
theorem g_stop {Fm : spF} {enm : Bool} {jbm : List spJ} {jsm : List Nat} {G2 : List cE} (hd : 2 ≤ d) (g : CG C h s w A G T Ks P cur pl rn XL FS VS OS []) (hp : G.Perm ((146, (Fm, enm, jbm), jsm) :: G2)) : mx_SM mY_X4_stop d [.ref 282] h (fun r h1 => r = .inl none ∧ CG C h1 s (uX w true) A ((146, (vH Fm (kcF C), enm, jbm), jsm) :: G2) T Ks P cur pl 0 XL FS VS OS []) := by
  have k4 := sc_k282 g.sc
  have g0 := g.pm hp
  have g1 := g0.w0 (w' := uX w true) (CW.stp (b := true) g.2.2.1.2.1) rfl rfl rfl (Nat.le_refl _)
  have g1 : CG C (hsI h 140 13 1) s (uX w true) A ((146, (Fm, enm, jbm), jsm) :: G2) T Ks P cur pl rn XL FS VS OS [] := g1
  obtain ⟨sx, hx⟩ := g1.sb
  have h288 : (288 : Nat) ∈ cRS XL VS := by unfold cRS; simp
  have hd2 : hd_at (hsI h 140 13 1) 287 135 288 := ⟨sc_k287 g1.sc, sc_r287_0 g1.sc, sc_r287_1 g1.sc, sc_k135 g1.sc, sc_k288 g1.sc, sc_z288 g1.sc⟩
  refine b_X4_stop 282 ⟨k4, 140, sc_r282_0 g.sc, (sc_w g.sc).k0, ?_⟩
  rintro _ rfl
  refine ⟨140, sc_r282_0 g1.sc, (sc_w g1.sc).k0, 146, (sc_w g1.sc).r8, sx.k0, 146 + 8, sx.r0_3, 287, sc_r282_7 g1.sc, by omega, sx.k8, (c_X2_copyFrom (by omega) g1.2.2.2.1 (sx.hd (sc_k135 g1.sc)) hd2 (by decide) g1.mx h288).mono ?_⟩
  rintro r h2 (⟨rfl, oi, fr, row⟩ | ⟨_, _, q⟩)
  · have g2 := g1.row (hs := kcF C) oi fr (Or.inl rfl) (fun a ha ne k hk => by rw [row a ha k hk, if_neg ne]) (fun k hk => by rw [row (146 + 9) g1.mx k hk, if_pos rfl]; exact g1.2.2.2.2.2.2.2.1.2.2.2.2.2.2.2 k hk)
    refine Or.inl ⟨rfl, sc_k282 g2.sc, ?_⟩
    rintro _ rfl
    exact ⟨rfl, g2.sr⟩
  · exact q.elim
end MXRC
