section MXF2
variable {C : cC} {h h1 h2 h6 : mxH} {s s' d t k sl o v c i p : Nat} {w w' : spW} {A A' A2 : Nat → Option Nat} {G G' : List cE} {T : List cT} {Ks : List spH} {P : cP} {cur : Option Nat} {pl rn : Int32} {XL XL' FS FS' VS OS inh inh' RS RS' : List Nat} {D : pmC} {e : cE} {x y : Nat} {fh hs : spH} {F F1 : spF} {en en' : Bool} {jb : List spJ} {js jl : List Nat} {l : List spH}
/-- the end of a fork -/
def FkE (C : cC) (s : Nat) (w : spW) (A : Nat → Option Nat) (x : Nat) (F : spF) (en : Bool) (jb : List spJ) (js : List Nat) (G : List cE) (T : List cT) (Ks : List spH) (P : cP) (pl rn : Int32) (VS OS : List Nat) (r : mxRes) (h1 : mxH) : Prop :=
  ∃ y XL' FS' v11, r = .inl (some (va_rf (some y))) ∧ 365 ≤ y ∧ CG C h1 s (frk w) A ((y, (subF F, false, []), []) :: (x, (F, en, jb), js) :: G) T Ks (fup P y (none, 0, v11)) (some x) pl rn XL' FS' VS OS []
theorem g_fork32 (hd : 3 ≤ d) (g : CG C h s w A ((x, (F, en, jb), js) :: G) T Ks P (some x) pl rn XL FS VS OS []) (fp2 : FP h h2) (same : ∀ a, a < hpN h → hpI h2 a = hpI h a ∧ hpL h2 a = hpL h a) (sameR : ∀ a k, a < hpN h → (a ≠ 282 ∨ k ≠ 8) → hpR h2 a k = hpR h a k)
    (sy2 : SB h2 y) (yx : 365 ≤ y) (oi2 : OI h2 (cRS XL' VS) []) (sub : ∀ a ∈ cRS XL VS, a ∈ cRS XL' VS) (nY : ((y :: x :: G.map (fun e => e.1)) ++ FS').Nodup) (iX : ∀ z, z ∈ XL' ↔ z ∈ (y :: x :: G.map (fun e => e.1)) ++ FS') (ap : aparT XL') (sbX : ∀ z ∈ XL', SB h2 z ∧ (z = 146 ∨ 365 ≤ z))
    (cfs : CFs (hpR h2) (hpR h2 282 8) FS') (cn : CN (kcH C) h2 XL' VS OS (cRS XL' VS) []) :
    mx_SX mY_X4_fork d 32 [(0, .ref 282), (1, va_rf (some y))] [] h2 (FkE C s w A x F en jb js G T Ks P pl rn VS OS) := by
  have s2 := g.sc.fp fp2
  obtain ⟨sx, hx⟩ := g.sb
  have sx2 := sx.fp fp2
  have N := g.sc.1
  have zx := sx.1
  have my : y ∈ XL' := (iX y).mpr (by simp)
  have mx : x ∈ XL' := (iX x).mpr (by simp)
  have nxy : x ≠ y := fun c => by
    rw [List.cons_append] at nY
    exact (List.nodup_cons.mp nY).1 (by rw [← c]; exact List.mem_append_left _ List.mem_cons_self)
  have mem : ∀ z ∈ XL', z + 9 ∈ cRS XL' VS := fun z hz => by unfold cRS; exact List.mem_append_left _ (List.mem_map.mpr ⟨z, hz, rfl⟩)
  have el : CLn h2 = CLn h := CLn_cg (fun b q1 q2 => (same b (by omega)).1)
  have cf2 : CF (kcD C) (CLn h) h2 x F := g.cf.cg (fun i hi => (same (x + i) (by omega)).1) (fun i hi => (same (x + i) (by omega)).2) (fun v l c => c)
  have kR : ∀ k, k ≠ 8 → hpR h2 282 k = hpR h 282 k := fun k hk => sameR 282 k (by omega) (Or.inr hk)
  refine b_X4_fork_32 282 _ ⟨sc_k282 s2, x, by rw [kR 10 (by decide)]; exact g.r10, y, rfl, by omega, sy2.k0, (k_X8_inheritFrom (d := d - 1) (by omega) (sc_k135 s2) sy2 sx2 (ap.at my mx (fun c => nxy c.symm)) oi2 (mem y my) (mem x mx) cf2).mono ?_⟩
  rintro r h6 ⟨rfl, fi, fp6, oi6, row, cfy, y10, y12, y13, y14⟩
  obtain ⟨iN, iC, iS, iK, iZ, iI, iL, iR⟩ := fi
  have K2 : ∀ a, a < hpN h → hpK h2 a = hpK h a := fun a ha => (fp2.2 a ha).1
  have apz : ∀ z ∈ XL', z ≠ y → ¬ blk y z := fun z hz ne c => by
    have := ap.at my hz (fun c => ne c.symm)
    have := c.1
    have := c.2
    omega
  have nFS : ∀ z ∈ FS', z ≠ y ∧ z ∈ XL' := fun z hz => by
    refine ⟨fun c => ?_, (iX z).mpr (List.mem_append_right _ hz)⟩
    rw [List.cons_append] at nY
    exact (List.nodup_cons.mp nY).1 (by rw [← c]; exact List.mem_append_right _ hz)
  have g6 := g.fk (h6 := h6) (y := y) (XL' := XL') (FS' := FS') (fp2.tr fp6) (fun a k ha nb hk => by rw [iI a k nb (by rw [K2 a ha]; exact hk), (same a ha).1]) (fun a ha nb => by rw [iL a nb, (same a ha).2]) (fun a k ha nb h18 h5 h135 h282 => by rw [iR a k nb (by rw [K2 a ha]; exact h18) (by rw [K2 a ha]; exact h5) h135, sameR a k ha h282])
    oi6 (fun a ha ne k hk => by
      have la := (g.2.2.2.1.2.2.1 a ha).1
      rw [row a (sub a ha) k hk, if_neg ne, sameR a k la.1 (Or.inl (fun c => by
        have := la.2
        rw [c, sc_k282 g.sc] at this
        exact absurd this (by decide)))]) (fun k hk => by rw [row (y + 9) (mem y my) k hk, if_pos rfl, sameR (x + 9) k (by omega) (Or.inl (by omega))])
    (sy2.fp fp6) yx cfy y10 y12 y13 y14 nY iX ap (fun z hz => ⟨(sbX z hz).1.fp fp6, (sbX z hz).2⟩)
    (by
      have nb : ¬ blk y 282 := fun c => by have := c.1; omega
      rw [iR 282 8 nb (by rw [sc_k282 s2]; decide) (Or.inl (by rw [sc_k282 s2]; decide)) (Or.inl (by decide))]
      refine cfs.cg (fun z hz => ?_)
      have q := nFS z hz
      have sz := (sbX z q.2).1
      exact iR z 13 (apz z q.2 q.1) (by rw [sz.k0]; decide) (Or.inl (by rw [sz.k0]; decide)) (Or.inr (by decide)))
    (by
      unfold CN mx_kd at cn ⊢
      rw [iN, iC, iS, iK]
      exact cn)
  have cw := g6.2.2.1.2.1
  have b12 := cw.2.2.2.1.2.2.1
  refine Or.inl ⟨rfl, sc_k282 g6.sc, 140, sc_r282_0 g6.sc, (sc_w g6.sc).k0, ?_⟩
  rw [b12, nI_1]
  rintro _ rfl
  refine ⟨fun b eb => ?_, y, XL', FS', _, rfl, yx, g6.w0 (w' := frk w) (CW.frk cw) rfl rfl rfl (Nat.le_refl _)⟩
  rw [← Option.some.inj eb]
  have := (sy2.fp fp6).1
  show y < hpN h6
  omega
theorem aparT.cons (a : aparT XL) (h : ∀ z ∈ XL, y + 13 ≤ z ∨ z + 13 ≤ y) : aparT (y :: XL) := List.pairwise_cons.mpr ⟨h, a⟩
theorem g_fork (hd : 4 ≤ d) (g : CG C h s w A ((x, (F, en, jb), js) :: G) T Ks P (some x) pl rn XL FS VS OS []) (hG : G.length ≤ 990) (h146 : 146 ∈ x :: G.map (fun e => e.1)) :
    mx_SM mY_X4_fork d [.ref 282] h (FkE C s w A x F en jb js G T Ks P pl rn VS OS) := by
  have k4 := sc_k282 g.sc
  have N := g.sc.1
  obtain ⟨s1, s2, s3, s4, s5, s6⟩ := g.2.2.2.2.2.1
  have oi := g.2.2.2.1
  refine b_X4_fork 282 ⟨k4, fun hn => ?_, fun y hy => ?_⟩
  · rintro b2 h1 rfl rfl
    have f0 : FS = [] := by
      rcases FS with _ | ⟨z, FS⟩
      · rfl
      · rw [hn] at s6; exact nomatch s6.1
    subst f0
    have sc1 : SC (hnw h 8 0 18) := g.sc.fp (FP.rf.nw)
    have kn : mx_kd (hnw h 8 0 18) (hpN h) 8 := ⟨Nat.lt_succ_self _, by rw [hpK_nw, if_pos rfl]⟩
    refine ⟨sc_k282 sc1, 135, sc_r282_1 sc1, by omega, mx_xKV (k_X8 (by omega) kn) ?_⟩
    have zl : ∀ z ∈ XL, z + 13 ≤ hpN h := fun z hz => (s5 z hz).1.1
    have lX : XL.length ≤ G.length + 1 := by
      have nd : XL.Nodup := by
        have := (List.nodup_append.mp oi.1).1
        exact (List.pairwise_map.mp this).imp (fun h c => h (by rw [c]))
      have : XL.Perm (((x, (F, en, jb), js) :: G).map (fun e => e.1) ++ []) := (List.perm_ext_iff_of_nodup nd s2).mpr s3
      rw [this.length_eq, List.append_nil, List.length_map, List.length_cons]
      exact Nat.le_refl _
    have oi2 : OI (E_X8 (hnw h 8 0 18) (hpN h) 135) (cRS (hpN h :: XL) VS) [] := by
      show OI _ ((hpN h + 9) :: cRS XL VS) []
      refine oi.grow X8_fp X8_k5 (fun m => ?_) ?_ ⟨by rw [X8_N.1]; omega, X8_SB.k9⟩ X8_SB.z9 (fun k _ => X8_R2.2.2 k) (fun b hb k _ => X8_R (oi.2.2.1 b hb).1.1) (fun o ho => ⟨by rw [X8_I ho.1], X8_R ho.1⟩) (X8_R (by omega))
      · have := (oi.2.2.1 _ m).1.1; omega
      · have lV := g.cv.2.2.1
        have : (cRS XL VS).length = XL.length + 7 + VS.length := by
          unfold cRS
          rw [List.length_append, List.length_cons, List.length_append, List.length_map, List.length_map, List.length_map]
          show XL.length + (6 + VS.length + 1) = _
          omega
        omega
    refine g_fork32 (by omega) g (y := hpN h) (XL' := hpN h :: XL) (FS' := []) X8_fp (fun a ha => ⟨X8_I ha, X8_L ha⟩) (fun a k ha _ => X8_R ha) X8_SB (by omega) oi2 (fun a ha => List.mem_cons_of_mem _ ha) ?_ (fun z => ?_) (s4.cons fun z hz => Or.inr (zl z hz)) (fun z hz => ?_) ?_ ?_
    · rw [List.cons_append]
      refine List.nodup_cons.mpr ⟨fun m => ?_, s2⟩
      have := zl _ ((s3 _).mpr m)
      omega
    · rw [List.mem_cons, List.cons_append, List.mem_cons]
      exact or_congr Iff.rfl (s3 z)
    · rcases List.mem_cons.mp hz with rfl | hz
      · exact ⟨X8_SB, Or.inr (by omega)⟩
      · exact ⟨(s5 z hz).1.fp X8_fp, (s5 z hz).2⟩
    · show hpR (E_X8 (hnw h 8 0 18) (hpN h) 135) 282 8 = none
      rw [X8_R (by omega)]; exact hn
    · obtain ⟨n1, n2, n3, n4, n5, n6, n7⟩ := g.2.2.2.2.2.2.2.2.2.2
      obtain ⟨z1, z2, z3⟩ := X8_N (H := h)
      have L : (cRS (hpN h :: XL) VS).length = (cRS XL VS).length + 1 := rfl
      have L2 : (hpN h :: XL).length = XL.length + 1 := rfl
      exact ⟨n1, fun o => by rw [X8_k5]; exact n2 o, by omega, by omega, by omega, by omega, by omega⟩
  · rcases FS with _ | ⟨z, FS⟩
    · have s6 : hpR h 282 8 = none := s6
      rw [s6] at hy; exact nomatch hy
    · have ez : z = y := by have := s6.1; rw [this] at hy; exact Option.some.inj hy
      subst ez
      have mz : z ∈ XL := (s3 z).mpr (List.mem_append_right _ List.mem_cons_self)
      have sz := (s5 z mz).1
      have n1 : z ≠ x := fun c => by
        rw [List.map_cons, List.cons_append] at s2
        exact (List.nodup_cons.mp s2).1 (by rw [← c]; exact List.mem_append_right _ List.mem_cons_self)
      have m146 : z ≠ 146 := fun c => by
        have q := (List.nodup_append.mp s2).2.2 146 h146 z List.mem_cons_self
        exact q c.symm
      refine ⟨sz.k0, ?_⟩
      rintro _ rfl
      rw [hy]
      have e8 : ∀ a k, (a ≠ 282 ∨ k ≠ 8) → hpR (hsR h 282 8 (hpR h z 13)) a k = hpR h a k := fun a k hk => by
        rw [hpR_sR]
        split
        · rename_i e
          rw [if_neg (by rcases hk with q | q <;> omega), e]
        · rfl
      have fp2 : FP h (hsR h 282 8 (hpR h z 13)) := FP.rf.R (by rw [k4]; decide)
      have pm : ((x :: G.map (fun e => e.1)) ++ z :: FS).Perm ((z :: x :: G.map (fun e => e.1)) ++ FS) := List.perm_middle
      refine g_fork32 (by omega) g (y := z) (XL' := XL) (FS' := FS) fp2 (fun a ha => ⟨rfl, rfl⟩) (fun a k ha hk => e8 a k hk) (sz.fp fp2) (by have := (s5 z mz).2; omega) (oi.cg rfl rfl rfl (fun a ha k _ => e8 a k (Or.inl fun c => by
        have := (oi.2.2.1 a ha).1.2
        rw [c, k4] at this
        exact absurd this (by decide))) (fun o ho => ⟨rfl, e8 o 5 (Or.inr (by decide))⟩) (e8 135 0 (Or.inl (by decide)))) (fun a ha => ha) (pm.nodup_iff.mp s2) (fun q => (s3 q).trans pm.mem_iff) s4 (fun q hq => ⟨(s5 q hq).1.fp fp2, (s5 q hq).2⟩) ?_ ?_
      · rw [hpR_sR, if_pos rfl, if_pos rfl]
        exact s6.2.cg (fun q hq => e8 q 13 (Or.inr (by decide)))
      · exact g.2.2.2.2.2.2.2.2.2.2
end MXF2
