/-! Machine.openFile, share, redirect -/
section MXRD5
variable {C : cC} {h h1 h2 : mxH} {s s' d t k sl o : Nat} {w w' : spW} {A A' A2 : Nat → Option Nat} {G : List cE} {T : List cT} {Ks : List spH} {P : cP} {cur : Option Nat} {pl rn : Int32} {XL FS VS OS inh inh' RS : List Nat} {D : pmC} {e : cE} {x : Nat} {fh hs : spH} {F F' : spF} {en en' : Bool} {jb : List spJ} {js : List Nat} {p : Nat → Prop} {a b c v : Int32} {ln : Int32 → spL → Prop}
theorem CG.k0 (g : CG C h s w A G T Ks P cur pl rn XL FS VS OS inh) : K0 C := g.1
theorem CG.pg (g : CG C h s w A G T Ks P cur pl rn XL FS VS OS inh) : PB h (kcG C) ∧ PD (kcD C) (hpI h) (hpL h) (kcG C) (kcC C) (kcA C) (kca C) (kcd C) := by
  have k0 := g.1
  have fc := g.2.1
  have gg := k0.2.2.2.2.1
  refine ⟨g.sc.pb gg, ?_⟩
  have r : ∀ j, j ≤ 14 → hpI h (kcG C + j) = hpI (kcH C) (kcG C + j) ∧ hpL h (kcG C + j) = hpL (kcH C) (kcG C + j) := fun j hj => by
    have q := fc.2 (kcG C + j) (by unfold cstA; simp; omega)
    exact ⟨q.1, q.2.1⟩
  have r0 : hpI h (kcG C) = hpI (kcH C) (kcG C) := (r 0 (by decide)).1
  have pd := k0.2.2.2.1
  unfold PD at pd ⊢
  rw [r0, (r 1 (by decide)).1, (r 2 (by decide)).1, (r 3 (by decide)).1, (r 4 (by decide)).1, (r 5 (by decide)).1, (r 7 (by decide)).1, (r 8 (by decide)).1, (r 9 (by decide)).1, (r 10 (by decide)).1, (r 11 (by decide)).1, (r 13 (by decide)).1, (r 6 (by decide)).2, (r 12 (by decide)).2, (r 14 (by decide)).2]
  exact pd
theorem CG.r9 (g : CG C h s w A G T Ks P cur pl rn XL FS VS OS inh) : hpR h 282 9 = some (kcG C) := g.2.2.2.2.2.2.2.2.1.2.2.2
theorem CG.r10 (g : CG C h s w A G T Ks P cur pl rn XL FS VS OS inh) : hpR h 282 10 = cur := g.2.2.2.2.2.2.2.2.1.1
theorem CG.sb (g : CG C h s w A ((x, (F, en, jb), js) :: G) T Ks P cur pl rn XL FS VS OS inh) : SB h x ∧ (x = 146 ∨ 365 ≤ x) := ⟨g.2.2.2.2.2.1.sx.1, g.2.2.2.2.2.1.sx.2.1⟩
theorem CG.ch (g : CG C h s w A ((x, (F, en, jb), js) :: G) T Ks P cur pl rn XL FS VS OS inh) : CH h A x (fH F) := (g.2.2.2.2.2.1.1 _ List.mem_cons_self).2.2.1
theorem CG.mx (g : CG C h s w A ((x, (F, en, jb), js) :: G) T Ks P cur pl rn XL FS VS OS inh) : x + 9 ∈ cRS XL VS := by
  unfold cRS
  exact List.mem_append_left _ (List.mem_map.mpr ⟨x, (g.2.2.2.2.2.1.2.2.1 x).mpr (by simp), rfl⟩)
/-- ids of open files that were not known before -/
def AX (A A' : Nat → Option Nat) (n : Nat) : Prop := ∀ o a, A' o = some a → A o = some a ∨ n ≤ a
theorem AX.rf {n : Nat} : AX A A n := fun _ _ h => Or.inl h
theorem AX.tr {n m : Nat} (a : AX A A' n) (b : AX A' A2 m) (h : n ≤ m) : AX A A2 n := fun o i hi => by
  rcases b o i hi with c | c
  · exact a o i c
  · exact Or.inr (by omega)
/-- an open file goes to a place of this shell's handles -/
theorem g_put {i : Nat} {new : Option Nat} (hi : i < 10) (g : CG C h s w A ((x, (F, en, jb), js) :: G) T Ks P cur pl rn XL FS VS OS inh) (hinh : inh = [] ∨ ∃ o, inh = [o] ∧ new = some o) (hn : ∀ b, new = some b → mx_kd h b 5) (hr : ∀ b, new = some b → rcnt (hpR h) b (cRS XL VS) ≠ 0 ∨ b ∈ inh) (y : Option Nat) (hy : RHc A new y) :
    mx_SM mY_X2_put d [.ref (x + 8), .int (nI i), va_rf new] h (fun r h1 => r = .inl none ∧ CG C h1 s w A ((x, (vH F (fup (fH F) i y), en, jb), js) :: G) T Ks P cur pl rn XL FS VS OS []) := by
  obtain ⟨sx, hx⟩ := g.sb
  refine (c_X2_put g.2.2.2.1 (sx.hd (sc_k135 g.sc)) g.mx hi hn hr).mono ?_
  rintro r h1 (⟨rfl, oi, fr, rp⟩ | ⟨_, _, q⟩)
  · refine ⟨rfl, g.row ?_ fr (Or.inl rfl) (fun a ha ne k hk => ?_) (fun k hk => ?_)⟩
    · rcases hinh with e | ⟨o, e, e2⟩
      · rw [e] at oi; exact oi
      · rw [e, e2] at oi
        have : [o].filter (fun o' => decide (some o ≠ some o')) = [] := by simp
        rw [this] at oi; exact oi
    · rw [rp a ha k hk, if_neg (fun c => ne c.1)]
    · rw [rp (x + 9) g.mx k hk]
      by_cases c : k = i
      · rw [if_pos ⟨rfl, c⟩, c, fup_e]; exact hy
      · rw [if_neg (fun e => c e.2), fup_n c]; exact g.ch k hk
  · exact q.elim
theorem wx_lF {kd i : Nat} : (wF (opn w kd i).2) = wF w := rfl
theorem g_openFile {hh kd i : Nat} (hd : 3 ≤ d) (hhh : hh < 10) (hk : kd = 2 ∨ kd = 3 ∨ kd = 4) (hi : i < (wF w).length) (g : CG C h s w A ((x, (F, en, jb), js) :: G) T Ks P (some x) pl rn XL FS VS OS []) :
    mx_SM mY_X4_openFile d [.ref 282, .int (nI hh), .int (nI kd), .int (nI i)] h (fun r h1 => r = .inl (some (.int 1)) ∧ ∃ A' OS', AX A A' (wO w).length ∧ CG C h1 s (opn w kd i).2 A' ((x, (vH F (fup (fH F) hh (some (opn w kd i).1)), en, jb), js) :: G) T Ks P (some x) pl rn XL FS VS OS' []) := by
  obtain ⟨sx, hx⟩ := g.sb
  have i8 : i < 8 := by have := g.2.2.1.2.1.1.2.1; omega
  refine b_X4_openFile 282 _ _ _ ⟨fun _ => ⟨sc_k282 g.sc, x, g.r10, sx.k0, x + 8, sx.r0_3, 135, sc_r282_1 g.sc, by omega, sc_k135 g.sc, ?_⟩, fun c => absurd (nI_pos' (by omega)) c⟩
  refine (g_open (d := d - 1) (kd := kd) (i := i) (fl := nI i) (pp := -1) (by omega) g (by omega) (by omega) (fun _ => ⟨rfl, hi⟩) (fun c => by omega)).mono ?_
  rintro r h1 (⟨v, rfl, o, OS', A0, rfl, k5, a0, m1, m2, g1⟩ | ⟨_, _, q⟩)
  · obtain ⟨sx1, -⟩ := g1.sb
    refine Or.inl ⟨_, rfl, sx1.k8, (g_put (d := d - 1) hhh g1 (Or.inr ⟨o, rfl, rfl⟩) (fun b e => by rw [← Option.some.inj e]; exact k5) (fun b e => Or.inr (by rw [← Option.some.inj e]; exact List.mem_singleton.mpr rfl)) (some (opn w kd i).1) (Or.inr ⟨o, _, rfl, rfl, fup_e⟩)).mono ?_⟩
    rintro r h2 ⟨rfl, g2⟩
    refine Or.inl ⟨rfl, rfl, _, OS', ?_, g2⟩
    intro o' a ha
    by_cases c : o' = o
    · rw [c, fup_e] at ha
      exact Or.inr (Nat.le_of_eq (Option.some.inj ha))
    · rw [fup_n c] at ha
      exact Or.inl (m1 o' a ha)
  · exact q.elim
theorem g_openFile_no {hh : Int32} {kd : Int32} : mx_SM mY_X4_openFile d [.ref 282, .int hh, .int kd, .int (-1)] h (mx_xct (.inl (some (.int 0))) h) :=
  b_X4_openFile 282 _ _ _ ⟨fun c => absurd c (by decide), fun _ => ⟨rfl, rfl⟩⟩
/-- the end of one redirection -/
def RdE (C : cC) (s : Nat) (w : spW) (A : Nat → Option Nat) (x : Nat) (F : spF) (en : Bool) (jb : List spJ) (js : List Nat) (G : List cE) (T : List cT) (Ks : List spH) (P : cP) (pl rn : Int32) (XL FS VS : List Nat) (q : Option (spW × spF)) (r : mxRes) (h1 : mxH) : Prop :=
  ∃ A' OS', AX A A' (wO w).length ∧ match q with
    | none => r = .inl (some (.int 0)) ∧ CG C h1 s w A' ((x, (F, en, jb), js) :: G) T Ks P (some x) pl rn XL FS VS OS' []
    | some (w1, F1) => r = .inl (some (.int 1)) ∧ CG C h1 s w1 A' ((x, (F1, en, jb), js) :: G) T Ks P (some x) pl rn XL FS VS OS' []
theorem RHc.none {r : Option Nat} (c : RHc A r none) : r = none := by
  rcases c with ⟨c, -⟩ | ⟨o, a, c1, c2, c3⟩
  · exact c
  · exact nomatch c2
theorem g_share {hh : Nat} {r0 y : Option Nat} (hd : 2 ≤ d) (hhh : hh < 10) (g : CG C h s w A ((x, (F, en, jb), js) :: G) T Ks P (some x) pl rn XL FS VS OS []) (hy : RHc A r0 y) (hr : ∀ b, r0 = some b → rcnt (hpR h) b (cRS XL VS) ≠ 0) :
    mx_SM mY_X4_share d [.ref 282, .int (nI hh), va_rf r0] h (RdE C s w A x F en jb js G T Ks P pl rn XL FS VS (y.map fun o => (w, vH F (fup (fH F) hh (some o))))) := by
  obtain ⟨sx, hx⟩ := g.sb
  refine b_X4_share 282 _ r0 ⟨fun e => ?_, fun b e => ⟨sc_k282 g.sc, x, g.r10, sx.k0, x + 8, sx.r0_3, by omega, sx.k8, ?_⟩⟩
  · rcases hy with ⟨-, e2⟩ | ⟨o, a, c1, c2, c3⟩
    · subst e2; exact ⟨A, OS, AX.rf, rfl, g⟩
    · rw [e] at c1; exact nomatch c1
  · rcases hy with ⟨c, -⟩ | ⟨o, a, c1, c2, c3⟩
    · rw [c] at e; exact nomatch e
    · subst c2
      refine (g_put (d := d - 1) (new := r0) hhh g (Or.inl rfl) (fun b e => ?_) (fun b e => Or.inl (hr b e)) (some a) (Or.inr ⟨o, a, c1, rfl, c3⟩)).mono ?_
      · rw [c1] at e
        rw [← Option.some.inj e]
        exact (g.2.2.1.2.2.2.1 o a c3).1
      · rintro r h2 ⟨rfl, g2⟩
        exact Or.inl ⟨rfl, A, OS, AX.rf, rfl, g2⟩
end MXRD5
