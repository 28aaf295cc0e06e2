/-! Machine.forkPiped -/
section MXPP
variable {C : cC} {h h1 h2 h6 : mxH} {s s' d t k sl o v c i p : Nat} {w w' : spW} {A A' A2 : Nat → Option Nat} {G G' : List cE} {T : List cT} {Ks : List spH} {P P' : cP} {cur cur' : Option Nat} {pl rn : Int32} {XL XL' FS FS' VS OS inh inh' RS RS' : List Nat} {D : pmC} {e : cE} {x y : Nat} {fh hs : spH} {F F1 : spF} {en en' : Bool} {jb : List spJ} {js jl : List Nat} {l : List spH} {bh pu j : Int32} {last : Bool} {ah : Option Nat} {q0 : cT}
theorem g_makePipe (g : CG C h s w A ((y, (F, en, jb), js) :: G) T Ks P cur pl rn XL FS VS OS inh) (hU : (wU w).length < 302) : mx_SM mY_X0_makePipe d [.ref 135] h (fun r h1 => r = .inl (some (.int (nI (wU w).length))) ∧ CG C h1 s (uU w (wU w ++ [[]])) A ((y, (F, en, jb), js) :: G) T Ks P cur pl rn XL FS VS OS inh) := by
  obtain ⟨sy, yx⟩ := g.sb
  have wc := g.2.2.1
  refine (k_X0_makePipe g.sc wc.2.2.1 hU).mono ?_
  rintro r h1 ⟨rfl, e, cp⟩
  have r : ∀ b, ¬ (135 ≤ b ∧ b ≤ 139) → hpI h1 b = hpI h b := fun b hb => e.2.2.2.2.2.2.2 b hb
  have el : CLn h1 = CLn h := CLn_cg (fun b g1 g2 => r b (by omega))
  have nn : ∀ o, A o ≠ none → ¬ (135 ≤ o ∧ o ≤ 139) := fun o ho c => wc.2.2.2.nn (sc_ne5 wc.1 (b := o) (by omega)) ho
  refine ⟨rfl, g.loc (LC.ofL (e.toL (q := fun _ => False)) (fun b hb => Or.inl ⟨by have := hb.1; omega, by have := hb.2; omega⟩) (fun b hb => hb.elim) (fun o ho c => nn o ho c) (fun k _ => by rw [r y (by omega)])) ⟨wc.1.fp e.fp, ?_, ?_, wc.2.2.2.cg e.1 e.2.2.2.1 (fun o k ho => by rw [r o (nn o ho)]) rfl (Nat.le_refl _) (by show _ ≤ (wU w ++ [[]]).length; rw [List.length_append]; omega)⟩ (g.cf.cg (fun i hi => r (y + i) (by omega)) (fun i hi => by rw [e.2.2.2.2.2.1]) (fun v l c => by rw [el]; exact c)) (CU_cg g.2.2.2.2.1 (fun b g1 g2 => r b (by omega))) (fun v l c => by rw [el]; exact c) rfl⟩
  · exact CWh_cg wc.2.1 (fun b hb => r b (by omega)) (by rw [e.2.2.2.2.2.1])
  · show CP (CLn h1) _ _ _ _ _ _
    rw [el]; exact cp
/-- the second half of a fork for a pipeline -/
def pip2 (w : spW) (f1 : spF) (last : Bool) : spW × spF × Option Nat := if last then (w, f1, none) else (uO (uU w (wU w ++ [[]])) (wO w ++ [(6, (wU w).length, 0), (5, (wU w).length, 0)]), vH f1 (fup (fH f1) 1 (some (wO w).length)), some ((wO w).length + 1))
theorem pipd_2 {f : spF} : pipd w f ah last = pip2 w (match ah with
    | none => f
    | some o => vH f (fup (fH f) 0 (some o))) last := by
  unfold pipd pip2
  cases last with
  | true => cases ah <;> rfl
  | false =>
    have e1 : ∀ a b : spO, (wO w ++ [a]) ++ [b] = wO w ++ [a, b] := fun a b => by rw [List.append_assoc]; rfl
    have e2 : ∀ a : spO, (wO w ++ [a]).length = (wO w).length + 1 := fun a => by rw [List.length_append]; rfl
    cases ah with
    | none =>
      show (uO (uU w (wU w ++ [[]])) ((wO w ++ [(6, (wU w).length, 0)]) ++ [(5, (wU w).length, 0)]), vH f (fup (fH f) 1 (some (wO w).length)), some (wO w ++ [(6, (wU w).length, 0)]).length) = _
      rw [e1, e2]; rfl
    | some o =>
      show (uO (uU w (wU w ++ [[]])) ((wO w ++ [(6, (wU w).length, 0)]) ++ [(5, (wU w).length, 0)]), vH (vH f (fup (fH f) 0 (some o))) (fup (fH (vH f (fup (fH f) 0 (some o)))) 1 (some (wO w).length)), some (wO w ++ [(6, (wU w).length, 0)]).length) = _
      rw [e1, e2]; rfl
/-- ids of open files that were known, or are these -/
def AY (A A' : Nat → Option Nat) (S : Nat → Prop) : Prop := ∀ x a, A' x = some a → A x = some a ∨ S a
theorem CG.idl (g : CG C h s w A G T Ks P cur pl rn XL FS VS OS inh) {o a : Nat} (e : A o = some a) : a < (wO w).length := by
  obtain ⟨-, q, q1, -⟩ := g.2.2.1.2.2.2.1 o a e
  exact (List.getElem?_eq_some_iff.mp q1).1
theorem AY.opn {A0 : Nat → Option Nat} {n : Nat} (m1 : ∀ o a, A0 o = some a → A o = some a) : AY A (fup A0 o (some n)) (fun a => a = n) := by
  intro x a e
  by_cases c : x = o
  · rw [c, fup_e] at e; exact Or.inr (Option.some.inj e).symm
  · rw [fup_n c] at e; exact Or.inl (m1 x a e)
/-- the end of a fork for a pipeline -/
def PpE (C : cC) (s : Nat) (w : spW) (A : Nat → Option Nat) (S : Nat → Prop) (x y : Nat) (F1 : spF) (G : List cE) (q0 : cT) (T : List cT) (Ks : List spH) (P : cP) (pl rn : Int32) (XL FS VS : List Nat) (last : Bool) (t : Nat) (r : mxRes) (h1 : mxH) : Prop :=
  r = .inl none ∧ ∃ A' OS', AY A A' S ∧ CG C h1 s (pip2 w F1 last).1 A' ((y, ((pip2 w F1 last).2.1, false, []), []) :: G) ((7, nI t, 1, 0) :: (if last = true then q0 else ySt q0 3 (nI (wU w).length)) :: T) Ks (fup P y (some x, nI ((q0 :: T).length + 1), (P y).2.2)) (some y) pl rn XL FS VS OS' []
theorem g_fp36 (hd : 3 ≤ d) (g : CG C h s w A ((y, (F1, false, []), []) :: G) (q0 :: T) Ks P (some x) pl rn XL FS VS OS []) (hT : (q0 :: T).length < 2950) (hU : (wU w).length < 302) :
    mx_SX mY_X4_forkPiped d 36 [(0, .ref 282), (1, .int (if last = true then 1 else 0)), (2, .int (nI t)), (4, va_rf (some y))] [] h (PpE C s w A (fun a => a = (wO w).length) x y F1 G q0 T Ks P pl rn XL FS VS last t) := by
  have k4 := sc_k282 g.sc
  cases last with
  | true =>
    refine b_X4_forkPiped_36 282 _ _ _ ⟨fun _ => b_X4_forkPiped_78 282 _ _ ⟨y, rfl, by omega, k4, (g_enter2 (d := d - 1) (by omega) g hT).mono ?_⟩, fun c => absurd c (by decide)⟩
    rintro r h1 ⟨rfl, g1⟩
    exact Or.inl ⟨rfl, rfl, A, OS, fun _ _ e => Or.inl e, g1⟩
  | false =>
    refine b_X4_forkPiped_36 282 _ _ _ ⟨fun c => absurd rfl c, fun _ => ⟨k4, 135, sc_r282_1 g.sc, by omega, sc_k135 g.sc, (g_makePipe (d := d - 1) g hU).mono ?_⟩⟩
    rintro r h1 ⟨rfl, g1⟩
    obtain ⟨sy, yx⟩ := g1.sb
    refine Or.inl ⟨_, rfl, y, rfl, sy.k0, y + 8, sy.r0_3, sc_k282 g1.sc, 135, sc_r282_1 g1.sc, sc_k135 g1.sc, ?_⟩
    refine (g_openG (d := d - 1) (kd := 6) (i := (wU w).length) (fl := -1) (pp := nI (wU w).length) (a0 := (wO w).length) (lo := [(6, (wU w).length, 0), (5, (wU w).length, 0)]) (by omega) g1 (by decide) (by decide) (fun c => by omega) (fun _ => ⟨rfl, ?_⟩) ?_ (fun o e => absurd (g.idl e) (Nat.lt_irrefl _))).mono ?_
    · show _ < (wU w ++ [[]]).length
      rw [List.length_append]; exact Nat.lt_succ_self _
    · show (wO w ++ _)[(wO w).length]? = _
      rw [List.getElem?_append_right (Nat.le_refl _), Nat.sub_self]; rfl
    rintro r h2 (⟨v, rfl, o, OS', A0, rfl, k5, a0, m1, m2, g2⟩ | ⟨_, _, q⟩)
    · obtain ⟨sy2, -⟩ := g2.sb
      refine Or.inl ⟨_, rfl, sy2.k8, (g_put (d := d - 1) (i := 1) (by decide) g2 (Or.inr ⟨o, rfl, rfl⟩) (fun b e => by rw [← Option.some.inj e]; exact k5) (fun b e => Or.inr (by rw [← Option.some.inj e]; exact List.mem_singleton.mpr rfl)) (some (wO w).length) (Or.inr ⟨o, _, rfl, rfl, fup_e⟩)).mono ?_⟩
      rintro r h3 ⟨rfl, g3⟩
      refine Or.inl ⟨rfl, sc_k282 g3.sc, (g_setField (d := d - 1) (k := 3) (a := nI (wU w).length) (by decide) g3).mono ?_⟩
      rintro r h4 ⟨rfl, g4⟩
      refine Or.inl ⟨rfl, b_X4_forkPiped_78 282 _ _ ⟨y, rfl, by omega, sc_k282 g4.sc, (g_enter2 (d := d - 1) (by omega) g4 (by rw [List.length_cons] at hT ⊢; exact hT)).mono ?_⟩⟩
      rintro r h5 ⟨rfl, g5⟩
      exact Or.inl ⟨rfl, rfl, _, OS', AY.opn m1, g5⟩
    · exact q.elim
theorem g_forkPiped (hd : 5 ≤ d) (g : CG C h s w A ((x, (F, en, jb), js) :: G) (q0 :: T) Ks P (some x) pl rn XL FS VS OS []) (hT : (q0 :: T).length < 2950) (hG : G.length ≤ 990) (h146 : 146 ∈ x :: G.map (fun e => e.1)) (hU : (wU w).length < 302)
    (hah : (ah = none ∧ q0.2.2.2 = -1) ∨ ∃ o pp, ah = some o ∧ q0.2.2.2 = nI pp ∧ pp < (wU w).length ∧ (wO w)[o]? = some (5, pp, 0) ∧ ∀ x, A x ≠ some o) :
    mx_SM mY_X4_forkPiped d [.ref 282, .int (if last = true then 1 else 0), .int (nI t)] h (fun r h1 => ∃ y XL' FS' v11, 365 ≤ y ∧ PpE C s (frk w) A (fun a => ah = some a ∨ a = (wO w).length) x y (match ah with
      | none => subF F
      | some o => vH (subF F) (fup (fH (subF F)) 0 (some o))) ((x, (F, en, jb), js) :: G) q0 T Ks (fup P y (none, 0, v11)) pl rn XL' FS' VS last t r h1) := by
  have k4 := sc_k282 g.sc
  refine b_X4_forkPiped 282 _ _ ⟨by omega, k4, mx_xKI2 (g_field (d := d - 1) g).2.2.2 ⟨k4, (g_fork (d := d - 1) (by omega) g hG h146).mono ?_⟩⟩
  rintro r h2 ⟨y, XL', FS', v11, rfl, yx, g2⟩
  refine Or.inl ⟨_, rfl, ?_⟩
  rcases hah with ⟨rfl, e⟩ | ⟨o, pp, rfl, e, ppl, eo, hA⟩
  · rw [e]
    refine ⟨fun _ => (g_fp36 (by omega) g2 hT hU).mono ?_, fun c => absurd (by decide) c⟩
    rintro r h3 ⟨rfl, A', OS', ay, g3⟩
    exact ⟨y, XL', FS', v11, yx, rfl, A', OS', fun x a e => (ay x a e).imp id (fun c => Or.inr c), g3⟩
  · rw [e]
    obtain ⟨sy, -⟩ := g2.sb
    refine ⟨fun c => absurd c (nI_pos (by omega)), fun _ => ⟨y, rfl, sy.k0, y + 8, sy.r0_3, sc_k282 g2.sc, 135, sc_r282_1 g2.sc, sc_k135 g2.sc, ?_⟩⟩
    have eo2 : (wO (frk w) ++ [])[o]? = some (5, pp, 0) := by rw [List.append_nil]; exact eo
    refine (g_openG (d := d - 1) (kd := 5) (i := pp) (fl := -1) (pp := nI pp) (a0 := o) (lo := []) (by omega) g2 (by decide) (by decide) (fun c => by omega) (fun _ => ⟨rfl, ppl⟩) eo2 hA).mono ?_
    rintro r h3 (⟨v, rfl, o1, OS', A0, rfl, k5, a0, m1, m2, g3⟩ | ⟨_, _, q⟩)
    · have ew : uO (frk w) (wO (frk w) ++ []) = frk w := by rw [List.append_nil]
      rw [ew] at g3
      obtain ⟨sy3, -⟩ := g3.sb
      refine Or.inl ⟨_, rfl, sy3.k8, (g_put (d := d - 1) (i := 0) (by decide) g3 (Or.inr ⟨o1, rfl, rfl⟩) (fun b e => by rw [← Option.some.inj e]; exact k5) (fun b e => Or.inr (by rw [← Option.some.inj e]; exact List.mem_singleton.mpr rfl)) (some o) (Or.inr ⟨o1, _, rfl, rfl, fup_e⟩)).mono ?_⟩
      rintro r h4 ⟨rfl, g4⟩
      refine Or.inl ⟨rfl, (g_fp36 (by omega) g4 hT hU).mono ?_⟩
      rintro r h5 ⟨rfl, A', OS2, ay, g5⟩
      refine ⟨y, XL', FS', v11, yx, rfl, A', OS2, fun x a e => ?_, g5⟩
      rcases ay x a e with c | c
      · rcases AY.opn m1 x a c with c | c
        · exact Or.inl c
        · exact Or.inr (Or.inl (by rw [c]))
      · exact Or.inr (Or.inr c)
    · exact q.elim
end MXPP
