/-! Machine's functions: enterFunction, callFunction, callForTrap, endWith, goOnOrEnd, define, returnFromCall, testLoop -/
section MXFU
variable {C : cC} {h h1 h2 : mxH} {s s' d t k sl o v c i : Nat} {w w' : spW} {A A' A2 : Nat → Option Nat} {G G' : List cE} {T : List cT} {Ks : List spH} {P : cP} {cur : Option Nat} {pl rn : Int32} {XL FS VS OS inh inh' RS RS' : List Nat} {D : pmC} {e : cE} {x : Nat} {fh hs : spH} {F F' : spF} {en en' : Bool} {jb : List spJ} {js : List Nat} {l : List spH} {y : cT} {n : Int64}
theorem CG.r11 (g : CG C h s w A G T Ks P cur pl rn XL FS VS OS inh) : hpI h 282 11 = pl := g.2.2.2.2.2.2.2.2.1.2.1
theorem CG.tx (g : CG C h s w A ((x, (F, en, jb), js) :: G) T Ks P cur pl rn XL FS VS OS inh) (e : ExI pTX h h1) : CG C h1 s w A ((x, (F, en, jb), js) :: G) T Ks P cur pl rn XL FS VS OS inh := by
  obtain ⟨sx, hx⟩ := g.sb
  have r : ∀ b, b ≠ 283 → b ≠ 284 → hpI h1 b = hpI h b := fun b h1 h2 => e.2.2.2.2.2.2.2 b (fun c => c.elim h1 h2)
  refine g.loc (LC.ofT e g.2.2.1 (by omega)) (g.2.2.1.tx e) (g.cf.cg (fun i hi => r (x + i) (by omega) (by omega)) (fun i hi => by rw [e.2.2.2.2.2.1]) (fun v l c => ?_)) (CU_tx g.2.2.2.2.1 e) (fun v l c => ?_) rfl
  · rw [CLn_tx e]; exact c
  · rw [CLn_tx e]; exact c
theorem CG.lk (g : CG C h s w A ((x, (F, en, jb), js) :: G) T Ks P cur pl rn XL FS VS OS inh) (hst : stat (fS F)) : LK h A (kcG C) x (kcD C) (kcC C) (kcA C) (kca C) (kcd C) s (kcN C + wM w) w F := by
  obtain ⟨sx, hx⟩ := g.sb
  obtain ⟨k, hk, ek⟩ := hst
  exact ⟨⟨g.sc, sx, by omega, g.k0.2.2.2.2.1, g.pg.2, g.cf, ⟨k, by omega, ek⟩, g.k0.2.2.2.2.2.2.1⟩, hx, g.2.2.1, g.2.2.2.2.1, g.ch⟩
theorem CG.op {q : Int32 × spW × spF} {r : mxRes} {n : Nat} (g : CG C h s w A ((x, (F, en, jb), js) :: G) T Ks P cur pl rn XL FS VS OS inh) (o : OpE (kcD C) A x s n h q r h1) (hn : n = kcN C + wM q.2.1) (hH : fH q.2.2 = fH F) : CG C h1 s q.2.1 A ((x, (q.2.2, en, jb), js) :: G) T Ks P cur pl rn XL FS VS OS inh :=
  g.loc o.2.1 o.2.2.1 o.2.2.2.1 (by rw [← hn]; exact o.2.2.2.2.1) o.2.2.2.2.2 hH
theorem CG.sgn (g : CG C h s w A G T Ks P cur pl rn XL FS VS OS inh) : SGN h := by
  obtain ⟨z, q⟩ := g.k0.2.2.1
  have f := g.2.1
  exact ⟨by rw [(f.1.2 2 (by have := g.k0.2.1; omega)).2.1]; exact z, by rw [(f.2 2 (by decide)).2.1]; exact q⟩
theorem g_find (g : CG C h s w A ((x, (F, en, jb), js) :: G) T Ks P cur pl rn XL FS VS OS inh) : mx_SM mY_X9_find d [.ref (x + 4), .long n] h (mx_xct (.inl (some (.int (ixI (tbF (fU F) n))))) h) := by
  obtain ⟨sx, hx⟩ := g.sb
  have cf := g.cf
  have q := k_X9_find (d := d) (k := n) sx.k4 sx.r4_0 sx.k5 cf.2.1.1 (by rw [sx.z5]; exact cf.2.1.2.1) (by rw [sx.z5]; decide)
  rw [ix_tbF (fun i hi => (cf.2.1.2.2 i hi).1)] at q
  exact q
theorem g_enter {kd : Int32} (hd : 2 ≤ d) (g : CG C h s w A ((x, (F, en, jb), js) :: G) T Ks P (some x) pl rn XL FS VS OS inh) (hi : i < (fU F).length) (hn : fN F < 4) (ht : T.length < 2950) :
    mx_SM mY_X4_enterFunction d [.ref 282, .int kd, .int (nI i)] h (fun r h1 => r = .inl none ∧ CG C h1 s w A ((x, (vN F (fN F + 1), en, jb), js) :: G) ((kd, pl, 0, 0) :: T) Ks P (some x) (nI (kPl (kcD C) ((fU F).getD i (0, 0)).2)) rn XL FS VS OS inh) := by
  refine b_X4_enterFunction 282 _ _ ⟨sc_k282 g.sc, by omega, ?_⟩
  rw [g.r11]
  refine (g_push (d := d - 1) g ht).mono ?_
  rintro r h1 ⟨rfl, g1⟩
  obtain ⟨sx, hx⟩ := g1.sb
  refine Or.inl ⟨rfl, sc_k282 g1.sc, x, g1.r10, sx.k0, ?_⟩
  rw [show hpI h1 x 8 = nI (fN F) from g1.cf.2.2.2.2.2.2.2.1, nI_1]
  rintro _ rfl
  have g2 := g1.ns (n := fN F + 1) (by omega)
  obtain ⟨sx2, -⟩ := g2.sb
  have vf := (g2.cf.2.1.2.2 i hi).2
  have i10 : i < 10 := by have := g2.cf.2.1.2.1; exact Nat.lt_of_lt_of_le hi this
  refine ⟨x, g2.r10, sx2.k0, x + 4, sx2.r0_1, sx2.k4, mx_xKI2 (k_X9_valueAt sx2.k4 sx2.r4_1 sx2.k6 (by rw [sx2.z6]; exact i10) (by rw [sx2.z6]; decide)) ⟨sc_k282 g2.sc, ?_⟩⟩
  rw [vf]
  rintro _ rfl
  have e : (fU F).getD i (0, 0) = (fU F)[i] := gd_at hi
  rw [e]
  exact ⟨rfl, g2.sp⟩
theorem tbF_lt {β : Type} {l : List (Int64 × β)} {k : Int64} {i : Nat} (e : tbF l k = some i) : i < l.length := (List.findIdx?_eq_some_iff_findIdx_eq.mp e).1
/-- what a call of a function leaves -/
theorem g_callFunction (hd : 3 ≤ d) (g : CG C h s w A ((x, (F, en, jb), js) :: G) T Ks P (some x) pl rn XL FS VS OS inh) (ht : T.length < 2950) :
    mx_SM mY_X4_callFunction d [.ref 282, .long n] h (fun r h1 => r = .inl none ∧ (tbF (fU F) n = none → CG C h1 s w A ((x, (vS F 127, en, jb), js) :: G) T Ks P (some x) pl rn XL FS VS OS inh) ∧
      (∀ i, tbF (fU F) n = some i → 4 ≤ fN F → CG C h1 s w A ((x, (vS F 126, en, jb), js) :: G) T Ks P (some x) pl rn XL FS VS OS inh) ∧
      (∀ i, tbF (fU F) n = some i → ¬ 4 ≤ fN F → CG C h1 s w A ((x, (vN F (fN F + 1), en, jb), js) :: G) ((2, pl, 0, 0) :: T) Ks P (some x) (nI (kPl (kcD C) ((fU F).getD i (0, 0)).2)) rn XL FS VS OS inh)) := by
  obtain ⟨sx, hx⟩ := g.sb
  have cf := g.cf
  have k4 := sc_k282 g.sc
  have e8 : hpI h x 8 = nI (fN F) := cf.2.2.2.2.2.2.2.1
  have n4 : fN F ≤ 4 := cf.2.2.2.2.2.2.2.2.1
  refine b_X4_callFunction 282 _ ⟨k4, x, g.r10, sx.k0, x + 4, sx.r0_1, by omega, sx.k4, mx_xKI2 (g_find g) ?_⟩
  rcases e : tbF (fU F) n with _ | i
  · refine ⟨fun c => absurd c (by decide), fun _ => ⟨k4, x, g.r10, sx.k0, ?_⟩⟩
    rintro _ rfl
    exact ⟨rfl, fun _ => g.st, (fun _ c => nomatch c), (fun _ c => nomatch c)⟩
  · have il := tbF_lt e
    have i10 : i < 10 := Nat.lt_of_lt_of_le il cf.2.1.2.1
    refine ⟨fun _ => ⟨k4, x, g.r10, sx.k0, ?_⟩, fun c => absurd (nI_pos' (by omega)) c⟩
    rw [e8]
    refine ⟨fun c => (g_enter (d := d - 1) (kd := 2) (by omega) g il ((nI_ltI (b := 4) (by omega) (by omega)).mp c) ht).mono ?_, fun c => ?_⟩
    · have l4 := (nI_ltI (b := 4) (by omega) (by omega)).mp c
      rintro r h1 ⟨rfl, g1⟩
      exact Or.inl ⟨rfl, rfl, (fun c => nomatch c), fun _ _ c => absurd c (by omega), fun j e _ => by rw [← Option.some.inj e]; exact g1⟩
    · have l4 : 4 ≤ fN F := by
        rcases Nat.lt_or_ge (fN F) 4 with q | q
        · exact absurd (show nI (fN F) < nI 4 from nI_lt q (by omega)) c
        · exact q
      rintro _ rfl
      exact ⟨rfl, (fun c => nomatch c), fun _ _ _ => g.st, fun _ _ c => absurd l4 c⟩
theorem g_callForTrap {kd : Int32} (hd : 3 ≤ d) (g : CG C h s w A ((x, (F, en, jb), js) :: G) T Ks P (some x) pl rn XL FS VS OS inh) (ht : T.length < 2950) :
    mx_SM mY_X4_callForTrap d [.ref 282, .int kd, .long n] h (fun r h1 => (r = .inl (some (.int 0)) ∧ h1 = h ∧ ∀ i, tbF (fU F) n = some i → 4 ≤ fN F) ∨ ∃ i, tbF (fU F) n = some i ∧ ¬ 4 ≤ fN F ∧ r = .inl (some (.int 1)) ∧
      CG C h1 s w A ((x, (vN F (fN F + 1), en, jb), js) :: G) ((kd, pl, 0, 0) :: T) Ks P (some x) (nI (kPl (kcD C) ((fU F).getD i (0, 0)).2)) rn XL FS VS OS inh) := by
  obtain ⟨sx, hx⟩ := g.sb
  have cf := g.cf
  have k4 := sc_k282 g.sc
  have e8 : hpI h x 8 = nI (fN F) := cf.2.2.2.2.2.2.2.1
  have n4 : fN F ≤ 4 := cf.2.2.2.2.2.2.2.2.1
  refine b_X4_callForTrap 282 _ _ ⟨k4, x, g.r10, sx.k0, x + 4, sx.r0_1, by omega, sx.k4, mx_xKI2 (g_find g) ?_⟩
  rcases e : tbF (fU F) n with _ | i
  · exact ⟨fun _ => Or.inl ⟨rfl, rfl, fun i c => nomatch c⟩, fun c => absurd (by decide) c⟩
  · have il := tbF_lt e
    have i10 : i < 10 := Nat.lt_of_lt_of_le il cf.2.1.2.1
    refine ⟨fun c => absurd c (nI_pos (by omega)), fun _ => ⟨k4, x, g.r10, sx.k0, ?_⟩⟩
    rw [e8]
    refine ⟨fun c => (g_enter (d := d - 1) (kd := kd) (by omega) g il ((nI_ltI (b := 4) (by omega) (by omega)).mp c) ht).mono ?_, fun c => Or.inl ⟨rfl, rfl, fun _ _ => ?_⟩⟩
    · have l4 := (nI_ltI (b := 4) (by omega) (by omega)).mp c
      rintro r h1 ⟨rfl, g1⟩
      exact Or.inl ⟨rfl, Or.inr ⟨i, rfl, by omega, rfl, g1⟩⟩
    · rcases Nat.lt_or_ge (fN F) 4 with q | q
      · exact absurd (show nI (fN F) < nI 4 from nI_lt q (by omega)) c
      · exact q
theorem g_endWith {a : Int32} (hd : 1 ≤ d) (hz : 0 < kZ (kcD C)) (g : CG C h s w A ((x, (F, en, jb), js) :: G) T Ks P (some x) pl rn XL FS VS OS inh) : mx_SM mY_X4_endWith d [.ref 282, .int a] h (fun r h1 => r = .inl none ∧ CG C h1 s w A ((x, (vS F a, en, jb), js) :: G) T Ks P (some x) (nI (kZ (kcD C) - 1)) rn XL FS VS OS inh) := by
  obtain ⟨sx, hx⟩ := g.sb
  refine b_X4_endWith 282 _ ⟨sc_k282 g.sc, x, g.r10, sx.k0, ?_⟩
  rintro _ rfl
  have g1 := g.st (v := a)
  obtain ⟨pb, pd⟩ := g1.pg
  refine ⟨kcG C, g1.r9, by omega, pb.1, mx_xKI2 (p_end pb pd hz) ⟨sc_k282 g1.sc, ?_⟩⟩
  rintro _ rfl
  exact ⟨rfl, g1.sp⟩
theorem g_goOnOrEnd {a : Int32} (hd : 2 ≤ d) (hz : 0 < kZ (kcD C)) (g : CG C h s w A ((x, (F, en, jb), js) :: G) T Ks P (some x) pl rn XL FS VS OS inh) : mx_SM mY_X4_goOnOrEnd d [.ref 282, .int a] h (fun r h1 => r = .inl none ∧ (a ≠ -2 → CG C h1 s w A ((x, (vS F a, en, jb), js) :: G) T Ks P (some x) pl rn XL FS VS OS inh) ∧
    (a = -2 → CG C h1 s w A ((x, (vS F 149, en, jb), js) :: G) T Ks P (some x) (nI (kZ (kcD C) - 1)) rn XL FS VS OS inh)) := by
  obtain ⟨sx, hx⟩ := g.sb
  refine b_X4_goOnOrEnd 282 _ ⟨fun c => ⟨sc_k282 g.sc, x, g.r10, sx.k0, ?_⟩, fun c => ⟨by omega, sc_k282 g.sc, (g_endWith (d := d - 1) (by omega) hz g).mono ?_⟩⟩
  · rintro _ rfl
    exact ⟨rfl, fun _ => g.st, fun e => absurd e c⟩
  · rintro r h1 ⟨rfl, g1⟩
    exact Or.inl ⟨rfl, rfl, fun e => absurd c e, fun _ => g1⟩
theorem g_testLoop (hd : 1 ≤ d) (g : CG C h s w A ((x, (F, en, jb), js) :: G) T Ks P (some x) pl rn XL FS VS OS inh) (hT : fS F ≠ 0 → ∃ y T', T = y :: T') : mx_SM mY_X4_testLoop d [.ref 282, .int (nI t)] h (fun r h1 => r = .inl none ∧ (fS F = 0 → CG C h1 s w A ((x, (F, en, jb), js) :: G) T Ks P (some x) pl rn XL FS VS OS inh) ∧
    (fS F ≠ 0 → ∀ y T', T = y :: T' → CG C h1 s w A ((x, (vS F y.2.1, en, jb), js) :: G) T' Ks P (some x) (nI t) rn XL FS VS OS inh)) := by
  obtain ⟨sx, hx⟩ := g.sb
  refine b_X4_testLoop 282 _ ⟨sc_k282 g.sc, x, g.r10, sx.k0, ?_⟩
  rw [show hpI h x 6 = fS F from g.cf.2.2.2.2.2.1]
  refine ⟨fun c => ⟨rfl, fun _ => g, fun e => absurd c e⟩, fun c => ⟨by omega, ?_⟩⟩
  obtain ⟨y, T', rfl⟩ := hT c
  refine mx_xKI2 (g_field (d := d - 1) g).2.1 ⟨sx.k0, ?_⟩
  rintro _ rfl
  have g1 := g.st (v := y.2.1)
  refine ⟨sc_k282 g1.sc, (g_pop (d := d - 1) g1).mono ?_⟩
  rintro r h3 ⟨rfl, g3⟩
  refine Or.inl ⟨rfl, sc_k282 g3.sc, ?_⟩
  rintro _ rfl
  exact ⟨rfl, fun e => absurd e c, fun _ y2 T2 e => by cases e; exact g3.sp⟩
theorem g_finishPipeline (hd : 1 ≤ d) (g : CG C h s w A ((x, (F, en, jb), js) :: G) (y :: T) Ks P (some x) pl rn XL FS VS OS inh) : mx_SM mY_X4_finishPipeline d [.ref 282] h (fun r h1 => r = .inl none ∧ CG C h1 s w A ((x, (vS F (if fP F = true then y.2.2.1 else y.2.1), en, jb), js) :: G) T Ks P (some x) pl rn XL FS VS OS inh) := by
  obtain ⟨sx, hx⟩ := g.sb
  refine b_X4_finishPipeline 282 ⟨sc_k282 g.sc, x, g.r10, sx.k0, ?_⟩
  rw [show hpI h x 4 = if fP F = true then 1 else 0 from g.cf.2.2.2.1]
  have fin : ∀ v : Int32, ∀ h2, h2 = hsI h x 6 v → hpK h2 282 = 4 ∧ mx_SM mY_X4_pop (d - 1) [.ref 282] h2 (mx_KV (fun h3 => (.inl none : mxRes) = .inl none ∧ CG C h3 s w A ((x, (vS F v, en, jb), js) :: G) T Ks P (some x) pl rn XL FS VS OS inh) (mx_XX mY_X4_finishPipeline (fun r h1 => r = .inl none ∧ CG C h1 s w A ((x, (vS F v, en, jb), js) :: G) T Ks P (some x) pl rn XL FS VS OS inh))) := by
    rintro v _ rfl
    have g1 := g.st (v := v)
    refine ⟨sc_k282 g1.sc, (g_pop (d := d - 1) g1).mono ?_⟩
    rintro r h3 ⟨rfl, g3⟩
    exact Or.inl ⟨rfl, rfl, g3⟩
  cases e : fP F with
  | false => exact ⟨fun _ => ⟨by omega, mx_xKI2 (g_field (d := d - 1) g).2.1 ⟨sx.k0, fin _⟩⟩, fun c => absurd rfl c⟩
  | true => exact ⟨fun c => absurd c (by decide), fun _ => ⟨by omega, mx_xKI2 (g_field (d := d - 1) g).2.2.1 ⟨sx.k0, fin _⟩⟩⟩
end MXFU
