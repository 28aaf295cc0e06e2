/-! CG where an open file that the middle has made already is made -/
section MXOG
variable {C : cC} {h h1 h2 : mxH} {s s' d t k sl o : Nat} {w w' : spW} {A A' : Nat → Option Nat} {G : List cE} {T : List cT} {Ks : List spH} {P : cP} {cur : Option Nat} {pl rn : Int32} {XL FS VS OS inh inh' RS : List Nat} {D : pmC} {e : cE} {x : Nat} {fh hs : spH} {F F' : spF} {en en' : Bool} {jb : List spJ} {js : List Nat} {p : Nat → Prop} {a b c v : Int32} {ln : Int32 → spL → Prop}
theorem g_openG {kd i a0 : Nat} {lo : List spO} {fl pp : Int32} (hd : 2 ≤ d) (g : CG C h s w A G T Ks P cur pl rn XL FS VS OS []) (k1 : 1 ≤ kd) (k6 : kd ≤ 6) (hf : (kd = 2 ∨ kd = 3 ∨ kd = 4) → fl = nI i ∧ i < (wF w).length) (hp : (kd = 5 ∨ kd = 6) → pp = nI i ∧ i < (wU w).length) (ha0 : (wO w ++ lo)[a0]? = some (kd, i, 0)) (hA0 : ∀ o, A o ≠ some a0) :
    mx_SM mY_X0_open d [.ref 135, .int (nI kd), .int fl, .int pp, .int 0] h (mx_KR (fun v h1 => ∃ o OS' A0, v = some o ∧ mx_kd h1 o 5 ∧ A0 o = none ∧ (∀ o a, A0 o = some a → A o = some a) ∧ (∀ sl ∈ cRS XL VS, ∀ k, k < 10 → ∀ o, hpR h sl k = some o → A0 o = A o) ∧ CG C h1 s (uO w (wO w ++ lo)) (fup A0 o (some a0)) G T Ks P cur pl rn XL FS VS OS' [o]) (fun _ _ => False)) := by
  refine (c_X0_open hd g.2.2.2.1 ⟨by have := g.sc.1; omega, sc_k135 g.sc⟩).mono ?_
  intro r h1 q
  rcases q with ⟨v, rfl, o, rfl, oi1, fr, rc0, -, kd1, e0, e1, e2, e3, grow⟩ | ⟨_, _, q⟩
  · refine Or.inl ⟨_, rfl, o, if hpN h1 = hpN h then OS else o :: OS, fup A o none, rfl, kd1, fup_e, ?_⟩
    have m1 : ∀ o' a, fup A o none o' = some a → A o' = some a := fun o' a ha => by
      by_cases c : o' = o
      · rw [c, fup_e] at ha; exact nomatch ha
      · rw [fup_n c] at ha; exact ha
    have m2 : ∀ sl ∈ cRS XL VS, ∀ k, k < 10 → ∀ o', hpR h sl k = some o' → fup A o none o' = A o' := fun sl hs k hk o' ho => by
      refine fup_n fun c => ?_
      have := rcnt_pos (cRS XL VS) hs hk ho
      rw [c, rc0] at this
      exact absurd this (Nat.lt_irrefl _)
    refine ⟨m1, m2, ?_⟩
    have g0 := g.reA m1 m2
    have A0n : fup A o none o = none := fup_e
    generalize fup A o none = A0 at g0 A0n m1 m2 ⊢
    obtain ⟨k0, fc, ⟨w1, w2, w3, w4⟩, oi, cu0, cgs, cgp, ⟨g1, g2, g3, g4, g5, g6, g7, g8⟩, cgr, cgq, ⟨n1, n2, n3, n4, n5, n6, n7⟩⟩ := g0
    have so : ∀ e ∈ G, SB h e.1 ∧ (e.1 = 146 ∨ 365 ≤ e.1) := fun e he => cgs.at he
    obtain ⟨s1, s2, s3, s4, s5, s6⟩ := cgs
    obtain ⟨fN, fC, fS, fL, fp, fI, fR⟩ := fr
    have N365 := w1.1
    have on : ∀ b, b < hpN h → hpK h b ≠ 5 → b ≠ o := fun b hb hk c => by
      have := (fp.2 b hb).1
      rw [c, kd1.2] at this
      exact hk (by rw [c, ← this])
    have eI : ∀ b, b < hpN h → hpK h b ≠ 5 → hpI h1 b = hpI h b := fun b hb hk => by funext k; exact fI b k (on b hb hk)
    have eR : ∀ b, b < hpN h → hpK h b ≠ 5 → b ≠ 135 → hpR h1 b = hpR h b := fun b hb hk h135 => by funext k; exact fR b k (on b hb hk) (Or.inl h135)
    have eL : ∀ b, b < hpN h → hpK h b ≠ 5 → hpL h1 b = hpL h b := fun b hb hk => by
      rw [fL]
      split
      · rfl
      · exact fup_n (on b hb hk)
    have el : CLn h1 = CLn h := CLn_cg (fun b q1 q2 => eI b (by omega) (sc_ne5 w1 (by omega)))
    have mA : ∀ o' a, A0 o' = some a → fup A0 o (some a0) o' = some a := fun o' a ha => by
      rw [fup_n (fun e => by rw [e, A0n] at ha; exact nomatch ha)]; exact ha
    have rows : ∀ sl ∈ cRS XL VS, ∀ k, k < 10 → hpR h1 sl k = hpR h sl k := fun sl hs k _ => by
      have q := (oi.2.2.1 sl hs).1
      refine fR sl k (on sl q.1 (by rw [q.2]; decide)) (Or.inl fun c => ?_)
      have := q.2
      rw [c, sc_k135 w1] at this
      exact absurd this (by decide)
    have mV : ∀ y ∈ VS, y + 1 ∈ cRS XL VS := fun y hy => by unfold cRS; simp; exact Or.inr (Or.inr (Or.inr hy))
    have mP : ∀ y ∈ pastX, y + 9 ∈ cRS XL VS := fun y hy => by unfold cRS; simp; exact Or.inr (Or.inr (Or.inl hy))
    have n282 := sc_ne5b w1 (b := 282) (by decide)
    refine ⟨k0, fc.tr k0.2.1 fp fun a ha => ?_, ⟨w1.fp fp, ?_, ?_, ?_, ?_⟩, oi1, CU_cg cu0 (fun b q1 q2 => eI b (by omega) ?_), ⟨fun e he => ?_, s2, s3, s4, fun y hy => ⟨(s5 y hy).1.fp fp, (s5 y hy).2⟩, ?_⟩, fun e he => ?_, ⟨?_, ?_, g3, ?_, ?_, g6, g7, fun k hk => ?_⟩, ?_, ⟨fun y hy k hk => ?_, fun v l q => by rw [el]; exact cgq.2 v l q⟩, ?_⟩
    · have cin := cst_in ha
      have k5 := k0.ne5 fc ha
      exact ⟨eI a (by omega) k5, eL a (by omega) k5, fun _ => eR a (by omega) k5 (by omega)⟩
    · show CW (CLn h1) (hpI h1 140) (hpI h1 (140 + 2)) (hpI h1 (140 + 3)) (hpI h1 (140 + 4)) (hpI h1 (140 + 5)) (hpI h1 (140 + 19)) (hpL h1 (140 + 1)) s w
      rw [el, eL (140 + 1) (by omega) (sc_ne5 w1 (by decide)), eI 140 (by omega) (sc_ne5 w1 (by decide)), eI (140 + 2) (by omega) (sc_ne5 w1 (by decide)), eI (140 + 3) (by omega) (sc_ne5 w1 (by decide)), eI (140 + 4) (by omega) (sc_ne5 w1 (by decide)), eI (140 + 5) (by omega) (sc_ne5 w1 (by decide)), eI (140 + 19) (by omega) (sc_ne5 w1 (by decide))]
      exact w2
    · show CP (CLn h1) (hpI h1 135) (hpI h1 136) (hpI h1 137) (hpI h1 138) (hpI h1 139) w
      rw [el, eI 135 (by omega) (sc_ne5 w1 (by decide)), eI 136 (by omega) (sc_ne5 w1 (by decide)), eI 137 (by omega) (sc_ne5 w1 (by decide)), eI 138 (by omega) (sc_ne5 w1 (by decide)), eI 139 (by omega) (sc_ne5 w1 (by decide))]
      exact w3
    · intro o' a ha
      by_cases c : o' = o
      · subst c
        rw [fup_e] at ha
        obtain rfl := Option.some.inj ha
        refine ⟨kd1, (kd, i, 0), ?_, e0, k1, k6, e3, Nat.zero_le _, fun q => ?_, fun q => ?_⟩
        · exact ha0
        · rw [e1]; exact hf q
        · rw [e2]; exact hp q
      · rw [fup_n c] at ha
        obtain ⟨q0, q, q1, q2, q3, q4, q5, q6, q7, q8⟩ := w4.1 o' a ha
        refine ⟨fp.kd q0, q, ?_, by rw [fI o' 0 c]; exact q2, q3, q4, by rw [fI o' 3 c]; exact q5, q6, fun r => ?_, fun r => ?_⟩
        · show (wO w ++ lo)[a]? = _
          rw [List.getElem?_append_left (List.getElem?_eq_some_iff.mp q1).1]; exact q1
        · rw [fI o' 1 c]; exact q7 r
        · rw [fI o' 2 c]; exact q8 r
    · intro o1 o2 a h1' h2'
      have lt : ∀ o', o' ≠ o → fup A0 o (some a0) o' = some a → a ≠ a0 := fun o' c ha e => by
        rw [fup_n c, e] at ha
        exact hA0 o' (m1 o' a0 ha)
      by_cases c1 : o1 = o
      · by_cases c2 : o2 = o
        · rw [c1, c2]
        · have := lt o2 c2 h2'
          rw [c1, fup_e] at h1'
          exact absurd (Option.some.inj h1').symm this
      · by_cases c2 : o2 = o
        · have := lt o1 c1 h1'
          rw [c2, fup_e] at h2'
          exact absurd (Option.some.inj h2').symm this
        · rw [fup_n c1] at h1'
          rw [fup_n c2] at h2'
          exact w4.2 o1 o2 a h1' h2'
    · rcases Nat.eq_or_lt_of_le q1 with c | c
      · exact sc_ne5b w1 (by omega)
      · exact sc_ne5 w1 (by omega)
    · obtain ⟨sy, hy⟩ := so e he
      have zn := sy.1
      exact (s1 e he).cg fp (fun j hj => eI _ (by omega) (sy.ne5 hj)) (fun j hj => eL _ (by omega) (sy.ne5 hj)) (fun j hj _ k _ => by rw [eR _ (by omega) (sy.ne5 hj) (by omega)]) mA (fun v l c => by rw [el]; exact c)
    · rw [eR 282 (by omega) n282 (by decide)]
      refine s6.cg (fun y hy => ?_)
      have sy := s5 y ((s3 y).mpr (List.mem_append_right _ hy))
      rw [eR y (by have := sy.1.1; omega) (sy.1.ne5 (i := 0) (by decide)) (by omega)]
    · obtain ⟨sy, hy⟩ := so e he
      have c := cgp e he
      rw [eR e.1 (by have := sy.1; omega) (sy.ne5 (i := 0) (by decide)) (by omega), eI e.1 (by have := sy.1; omega) (sy.ne5 (i := 0) (by decide))]
      exact c
    · rw [eI 285 (by omega) (sc_ne5b w1 (by decide))]; exact g1
    · rw [eI 282 (by omega) n282]; exact g2
    · exact g4.cg fp (fun v hv => ⟨(oi.2.2.1 (v + 1) (mV v hv)).1.1, by omega⟩) (fun k => by rw [eR 286 (by omega) (by rw [sc_k286 w1]; decide) (by decide)]) (fun v hv k hk => rows (v + 1) (mV v hv) k hk) mA
    · rw [eI 282 (by omega) n282]; exact g5
    · rw [rows 288 (by unfold cRS; simp) k hk]
      exact (g8 k hk).mono mA
    · unfold CGr at cgr ⊢
      rw [eI 282 (by omega) n282, eR 282 (by omega) n282 (by decide)]
      exact cgr
    · have mp := mP y hy
      rw [rows (y + 9) mp k hk]
      refine ⟨(cgq.1 y hy k hk).1, fun o' ho => ?_⟩
      have q := (cgq.1 y hy k hk).2 o' ho
      have ne : o' ≠ o := fun c => by
        have := rcnt_pos (cRS XL VS) mp hk ho
        rw [c, rc0] at this
        exact absurd this (Nat.lt_irrefl _)
      exact ⟨by rw [fup_n ne]; exact q.1, fun c hc => by rw [fI o' c ne]; exact q.2 c hc⟩
    · have k5 : ∀ o', o' ≠ o → (mx_kd h1 o' 5 ↔ mx_kd h o' 5) := fun o' ne => by
        constructor
        · rintro ⟨c1, c2⟩
          have lt : o' < hpN h := by
            rcases fN with c | ⟨c, c'⟩
            · omega
            · omega
          exact ⟨lt, by rw [← (fp.2 o' lt).1]; exact c2⟩
        · exact fun c => fp.kd c
      by_cases c : hpN h1 = hpN h
      · rw [if_pos c]
        refine ⟨n1, fun o' => ?_, n3, n4, by omega, by omega, by omega⟩
        by_cases e : o' = o
        · subst e
          have lt : o' < hpN h := by have := kd1.1; omega
          exact ⟨fun _ => kd1, fun _ => (n2 o').mpr ⟨lt, by rw [← (fp.2 o' lt).1]; exact kd1.2⟩⟩
        · rw [k5 o' e]; exact n2 o'
      · rw [if_neg c]
        obtain ⟨eo, eN⟩ := fN.resolve_left c
        have l1 := OI.cnt oi (grow c) n1 n2
        have no : o ∉ OS := fun m => by have := ((n2 o).mp m).1; omega
        have l0 : 1 ≤ OS.length := by
          have : (319 : Nat) ∈ OS := (n2 319).mpr ⟨by omega, by rw [(fc.1.2 319 (by have := k0.2.1; omega)).1]; exact k0.2.2.2.2.2.2.2.2.1⟩
          exact List.length_pos_of_mem this
        refine ⟨List.nodup_cons.mpr ⟨no, n1⟩, fun o' => ?_, by rw [List.length_cons]; omega, n4, by rw [List.length_cons]; omega, by omega, by omega⟩
        by_cases e : o' = o
        · subst e
          exact ⟨fun _ => kd1, fun _ => List.mem_cons_self⟩
        · rw [k5 o' e, List.mem_cons]
          exact ⟨fun m => (n2 o').mp (m.resolve_left e), fun m => Or.inr ((n2 o').mpr m)⟩
  · exact q.elim
end MXOG
