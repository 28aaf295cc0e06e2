/-! Commands.echo -/
section MXEC
variable {h h1 h2 hA hB : mxH} {d x g c s n : Nat} {w : spW} {D : pmC} {F : spF} {nc na : Nat} {fa fd : Nat → Nat} {A : Nat → Option Nat} {oh : Option Nat} {l l0 : spL} {v : Int32}
theorem sc_ne5b (c : SC h) {b : Nat} (hb : b = 131 ∨ b = 282 ∨ b = 283 ∨ b = 284 ∨ b = 285) : hpK h b ≠ 5 := by
  rcases hb with rfl | rfl | rfl | rfl | rfl
  · rw [sc_k131 c]; decide
  · rw [sc_k282 c]; decide
  · rw [sc_k283 c]; decide
  · rw [sc_k284 c]; decide
  · rw [sc_k285 c]; decide
theorem CP.mono {ln ln' : Int32 → spL → Prop} {c0 fi la ql qn : Nat → Int32} (c : CP ln c0 fi la ql qn w) (m : ∀ v l, ln v l → ln' v l) : CP ln' c0 fi la ql qn w := by
  obtain ⟨Qs, fr, made, a1, a2, a3, a4, a5, a6, r⟩ := c
  exact ⟨Qs, fr, made, a1, a2, a3, a4, a5, fun a ha => ⟨(a6 a ha).1, (a6 a ha).2.1, (a6 a ha).2.2.1, (a6 a ha).2.2.2.1, fun k h1 h2 => m _ _ ((a6 a ha).2.2.2.2 k h1 h2)⟩, r⟩
theorem WC.tx (c : WC h A s w) (e : ExI pTX h h1) : WC h1 A s w := by
  obtain ⟨c1, c2, c3, c4⟩ := c
  have r : ∀ b, b ≠ 283 → b ≠ 284 → hpI h1 b = hpI h b := fun b h1 h2 => e.2.2.2.2.2.2.2 b (fun c => c.elim h1 h2)
  refine ⟨c1.fp e.fp, CWh_cg c2 (fun b hb => r b (by omega) (by omega)) (by rw [e.2.2.2.2.2.1]), CPh_cg c3 (fun b hb => r b (by omega) (by omega)), c4.cg e.1 e.2.2.2.1 (fun o k ho => ?_) rfl (Nat.le_refl _) (Nat.le_refl _)⟩
  rw [r o (c4.far ho (sc_ne5b c1 (by omega))) (c4.far ho (sc_ne5b c1 (by omega)))]
theorem WC.mkd (c : WC h A s w) (m : MkD h h1 n v l) : WC h1 A s w := by
  obtain ⟨c1, c2, c3, c4⟩ := c
  obtain ⟨e, -, -, mo⟩ := m
  have r : ∀ b, b < 131 ∨ 134 < b → hpI h1 b = hpI h b := fun b hb => e.2.2.2.2.2.2.2 b (fun c => by have := c.1; have := c.2; omega)
  refine ⟨c1.fp e.fp, ?_, ?_, c4.cg e.1 e.2.2.2.1 (fun o k ho => ?_) rfl (Nat.le_refl _) (Nat.le_refl _)⟩
  · show CW (CLn h1) (hpI h1 140) (hpI h1 (140 + 2)) (hpI h1 (140 + 3)) (hpI h1 (140 + 4)) (hpI h1 (140 + 5)) (hpI h1 (140 + 19)) (hpL h1 (140 + 1)) s w
    rw [r 140 (by decide), r (140 + 2) (by decide), r (140 + 3) (by decide), r (140 + 4) (by decide), r (140 + 5) (by decide), r (140 + 19) (by decide), e.2.2.2.2.2.1]
    exact CW.mono c2 mo
  · show CP (CLn h1) (hpI h1 135) (hpI h1 136) (hpI h1 137) (hpI h1 138) (hpI h1 139) w
    rw [r 135 (by decide), r 136 (by decide), r 137 (by decide), r 138 (by decide), r 139 (by decide)]
    exact CP.mono c3 mo
  · have n1 := c4.far ho (sc_ne5b c1 (b := 131) (by omega))
    have n2 := c4.far ho (sc_ne5 c1 (b := 132) (by omega))
    have n3 := c4.far ho (sc_ne5 c1 (b := 133) (by omega))
    have n4 := c4.far ho (sc_ne5 c1 (b := 134) (by omega))
    rw [r o (by omega)]
theorem CU.nil (c : CU h n) : CLn h 0 [] := ⟨0, rfl, by omega, Or.inl rfl, by decide, c.1, fun k hk => absurd hk (Nat.not_lt_zero _)⟩
theorem tk_app {α : Type} {X Y : List α} {n : Nat} : ((X.take n) ++ Y).take n = (X ++ Y).take n := by
  rw [List.take_append, List.take_append, List.take_take, Nat.min_self, List.length_take]
  rw [show n - min n X.length = n - X.length by omega]
/-- the end of an echo -/
def EcE (A : Nat → Option Nat) (s n : Nat) (w : spW) (oh : Option Nat) (l : spL) (h : mxH) (r : mxRes) (h1 : mxH) : Prop := ∃ hA hB v, ExI pTX h hA ∧ MkD hA hB n v l ∧ r = .inl (some (.int (if (wrLine w oh l).1 = true then 0 else 1))) ∧ WC h1 A s (wrLine w oh l).2 ∧ FrR A hB h1
theorem ec_15 (hd : 3 ≤ d) {i q : Nat} (hi : i + q = (kAr D c).length) (a : AC h1 g x D nc na fa fd F) (hc : c < nc) (cw : WC h1 A s w) (ch : RHc A (hpR h1 (x + 9) 1) oh) (cu : CU h1 n) (hn : n < 3199) (room : totU w < 12040) (e0 : ExI pTX h h1) (t : TX h1 ((joinA (((kAr D c).map (evA F)).take i)).take 80)) :
    mx_SX mY_X1_echo d 15 [(0, .ref 283), (1, .ref g), (2, .ref x), (3, .int (nI c)), (4, .int (nI (kAr D c).length)), (5, .int (nI i))] [] h1 (EcE A s n w oh ((joinA ((kAr D c).map (evA F))).take 80) h) := by
  have len : ((kAr D c).map (evA F)).length = (kAr D c).length := List.length_map ..
  have l7 : (kAr D c).length ≤ 700 := by
    have q1 := (a.2.2.2.2.1.2.2.1.2.2 c hc).2.1
    have q2 := a.2.2.2.2.1.2.2.1.1
    omega
  induction q generalizing i h1 with
  | zero =>
    refine b_X1_echo_15 283 g x _ _ _ ⟨fun _ => ⟨sc_k283 a.1, 131, sc_r283_2 a.1, 284, sc_r283_3 a.1, by omega, sc_k131 a.1, ?_⟩, fun c => absurd ((nI_leI (by omega) (by omega)).mpr (by omega)) c⟩
    have tk : ((kAr D c).map (evA F)).take i = (kAr D c).map (evA F) := List.take_of_length_le (by omega)
    rw [tk] at t
    rw [t.1]
    refine (k_X3_make (d := d - 1) (st := 0) (by omega) a.1 cu hn (sc_k284 a.1) (by rw [sc_z284 a.1]; decide) (by rw [sc_z284 a.1]; have := t.2.1; omega) (fun k hk => by rw [Nat.zero_add]; exact t.2.2 k hk)).mono ?_
    rintro r hB ⟨v, rfl, mk⟩
    rw [List.take_of_length_le t.2.1] at mk
    have cB := cw.mkd mk
    refine Or.inl ⟨v, rfl, sc_k283 cB.1, (k_X1_writeLine (by omega) cB (a.2.1.fp mk.1.fp) (by rw [mk.1.2.2.2.2.2.2.1]; exact ch) mk.2.2.1 (mk.2.2.2 _ _ cu.nil) room).mono ?_⟩
    rintro r h2 ⟨rfl, c2, f2⟩
    refine Or.inl ⟨_, rfl, ?_⟩
    cases e : (wrLine w oh (List.take 80 (joinA ((kAr D c).map (evA F))))).1 with
    | true => exact ⟨fun c => absurd c (by decide), fun _ => ⟨h1, hB, v, e0, mk, by rw [e]; rfl, c2, f2⟩⟩
    | false => exact ⟨fun _ => ⟨h1, hB, v, e0, mk, by rw [e]; rfl, c2, f2⟩, fun c => absurd rfl c⟩
  | succ q ih =>
    have hl : i < (kAr D c).length := by omega
    have i31 : i < 2 ^ 31 := by omega
    have nx : ∀ (h2 : mxH) (T : spL), AC h2 g x D nc na fa fd F → WC h2 A s w → RHc A (hpR h2 (x + 9) 1) oh → CU h2 n → ExI pTX h h2 → TX h2 T → (T ++ ((kAr D c).map (evA F)).getD i []).take 80 = (joinA (((kAr D c).map (evA F)).take (i + 1))).take 80 → mx_SX mY_X1_echo d 64 [(0, .ref 283), (1, .ref g), (2, .ref x), (3, .int (nI c)), (4, .int (nI (kAr D c).length)), (5, .int (nI i))] [] h2 (EcE A s n w oh ((joinA ((kAr D c).map (evA F))).take 80) h) := by
      intro h2 T a2 cw2 ch2 cu2 e2 t2 eT
      obtain ⟨v, k1, k2⟩ := a2.one (d := d - 1) (idx := i) (c := c) (by omega) t2 hc i31
      refine b_X1_echo_64 283 g x _ _ _ ⟨by omega, (a2.1.pb a2.2.2.2.1).1, mx_xKI2 k1 ⟨sc_k283 a2.1, k2.mono ?_⟩⟩
      rintro r h3 ⟨rfl, e3, t3⟩
      rw [eT] at t3
      refine Or.inl ⟨rfl, ?_⟩
      rw [nI_1]
      exact ih (by omega) (a2.ex e3) (cw2.tx e3) (by rw [e3.2.2.2.2.2.2.1]; exact ch2) (CU_cg cu2 (fun b h1 h2 => e3.2.2.2.2.2.2.2 b (fun c => by rcases c with c | c <;> omega))) (e2.tr e3) t3
    have eg : ((kAr D c).map (evA F)).getD i [] = ((kAr D c).map (evA F))[i]'(by omega) := gd_at (by omega)
    have et := List.take_succ_eq_append_getElem (l := (kAr D c).map (evA F)) (i := i) (by omega)
    have ej := joinA_snoc (((kAr D c).map (evA F)).take i) (((kAr D c).map (evA F))[i]'(by omega))
    rw [← et, ← eg] at ej
    refine b_X1_echo_15 283 g x _ _ _ ⟨fun c => absurd c (nI_ge (by omega) (by omega)), fun _ => ⟨fun c1 => ?_, fun c1 => ⟨sc_k283 a.1, ?_⟩⟩⟩
    · have i0 : i = 0 := by
        rcases Nat.eq_zero_or_pos i with e | e
        · exact e
        · exact absurd c1 (nI_nle e i31)
      subst i0
      refine nx h1 _ a cw ch cu e0 t ?_
      rw [ej, List.take_zero, if_pos rfl]
      rfl
    · have ip : 0 < i := by
        rcases Nat.eq_zero_or_pos i with e | e
        · subst e; exact absurd (by decide) c1
        · exact e
      have nn : ((kAr D c).map (evA F)).take i ≠ [] := fun e => by
        have := congrArg List.length e
        rw [List.length_take, List.length_nil] at this
        omega
      rw [if_neg nn] at ej
      rw [t.1]
      refine ⟨fun c => absurd c (nI_pos (by have := t.2.1; omega)), fun _ => ⟨fun c2 => ?_, fun c2 => ⟨284, sc_r283_3 a.1, sc_k284 a.1, ?_, ?_⟩⟩⟩
      · have g8 : 80 ≤ (joinA (((kAr D c).map (evA F)).take i)).length := by
          have q := (nI_leI (a := 80) (by omega) (by have := t.2.1; omega)).mp c2
          rw [List.length_take] at q
          omega
        refine nx h1 _ a cw ch cu e0 t ?_
        rw [ej, tk_app, List.take_append_of_le_length g8, List.take_append_of_le_length g8]
      · have l8 : ((joinA (((kAr D c).map (evA F)).take i)).take 80).length < 80 := by
          rcases Nat.lt_or_ge ((joinA (((kAr D c).map (evA F)).take i)).take 80).length 80 with q | q
          · exact q
          · exact absurd ((nI_leI (a := 80) (by omega) (by have := t.2.1; omega)).mpr q) c2
        rw [sc_z284 a.1]
        exact vp_in_nI (by omega) (by omega)
      · have l8 : ((joinA (((kAr D c).map (evA F)).take i)).take 80).length < 80 := by
          rcases Nat.lt_or_ge ((joinA (((kAr D c).map (evA F)).take i)).take 80).length 80 with q | q
          · exact q
          · exact absurd ((nI_leI (a := 80) (by omega) (by have := t.2.1; omega)).mpr q) c2
        have le8 : (joinA (((kAr D c).map (evA F)).take i)).take 80 = joinA (((kAr D c).map (evA F)).take i) := by
          rw [List.length_take] at l8
          exact List.take_of_length_le (by omega)
        rw [nI_clamp (by omega)]
        rintro _ rfl _ rfl
        have e3 : ExI pTX h1 (hsI (hsI h1 284 ((joinA (((kAr D c).map (evA F)).take i)).take 80).length (32 : Int32).toInt8.toInt32) 283 4 (nI (((joinA (((kAr D c).map (evA F)).take i)).take 80).length + 1))) := (ExI.rf.I (Or.inr rfl)).I (Or.inl rfl)
        rw [hpI_sIn (show 283 ≠ 284 by decide), t.1, nI_1]
        refine nx _ ((joinA (((kAr D c).map (evA F)).take i)).take 80 ++ [32]) (a.ex e3) (cw.tx e3) ch (CU_cg cu (fun b h1 h2 => e3.2.2.2.2.2.2.2 b (fun c => by rcases c with c | c <;> omega))) (e0.tr e3) ⟨?_, ?_, fun k hk => ?_⟩ ?_
        · rw [hpI_sI, if_pos rfl, if_pos rfl, List.length_append]; rfl
        · rw [List.length_append]; exact l8
        · rw [hpI_sIn (show 284 ≠ 283 by decide), hpI_sIe]
          rw [List.length_append, List.length_singleton] at hk
          rcases Nat.lt_or_ge k ((joinA (((kAr D c).map (evA F)).take i)).take 80).length with q | q
          · rw [fup_n (by omega), List.getElem_append_left q]
            exact t.2.2 k q
          · have ek : k = ((joinA (((kAr D c).map (evA F)).take i)).take 80).length := by omega
            subst ek
            rw [List.getElem_append_right q, fup_e]
            simp only [Nat.sub_self, List.getElem_cons_zero]
            exact ⟨by decide, by decide⟩
        · rw [ej, le8, List.append_assoc]
          rfl
theorem k_X1_echo (hd : 4 ≤ d) (a : AC h g x D nc na fa fd F) (hc : c < nc) (cw : WC h A s w) (ch : RHc A (hpR h (x + 9) 1) oh) (cu : CU h n) (hn : n < 3199) (room : totU w < 12040) :
    mx_SM mY_X1_echo d [.ref 283, .ref g, .ref x, .int (nI c)] h (EcE A s n w oh ((joinA ((kAr D c).map (evA F))).take 80) h) := by
  refine b_X1_echo 283 g x (nI c) ⟨sc_k283 a.1, ?_⟩
  rintro _ rfl
  have e0 : ExI pTX h (hsI h 283 4 0) := ExI.rf.I (Or.inl rfl)
  have aH := a.ex e0
  refine ⟨by omega, (a.1.pb a.2.2.2.1).1, mx_xKI2 (p_argumentsOf (by omega) (aH.1.pb aH.2.2.2.1) aH.2.2.2.2.1 hc) ?_⟩
  exact ec_15 (i := 0) (q := (kAr D c).length) (by omega) (Nat.zero_add _) aH hc (cw.tx e0) ch (CU_cg cu (fun b h1 h2 => e0.2.2.2.2.2.2.2 b (fun c => by rcases c with c | c <;> omega))) hn room e0 (TX.nil (by rw [hpI_sI, if_pos rfl, if_pos rfl]))
end MXEC
