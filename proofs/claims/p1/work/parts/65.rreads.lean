/-! THE REFERENCE: reading a line -/
section MXRD
variable {d : Nat} {h0 h : mxH} {w : spW} {G : List spE} {V : List (Option (Option Nat))} {P : List spX} {n m xs : Nat} {Q : mxRes → mxH → Prop}
theorem k_X12_lineIn {f k : Nat} (s : SR h) (hb : 2 + 41 * f + k < 471) : mx_SM mY_X12_lineIn d [.ref 320, .int (nI f), .int (nI k)] h (mx_xct (.inl (some (.int (hpI h 342 (2 + 41 * f + k))))) h) := by
  refine b_X12_lineIn 320 _ _ ⟨sr_k s, 342, sr_r56 s, sr_k342 s, ?_⟩
  simp (disch := omega) only [nI_lit, pk_mul, nI_add, nI_clamp, sr_z342 s, vpT, true_and]
  rw [show 1 + 41 * f + 1 + k = 2 + 41 * f + k by omega]
  exact ⟨rfl, rfl⟩
theorem k_X12_setsLine {f k : Nat} {v : Int32} (s : SR h) (hb : 2 + 41 * f + k < 471) : mx_SM mY_X12_setsLine d [.ref 320, .int (nI f), .int (nI k), .int v] h (mx_xct (.inl none) (hsI h 342 (2 + 41 * f + k) v)) := by
  refine b_X12_setsLine 320 _ _ _ ⟨sr_k s, 342, sr_r56 s, sr_k342 s, ?_⟩
  simp (disch := omega) only [nI_lit, pk_mul, nI_add, nI_clamp, sr_z342 s, vpT, true_and, forall_eq]
  rw [show 1 + 41 * f + 1 + k = 2 + 41 * f + k by omega]
  exact ⟨rfl, rfl⟩
/-- readsFile -/
theorem k_X12_readsFile (hd : 1 ≤ d) {X : List (Int32 × spL)} {Y Z : List (Int32 × Nat)} (r : RG h0 h w G V P (X, Y, Z) n m xs) {o a : Nat} {q : spO} (hy : (nI o, a) ∈ Y) (ho : o < 4000) (hq : (wO w)[a]? = some q)
    (h5 : hpI h 345 o = nI q.2.1) (h6 : hpI h 346 o = nI q.2.2) (hf : q.2.1 < (wF w).length) (hp : q.2.2 ≤ 40) :
    mx_SM mY_X12_readsFile d [.ref 320, .int (nI o)] h (mx_KI (fun v h1 => (∃ l, (lnsOf w q.2.1)[q.2.2]? = some l ∧ (∃ i, v = nI i ∧ i < 4400) ∧ RG h0 h1 (uO w ((wO w).set a (q.1, q.2.1, q.2.2 + 1))) G V P ((v, l) :: X, Y, Z) n m xs) ∨
      ((lnsOf w q.2.1)[q.2.2]? = none ∧ v = -1 ∧ RG h0 h1 w G V P (X, Y, Z) n m xs)) fun _ _ => False) := by
  have s := r.sr
  obtain ⟨f1, f2, f3, f4⟩ := r.rw1.at hf
  refine b_X12_readsFile 320 _ ⟨sr_k s, 345, sr_r59 s, sr_k345 s, ?_⟩
  simp (disch := omega) only [sr_z345 s, vpT, true_and, nI_clamp, h5]
  refine ⟨346, sr_r60 s, sr_k346 s, by rw [sr_z346 s]; exact vp_in_nI ho (by omega), hd, mx_xKI2 (k_X12_linesOf s f4) ?_⟩
  rw [f1, h6]
  refine ⟨fun c => ?_, fun c => ?_⟩
  · have lt : q.2.2 < (lnsOf w q.2.1).length := (nI_ltI (by omega) (by omega)).mp c
    refine ⟨sr_k s, 346, sr_r60 s, sr_k346 s, by rw [sr_z346 s]; exact vp_in_nI ho (by omega), ?_⟩
    rw [h6, nI_1]
    rintro _ rfl
    have r2 := r.pos (ps := q.2.2 + 1) hy ho hq (by omega)
    have s2 := r2.sr
    refine ⟨346, sr_r60 s2, sr_k346 s2, by rw [sr_z346 s2]; exact vp_in_nI ho (by omega), ?_⟩
    rw [hpI_sIs, fup_e, nI_pred]
    refine mx_xKI2 (k_X12_lineIn s2 (by omega)) ?_
    rw [hpI_sIo (by decide)]
    obtain ⟨i, i1, i2, i3⟩ := f3 q.2.2 lt
    refine Or.inl ⟨_, rfl, Or.inl ⟨(lnsOf w q.2.1)[q.2.2], List.getElem?_eq_getElem lt, ⟨i, i1, i2⟩, ?_⟩⟩
    refine r2.hold (N := (X, Y, Z)) (fun ln hw => ?_) fun L hL => ?_
    · have := (RW.at hw (show q.2.1 < (wF w).length from hf)).2.2.1 q.2.2 lt
      rw [hpI_sIo (by decide)] at this
      exact this
    · rw [hpI_sIo (by decide)] at hL
      exact hL.1 q.2.1 f4 q.2.2 (by rw [f1, nI_clamp (by omega)]; exact lt)
  · have ge : (lnsOf w q.2.1).length ≤ q.2.2 := Nat.le_of_not_lt fun g => c (nI_lt g (by omega))
    exact Or.inl ⟨_, rfl, Or.inr ⟨List.getElem?_eq_none ge, rfl, r⟩⟩
/-- the terminal's input moves up -/
theorem rt_46 (s : SR h) {v : Int32} {c : Nat} (hc : c ≤ 40) (hc1 : 1 ≤ c) : ∀ m k f, k + m = c → 1 ≤ k → f 329 = nI c → (∀ j, (j < 330 ∨ 329 + c ≤ j) → f j = hpI h 342 j) → (∀ j, 1 ≤ j → j < k → f (329 + j) = hpI h 342 (330 + j)) → (∀ j, k ≤ j → j ≤ c → f (329 + j) = hpI h 342 (329 + j)) →
    (∀ f', f' 329 = nI (c - 1) → (∀ j, (j < 329 ∨ 329 + c ≤ j) → f' j = hpI h 342 j) → (∀ j, 1 ≤ j → j < c → f' (329 + j) = hpI h 342 (330 + j)) → Q (.inl (some (.int v))) (hrI h 342 f')) →
    mx_SX mY_X12_readsTerminal d 46 [(0, .ref 320), (2, .int v), (3, .int (nI k))] [] (hrI h 342 f) Q := by
  intro m
  induction m with
  | zero =>
    intro k f hk k1 h1 h2 h3 h4 K
    have e : k = c := by omega
    subst e
    refine b_X12_readsTerminal_46 320 _ _ ⟨sr_k s, 342, sr_r56 s, sr_k342 s, ?_⟩
    simp (disch := omega) only [nI_lit, hpZ_rI, sr_z342 s, vpT, true_and, nI_clamp, hpI_rIs, h1, nI_leI, hsI_hrI, forall_eq]
    refine ⟨fun _ => K _ ?_ (fun j hj => ?_) (fun j j1 j2 => ?_), fun q => absurd (by omega) q⟩
    · rw [fup_e]; exact pk_sub (by omega)
    · rw [fup_n (by omega)]; exact h2 j (by omega)
    · rw [fup_n (by omega)]; exact h3 j j1 j2
  | succ m ih =>
    intro k f hk k1 h1 h2 h3 h4 K
    refine b_X12_readsTerminal_46 320 _ _ ⟨sr_k s, 342, sr_r56 s, sr_k342 s, ?_⟩
    simp (disch := omega) only [nI_lit, nI_add, hpZ_rI, sr_z342 s, vpT, true_and, nI_clamp, hpI_rIs, h1, nI_leI, hsI_hrI, forall_eq]
    refine ⟨fun q => absurd q (by omega), fun _ => ?_⟩
    refine ih (k + 1) _ (by omega) (by omega) ?_ (fun j hj => ?_) (fun j j1 j2 => ?_) (fun j j1 j2 => ?_) K
    · rw [fup_n (by omega)]; exact h1
    · rw [fup_n (by omega)]; exact h2 j hj
    · by_cases e : j = k
      · rw [e, fup_e, show 329 + k + 1 = 329 + (k + 1) by omega, h4 (k + 1) (by omega) (by omega)]; congr 1; omega
      · rw [fup_n (by omega)]; exact h3 j j1 (by omega)
    · rw [fup_n (by omega)]; exact h4 j (by omega) j2
/-- the input without its first line -/
theorem RG.input {X : List (Int32 × spL)} {Y Z : List (Int32 × Nat)} (r : RG h0 h w G V P (X, Y, Z) n m xs) {l : spL} {ls : List spL} (hI : wI w = l :: ls) {f : Nat → Int32} {c : Nat} (hc : hpI h 342 329 = nI c) (hcl : c = ls.length + 1)
    (f1 : f 329 = nI (c - 1)) (f2 : ∀ j, (j < 329 ∨ 329 + c ≤ j) → f j = hpI h 342 j) (f3 : ∀ j, 1 ≤ j → j < c → f (329 + j) = hpI h 342 (330 + j)) :
    RG h0 (hrI h 342 f) (uI w ls) G V P ((hpI h 342 330, l) :: X, Y, Z) n m xs := by
  have r1 : RG h0 h w G V P ((hpI h 342 330, l) :: X, Y, Z) n m xs := r.hold (N := (X, Y, Z)) (fun ln hw => by
      have := hw.2.2.1.2.2
      rw [hI] at this
      exact this 0 (Nat.succ_pos _)) fun L hL => hL.2.1 0 (by rw [hc, nI_clamp (by have := r.rw1.2.2.1.2.1; rw [hI] at this; simp at this; omega)]; omega)
  have lim : ls.length + 1 ≤ 40 := by have := r.rw1.2.2.1.2.1; rw [hI] at this; simpa using this
  have hw1 := r.rw1
  have := r1.world (w' := uI w ls) (f := f) (g := hpL h 343) rfl rfl rfl rfl rfl rfl (Nat.le_refl _) (fun ln hw _ _ => by
    obtain ⟨⟨a1, a2, a3⟩, b, ⟨c1, c2, c3⟩, ⟨d1, d2, d3⟩⟩ := hw
    refine ⟨⟨by rw [f2 0 (by omega)]; exact a1, a2, fun i hi => ?_⟩, fun i i1 i2 => ?_, ⟨by rw [f1]; show nI (c - 1) = nI ls.length; rw [hcl]; rfl, by show ls.length ≤ 40; omega, fun k hk => ?_⟩, ⟨by rw [f2 370 (by omega)]; exact d1, d2, fun k hk => by rw [f2 _ (by omega)]; exact d3 k hk⟩⟩
    · have hi8 : i < 8 := by have : i < (wF w).length := hi; omega
      obtain ⟨e1, e2, e3, e4⟩ := a3 i hi
      refine ⟨e1, by rw [f2 _ (by omega)]; exact e2, e3, fun k hk => ?_⟩
      have : k < 40 := Nat.lt_of_lt_of_le hk e3
      rw [f2 _ (by omega)]; exact e4 k hk
    · obtain ⟨l2, e1, e2, e3⟩ := b i i1 i2
      refine ⟨l2, by rw [f2 _ (by omega)]; exact e1, e2, fun k hk => ?_⟩
      rw [f2 _ (by omega)]; exact e3 k hk
    · have hk' : k < ls.length := hk
      have := f3 (k + 1) (by omega) (by omega)
      rw [show 330 + k = 329 + (k + 1) by omega, this]
      rw [hI] at c3
      have := c3 (k + 1) (by simpa using hk')
      simp only [List.getElem_cons_succ] at this
      exact this) fun L hL _ _ => by
    obtain ⟨b1, b2, b3⟩ := hw1.cnt
    obtain ⟨a, b, c'⟩ := hL
    refine ⟨fun j hj k hk => ?_, fun k hk => ?_, fun k hk => ?_⟩
    · obtain ⟨y, y1, y2⟩ := b1 j hj
      have e1 : f (1 + 41 * j) = hpI h 342 (1 + 41 * j) := f2 _ (by omega)
      rw [e1] at hk
      have hk2 : k < y := by rw [y1, nI_clamp (by omega)] at hk; exact hk
      rw [f2 _ (by omega)]
      exact a j hj k hk
    · rw [f1, nI_clamp (by omega)] at hk
      have := f3 (k + 1) (by omega) (by omega)
      rw [show 330 + k = 329 + (k + 1) by omega, this]
      have := b (k + 1) (by rw [hc, nI_clamp (by omega)]; omega)
      exact this
    · obtain ⟨y, y1, y2⟩ := b3
      have e1 : f 370 = hpI h 342 370 := f2 _ (by omega)
      rw [e1] at hk
      rw [f2 _ (by omega)]
      exact c' k hk
  have e : hrL (hrI h 342 f) 343 (hpL h 343) = hrI h 342 f := hrL_self (h := hrI h 342 f)
  rw [e] at this
  exact this
/-- what reading leaves -/
def rdP (h0 : mxH) (w : spW) (G : List spE) (V : List (Option (Option Nat))) (P : List spX) (X : List (Int32 × spL)) (Y Z : List (Int32 × Nat)) (n m xs s : Nat) (S : spS) (js : List Nat) (q : (Nat × spL) × spW) (v : Int32) (h1 : mxH) : Prop :=
  (q.1.1 = 0 ∧ (∃ i, v = nI i ∧ i < 4400) ∧ RG h0 h1 q.2 ((s, S, js) :: G) V P ((v, q.1.2) :: X, Y, Z) n m xs) ∨ (q.1.1 = 1 ∧ v = -1 ∧ RG h0 h1 q.2 ((s, S, js) :: G) V P (X, Y, Z) n m xs) ∨
  (q.1.1 = 2 ∧ v = -2 ∧ RG h0 h1 q.2 ((s, S, js) :: G) V P (X, Y, Z) n m xs) ∨ (q.1.1 = 3 ∧ v = -2 ∧ RG h0 h1 q.2 ((s, (vS S.1 149, true, S.2.2), js) :: G) V P (X, Y, Z) n m xs)
theorem k_X12_readsTerminal (hd : 2 ≤ d) {X : List (Int32 × spL)} {Y Z : List (Int32 × Nat)} {s : Nat} {S : spS} {js : List Nat} (r : RG h0 h w ((s, S, js) :: G) V P (X, Y, Z) n m xs) :
    mx_SM mY_X12_readsTerminal d [.ref 320, .int (nI s)] h (mx_KI (rdP h0 w G V P X Y Z n m xs s S js (if fG S.1 = true then ((3, []), w) else match wI w with
      | [] => ((1, []), w)
      | l :: ls => ((0, l), uI w ls))) fun _ _ => False) := by
  have hs := r.own.1
  have sr := r.sr
  have e35 : hpI h 354 (83 * s + 35) = (if fG S.1 = true then 1 else 0) := r.own.2.1.2.2.2.2.2.2.1
  obtain ⟨c1, c2, c3⟩ := r.rw1.2.2.1
  refine b_X12_readsTerminal 320 _ ⟨by omega, sr_k sr, mx_xKI2 (k_X12_of (j := 35) sr (by omega)) ?_⟩
  rw [e35]
  cases hg : fG S.1
  · refine ⟨fun _ => ⟨sr_k sr, 342, sr_r56 sr, sr_k342 sr, ?_⟩, fun c => absurd c (by decide)⟩
    simp (disch := omega) only [nI_lit, sr_z342 sr, vpT, true_and, nI_clamp, c1]
    refine ⟨fun c => ?_, fun c => ?_⟩
    · obtain ⟨l, ls, hI⟩ : ∃ l ls, wI w = l :: ls := by
        cases e : wI w with
        | nil => rw [e] at c; exact absurd rfl c
        | cons l ls => exact ⟨l, ls, rfl⟩
      have lw : (wI w).length = ls.length + 1 := by rw [hI]; rfl
      rw [← hrI_self (h := h) (a := 342)]
      have := rt_46 (h := h) (d := d) (Q := mx_KI (rdP h0 w G V P X Y Z n m xs s S js (match wI w with
        | [] => ((1, []), w)
        | l :: ls => ((0, l), uI w ls))) fun _ _ => False) sr (v := hpI h 342 330) (c := (wI w).length) c2 (by omega) ((wI w).length - 1) 1 (hpI h 342) (by omega) (by omega) c1 (fun _ _ => rfl) (fun j j1 j2 => absurd j2 (by omega)) (fun _ _ _ => rfl) fun f' g1 g2 g3 => by
        refine Or.inl ⟨_, rfl, Or.inl ?_⟩
        rw [hI]
        obtain ⟨i, i1, i2, -⟩ := c3 0 (by omega)
        exact ⟨rfl, ⟨i, i1, i2⟩, r.input hI (c := (wI w).length) c1 lw g1 g2 g3⟩
      rw [hrI_self] at this ⊢
      exact this
    · have e0 : wI w = [] := by
        have := (nI_eq (b := 0) (by omega) (by omega)).mp c
        exact List.eq_nil_of_length_eq_zero this
      rw [e0]
      exact Or.inl ⟨_, rfl, Or.inr (Or.inl ⟨rfl, rfl, r⟩)⟩
  · refine ⟨fun c => absurd rfl c, fun _ => ⟨sr_k sr, ?_⟩⟩
    refine mx_uV (k_X12_ends (by omega) r) fun h1 r1 => ?_
    exact Or.inl ⟨_, rfl, Or.inr (Or.inr (Or.inr ⟨rfl, rfl, r1⟩))⟩
end MXRD
