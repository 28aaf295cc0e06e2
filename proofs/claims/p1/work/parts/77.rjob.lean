/-! THE REFERENCE: a job is made -/
section MXMJ
variable {d : Nat} {h0 h : mxH} {w : spW} {G : List spE} {V : List (Option (Option Nat))} {P : List spX} {N : spN} {n m xs : Nat} {Q : mxRes → mxH → Prop} {s : Nat} {S : spS} {js : List Nat} {ln : Int32 → spL → Prop} {A : Nat → Option Nat} {f f' : Nat → Int32} {g g' : Nat → Int64} {F : spF}
theorem RJ.job {e : Bool} {jb : List spJ} {js : List Nat} (r : RJ f e jb js) (hl : jb.length < 8) {ch : Int32} {q : Nat} {v : Int32} :
    RJ (fup (fup (fup (fup (fup (fup f (50 + 4 * jb.length) 0) (51 + 4 * jb.length) 0) (52 + 4 * jb.length) ch) (53 + 4 * jb.length) (nI q)) 49 (nI (jb.length + 1))) 33 v) e (jb ++ [(0, 0, ch, F)]) (js ++ [q]) := by
  obtain ⟨a, b, c, d, r5⟩ := r
  refine ⟨?_, ?_, ?_, ?_, fun k hk hj => ?_⟩
  · rw [fup_n (by omega), fup_n (by omega), fup_n (by omega), fup_n (by omega), fup_n (by omega), fup_n (by omega)]; exact a
  · rw [fup_n (by omega), fup_e, List.length_append]; rfl
  · rw [List.length_append]; simp; omega
  · rw [List.length_append, List.length_append, d]; rfl
  · rw [List.length_append] at hk hj
    by_cases c : k < jb.length
    · rw [List.getElem_append_left c, List.getElem_append_left (by omega)]
      obtain ⟨r1, r2, r3, r4, r5⟩ := r5 k c (by omega)
      refine ⟨?_, r2, ?_, ?_, ?_⟩
      · rw [fup_n (by omega), fup_n (by omega), fup_n (by omega), fup_n (by omega), fup_n (by omega), fup_n (by omega)]; exact r1
      · rw [fup_n (by omega), fup_n (by omega), fup_n (by omega), fup_n (by omega), fup_n (by omega), fup_n (by omega)]; exact r3
      · rw [fup_n (by omega), fup_n (by omega), fup_n (by omega), fup_n (by omega), fup_n (by omega), fup_n (by omega)]; exact r4
      · rw [fup_n (by omega), fup_n (by omega), fup_n (by omega), fup_n (by omega), fup_n (by omega), fup_n (by omega)]; exact r5
    · have e : k = jb.length := by simp at hk; omega
      subst e
      have g1 : (jb ++ [((0 : Nat), (0 : Int32), ch, F)])[jb.length]'(by simp) = (0, 0, ch, F) := by rw [List.getElem_append_right (Nat.le_refl _)]; simp
      have g2 : (js ++ [q])[jb.length]'(by simp; omega) = q := by rw [List.getElem_append_right (by omega)]; simp
      rw [g1, g2]
      refine ⟨?_, Nat.zero_le _, ?_, ?_, ?_⟩
      · rw [fup_n (by omega), fup_n (by omega), fup_n (by omega), fup_n (by omega), fup_n (by omega), fup_e]; rfl
      · rw [fup_n (by omega), fup_n (by omega), fup_n (by omega), fup_n (by omega), fup_e]
      · rw [fup_n (by omega), fup_n (by omega), fup_n (by omega), fup_e]
      · rw [fup_n (by omega), fup_n (by omega), fup_e]
theorem RG.job (r : RG h0 h w ((s, S, js) :: G) V P N n m xs) (hl : S.2.2.length < 8) {ch : Int32} {q : Nat} :
    RG h0 (hrI h 354 (fup (fup (fup (fup (fup (fup (hpI h 354) (83 * s + (50 + 4 * S.2.2.length)) 0) (83 * s + (51 + 4 * S.2.2.length)) 0) (83 * s + (52 + 4 * S.2.2.length)) ch) (83 * s + (53 + 4 * S.2.2.length)) (nI q)) (83 * s + 49) (nI (S.2.2.length + 1))) (83 * s + 33) 0))
      w ((s, (vS S.1 0, S.2.1, S.2.2 ++ [(0, 0, ch, subF S.1)]), js ++ [q]) :: G) V P N n m xs := by
  have h82 : hpI h 354 (83 * s + 82) = 1 ∧ shR (hpI h 354) s 0 = nI (fV S.1).length ∧ (fV S.1).length ≤ 20 := by
    obtain ⟨A, B, Qs, -, -, -, -, -, -, he, -⟩ := r
    obtain ⟨a1, a2, a3, -⟩ := he.1 _ List.mem_cons_self
    exact ⟨a2, a3.1.1, a3.1.2.1⟩
  have := RG.row r (S' := (vS S.1 0, S.2.1, S.2.2 ++ [(0, 0, ch, subF S.1)])) (js' := js ++ [q]) (f := (fup (fup (fup (fup (fup (fup (hpI h 354) (83 * s + (50 + 4 * S.2.2.length)) 0) (83 * s + (51 + 4 * S.2.2.length)) 0) (83 * s + (52 + 4 * S.2.2.length)) ch) (83 * s + (53 + 4 * S.2.2.length)) (nI q)) (83 * s + 49) (nI (S.2.2.length + 1))) (83 * s + 33) 0)) (g := hpL h 355) ((((((offS.rf.up (by omega)).up (by omega)).up (by omega)).up (by omega)).up (by omega)).up (by omega)) offN.rf
    (by rw [fup_n (by omega), fup_n (by omega), fup_n (by omega), fup_n (by omega), fup_n (by omega), fup_n (by omega)]; exact h82.1)
    (fun ln A o => by
      rw [shR_up, shR_up, shR_up, shR_up, shR_up, shR_up]
      exact ⟨(((((o.1.other (by omega) (by omega) (by omega)).other (by omega) (by omega) (by omega)).other (by omega) (by omega) (by omega)).other (by omega) (by omega) (by omega)).other (by omega) (by omega) (by omega)).st, (((((o.2.1.other (by omega)).other (by omega)).other (by omega)).other (by omega)).other (by omega)).other (by omega), o.2.2.1.job hl⟩)
    (fun L hL _ k hk => by
      rw [shR_up, shR_up, shR_up, shR_up, shR_up, shR_up] at hk ⊢
      rw [fup_n (by omega), fup_n (by omega), fup_n (by omega), fup_n (by omega), fup_n (by omega), fup_n (by omega)] at hk
      have z := hk
      rw [h82.2.1, nI_clamp (by omega)] at z
      rw [fup_n (by omega), fup_n (by omega), fup_n (by omega), fup_n (by omega), fup_n (by omega), fup_n (by omega)]
      exact hL k hk)
    (fun _ L hL _ _ k hk => by rw [fup_n (by omega), fup_n (by omega), fup_n (by omega), fup_n (by omega), fup_n (by omega), fup_n (by omega)]; exact hL k hk)
  have e : ∀ f, hrL (hrI h 354 f) 355 (hpL h 355) = hrI h 354 f := fun f => by
    have : hpL h 355 = hpL (hrI h 354 f) 355 := rfl
    rw [this, hrL_self]
  rw [e] at this
  exact this
theorem k_X12_makesJob (hd : 2 ≤ d) (r : RG h0 h w ((s, S, js) :: G) V P N n m xs) (hxs : s ≠ xs) (hl : G.length < 998) {ch : Int32} :
    mx_SM mY_X12_makesJob d [.ref 320, .int (nI s), .int ch] h (mx_KV (fun h1 => (8 ≤ S.2.2.length ∧ RG h0 h1 w ((s, (vS S.1 1, S.2), js) :: G) V P N n m xs) ∨
      (S.2.2.length < 8 ∧ ∃ q, q < 1000 ∧ 1 ≤ q ∧ RG h0 h1 (frk w) ((s, (vS S.1 0, S.2.1, S.2.2 ++ [(0, 0, ch, subF S.1)]), js ++ [q]) :: (q, (subF S.1, false, []), []) :: G) V P N n m xs)) fun _ _ => False) := by
  have sr := r.sr
  obtain ⟨hs, rf, rj⟩ := r.own
  have l8 : S.2.2.length ≤ 8 := rj.2.2.1
  have e49 : hpI h 354 (83 * s + 49) = nI S.2.2.length := rj.2.1
  refine b_X12_makesJob 320 _ _ ⟨by omega, sr_k sr, mx_xKI2 (k_X12_of (j := 49) sr (by omega)) ?_⟩
  rw [e49]
  refine ⟨fun c => ?_, fun c => ?_⟩
  · have lt : S.2.2.length < 8 := by
      rcases Nat.lt_or_ge S.2.2.length 8 with g | g
      · exact g
      · have : S.2.2.length = 8 := by omega
        rw [this] at c; exact absurd rfl c
    refine ⟨sr_k sr, mx_uI (k_X12_fork (by omega) r hxs hl) ?_⟩
    rintro v h1 ⟨q, rfl, q1, q2, r1⟩
    have r2 := r1.swap
    have s2 := r2.sr
    have e0 : (50 : Int32) + 4 * nI S.2.2.length = nI (50 + 4 * S.2.2.length) := by rw [show (4 : Int32) * nI S.2.2.length = nI (4 * S.2.2.length) from pk_mul 4 _]; exact nI_add 50 _
    have e1 : nI (50 + 4 * S.2.2.length) + 1 = nI (51 + 4 * S.2.2.length) := (nI_1 _).trans (congrArg nI (by omega))
    have e2 : nI (50 + 4 * S.2.2.length) + 2 = nI (52 + 4 * S.2.2.length) := (nI_add _ 2).trans (congrArg nI (by omega))
    have e3 : nI (50 + 4 * S.2.2.length) + 3 = nI (53 + 4 * S.2.2.length) := (nI_add _ 3).trans (congrArg nI (by omega))
    rw [e0, e1, e2, e3, nI_1]
    refine ⟨sr_k s2, mx_xKV (k_X12_sets s2 (by omega)) ⟨sr_k s2, mx_xKV (k_X12_sets s2.sI (by omega)) ⟨sr_k s2, mx_xKV (k_X12_sets s2.sI.sI (by omega)) ⟨sr_k s2, mx_xKV (k_X12_sets s2.sI.sI.sI (by omega)) ⟨sr_k s2, mx_xKV (k_X12_sets (j := 49) s2.sI.sI.sI.sI (by omega)) ⟨sr_k s2, mx_xKV (k_X12_sets (j := 33) s2.sI.sI.sI.sI.sI (by omega)) (Or.inl ⟨rfl, Or.inr ⟨lt, q, q1, q2, ?_⟩⟩)⟩⟩⟩⟩⟩⟩
    have := r2.job lt (ch := ch) (q := q)
    have ee : ∀ a b c e i k : Int32, hsI (hsI (hsI (hsI (hsI (hsI h1 354 (83 * s + (50 + 4 * S.2.2.length)) a) 354 (83 * s + (51 + 4 * S.2.2.length)) b) 354 (83 * s + (52 + 4 * S.2.2.length)) c) 354 (83 * s + (53 + 4 * S.2.2.length)) e) 354 (83 * s + 49) i) 354 (83 * s + 33) k =
        hrI h1 354 (fup (fup (fup (fup (fup (fup (hpI h1 354) (83 * s + (50 + 4 * S.2.2.length)) a) (83 * s + (51 + 4 * S.2.2.length)) b) (83 * s + (52 + 4 * S.2.2.length)) c) (83 * s + (53 + 4 * S.2.2.length)) e) (83 * s + 49) i) (83 * s + 33) k) := by
      intro a b c e i k
      rw [show hsI h1 354 (83 * s + (50 + 4 * S.2.2.length)) a = hrI h1 354 (fup (hpI h1 354) (83 * s + (50 + 4 * S.2.2.length)) a) from rfl, hsI_hrI, hsI_hrI, hsI_hrI, hsI_hrI, hsI_hrI]
    rw [ee]
    exact this
  · have e8 : S.2.2.length = 8 := (nI_eq (b := 8) (by omega) (by omega)).mp c
    exact ⟨sr_k sr, mx_xKV (k_X12_sets (j := 33) sr (by omega)) (Or.inl ⟨rfl, Or.inl ⟨by omega, r.st⟩⟩)⟩
end MXMJ
