/-! ShellCore.spell: a name's letters behind what stands in a row of bytes -/
section MXSP
variable {h h1 : mxH} {d x at_ : Nat} {Q : mxRes → mxH → Prop}
/-- l stands in the row x from at_ on, as far as it fits -/
def PutT (h : mxH) (x at_ : Nat) (l : spL) (h1 : mxH) : Prop := ∃ F, h1 = hrI h x F ∧ (∀ k, k < at_ → F k = hpI h x k) ∧ ∀ k (hk : k < l.length), at_ + k < hpZ h x → F (at_ + k) = l[k]
theorem spell_fit : ∀ n v, fitW n v → spell (n + 1) v = spell n v
  | 0, _, f => f.elim
  | n + 1, v, f => by
    unfold spell
    by_cases c : 37 ≤ v
    · rw [if_pos c, if_pos c, spell_fit n (v / 37) (f c)]
    · rw [if_neg c, if_neg c]
theorem spell_pos : ∀ n v, fitW n v → 1 ≤ (spell n v).length
  | 0, _, f => f.elim
  | n + 1, v, _ => by
    unfold spell
    rw [List.length_append, List.length_singleton]
    omega
theorem d37 {v : Int64} (h : 0 ≤ v.toInt) : (v / 37).toInt = v.toInt / 37 := by
  have l := Int64.toInt_lt v
  rw [Int64.toInt_div, show (37 : Int64).toInt = 37 from by decide, Int.tdiv_eq_ediv_of_nonneg h]
  simp only [Int.bmod]
  omega
theorem d37_pos {v : Int64} (h : 37 ≤ v) : 0 < v / 37 := by
  have h1 : 37 ≤ v.toInt := Int64.le_iff_toInt_le.mp h
  have := d37 (v := v) (by omega)
  apply Int64.lt_iff_toInt_lt.mpr
  rw [this]
  show 0 < v.toInt / 37
  omega
theorem d37_le {v : Int64} (h0 : 0 < v) (h : ¬ 37 ≤ v) : v / 37 ≤ 0 := by
  have h1 : v.toInt < 37 := Int64.lt_iff_toInt_lt.mp (Int64.not_le.mp h)
  have h2 : 0 < v.toInt := Int64.lt_iff_toInt_lt.mp h0
  have := d37 (v := v) (by omega)
  apply Int64.le_iff_toInt_le.mpr
  rw [this]
  show v.toInt / 37 ≤ 0
  omega
theorem sp_6 {x0 : Int64} {a : Int32} : ∀ n (v : Int64) (c : Nat), fitW n v → 0 < v → c + n ≤ 12 → mx_SX mY_X11_spell d 34 [(0, .long x0), (2, .ref x), (3, .int a), (4, .int (nI (c + (spell n v).length)))] [] h Q →
    mx_SX mY_X11_spell d 6 [(0, .long x0), (2, .ref x), (3, .int a), (4, .int (nI c)), (5, .long v)] [] h Q
  | 0, _, _, f, _, _, _ => f.elim
  | n + 1, v, c, f, hv, hc, K => by
    refine b_X11_spell_6 x0 x a (nI c) v ⟨fun q => absurd ((lg_cmp_le _ _).mp q) (Int64.not_le.mpr hv), fun _ => ⟨fun q => absurd q (show ¬ nI 12 ≤ nI c from nI_ge (by omega) (by omega)), fun _ => ?_⟩⟩
    rw [nI_1]
    unfold spell at K
    by_cases g : 37 ≤ v
    · rw [if_pos g, List.length_append, List.length_singleton] at K
      refine sp_6 n (v / 37) (c + 1) (f g) (d37_pos g) (by omega) ?_
      rw [show c + 1 + (spell n (v / 37)).length = c + ((spell n (v / 37)).length + 1) by omega]
      exact K
    · rw [if_neg g, List.nil_append, List.length_singleton] at K
      exact b_X11_spell_6 x0 x a (nI (c + 1)) (v / 37) ⟨fun _ => K, fun q => absurd ((lg_cmp_le _ _).mpr (d37_le hv g)) q⟩
theorem nI_m1 (k : Nat) : nI (k + 1) + (-1) = nI k := by
  rw [← nI_1, Int32.add_assoc]
  show nI k + ((1 : Int32) + -1) = _
  rw [show (1 : Int32) + -1 = 0 from by decide, Int32.add_zero]
theorem lt26 {c : Int32} : (26 : Int32) < c ↔ 27 ≤ c := by
  rw [Int32.lt_iff_toInt_lt, Int32.le_iff_toInt_le]
  show (26 : Int) < c.toInt ↔ (27 : Int) ≤ c.toInt
  omega
theorem sp_43 {L : Int32} (hx : hpK h x = 13) (hz : hpZ h x < 2 ^ 30) (hat : at_ ≤ hpZ h x) : ∀ n (v : Int64) (k : Nat) (F0 : Nat → Int32), fitW n v → (spell n v).length = k + 1 → k < 12 →
    (∀ F x5, (∀ j, (j < at_ ∨ at_ + k < j) → F j = F0 j) → (∀ i (hi : i < (spell n v).length), at_ + i < hpZ h x → F (at_ + i) = (spell n v)[i]) → mx_SX mY_X11_spell d 43 [(2, .ref x), (3, .int (nI at_)), (4, .int L), (5, .long x5), (7, .int (-1))] [] (hrI h x F) Q) →
    mx_SX mY_X11_spell d 43 [(2, .ref x), (3, .int (nI at_)), (4, .int L), (5, .long v), (7, .int (nI k))] [] (hrI h x F0) Q
  | 0, _, _, _, f, _, _, _ => f.elim
  | n + 1, v, k, F0, f, hl, hk, K => by
    have hK : ∀ F, hpK (hrI h x F) x = 13 := fun F => hx
    have step : ∀ F1 : Nat → Int32, (∀ j, j ≠ at_ + k → F1 j = F0 j) → (at_ + k < hpZ h x → F1 (at_ + k) = chrV (v - v / 37 * 37).toInt32) → mx_SX mY_X11_spell d 105 [(2, .ref x), (3, .int (nI at_)), (4, .int L), (5, .long v), (7, .int (nI k))] [] (hrI h x F1) Q := by
      intro F1 q1 q2
      refine b_X11_spell_105 x _ _ _ _ ?_
      by_cases g : 37 ≤ v
      · have es : spell (n + 1) v = spell n (v / 37) ++ [chrV (v - v / 37 * 37).toInt32] := by
          conv => lhs; unfold spell
          rw [if_pos g]
        have l1 := spell_pos n (v / 37) (f g)
        have l2 : (spell n (v / 37)).length = k := by rw [es, List.length_append, List.length_singleton] at hl; omega
        obtain ⟨k', rfl⟩ : ∃ k', k = k' + 1 := ⟨k - 1, by omega⟩
        rw [nI_m1]
        refine sp_43 hx hz hat n (v / 37) k' F1 (f g) l2 (by omega) fun F x5 c1 c2 => K F x5 (fun j hj => ?_) (fun i hi hiz => ?_)
        · rw [c1 j (by omega), q1 j (by omega)]
        · by_cases e : i < (spell n (v / 37)).length
          · have : (spell (n + 1) v)[i] = (spell n (v / 37))[i] := by simp only [es]; rw [List.getElem_append_left e]
            rw [this]; exact c2 i e hiz
          · have ei : i = k' + 1 := by rw [hl] at hi; omega
            have : (spell (n + 1) v)[i] = chrV (v - v / 37 * 37).toInt32 := by
              simp only [es]
              rw [List.getElem_append_right (by omega)]
              simp
            rw [this, ei, c1 _ (by omega)]
            exact q2 (by rw [← ei]; exact hiz)
      · have es : spell (n + 1) v = [chrV (v - v / 37 * 37).toInt32] := by
          conv => lhs; unfold spell
          rw [if_neg g]; rfl
        have k0 : k = 0 := by rw [es, List.length_singleton] at hl; omega
        subst k0
        refine K F1 _ (fun j hj => q1 j (by omega)) (fun i hi hiz => ?_)
        have ei : i = 0 := by rw [hl] at hi; omega
        subst ei
        simp only [es, List.getElem_cons_zero]
        exact q2 hiz
    refine b_X11_spell_43 x _ _ _ _ ⟨fun c => absurd c (nI_pos (by omega)), fun _ => ?_⟩
    rw [nI_add, nI_clamp (show at_ + k < 2 ^ 31 by omega)]
    refine ⟨fun c => absurd c (nI_pos (by omega)), fun _ => ⟨hx, fun c => ?_, fun c => ⟨fun c1 => ⟨?_, ?_⟩, fun c1 => ⟨?_, ?_⟩⟩⟩⟩
    · exact step F0 (fun _ _ => rfl) (fun c' => absurd c (nI_ge c' (by show hpZ h x < _; omega)))
    all_goals have lt : at_ + k < hpZ h x := Nat.lt_of_not_le fun g => c (nI_le g (by omega))
    · exact vp_in_nI lt (by show hpZ h x < _; omega)
    · rintro _ rfl
      rw [hsI_hrI]
      refine step _ (fun j hj => fup_n hj) (fun _ => ?_)
      rw [fup_e, byte2, chrV, if_pos (lt26.mp c1), Int32.add_comm 48]
    · exact vp_in_nI lt (by show hpZ h x < _; omega)
    · rintro _ rfl
      rw [hsI_hrI]
      refine step _ (fun j hj => fup_n hj) (fun _ => ?_)
      rw [fup_e, byte2, chrV, if_neg (fun q => c1 (lt26.mpr q)), Int32.add_comm 97]
theorem k_X11_spell (hd : 1 ≤ d) (hx : hpK h x = 13) (hz : hpZ h x < 2 ^ 30) (hat : at_ ≤ hpZ h x) {v : Int64} (hv : 0 < v) (hf : fitW 12 v) : mx_SM mY_X11_spell d [.long v, .ref x, .int (nI at_)] h (fun r h1 => r = .inl (some (.int (nI (at_ + min (spell 13 v).length (hpZ h x - at_))))) ∧ PutT h x at_ (spell 13 v) h1) := by
  rw [spell_fit 12 v hf]
  have l1 := spell_pos 12 v hf
  have l2 := spell_len 12 v
  obtain ⟨k, ek⟩ : ∃ k, (spell 12 v).length = k + 1 := ⟨(spell 12 v).length - 1, by omega⟩
  refine b_X11_spell v x (nI at_) (sp_6 12 v 0 hf hv (Nat.le_refl _) (b_X11_spell_34 v x _ _ ?_))
  rw [Nat.zero_add, ek, nI_pred]
  have k1 := sp_43 (Q := fun r h1 => r = .inl (some (.int (nI (at_ + min (k + 1) (hpZ h x - at_))))) ∧ PutT h x at_ (spell 12 v) h1) (d := d) (L := nI (k + 1)) hx hz hat 12 v k (hpI h x) hf ek (by omega) fun F x5 c1 c2 => ?_
  · rw [hrI_self] at k1
    exact k1
  · refine b_X11_spell_43 x _ _ _ _ ⟨fun _ => ⟨hx, hd, ?_, F, rfl, fun j hj => c1 j (Or.inl hj), c2⟩, fun c => absurd (by decide) c⟩
    rw [nI_add, show nI (hpZ (hrI h x F) x) = nI (hpZ h x) from rfl]
    by_cases g : hpZ h x < at_ + (k + 1)
    · rw [if_pos (nI_lt g (by omega)), show at_ + min (k + 1) (hpZ h x - at_) = hpZ h x by omega]
    · rw [if_neg (fun c => g ((nI_ltI (by omega) (by omega)).mp c)), show at_ + min (k + 1) (hpZ h x - at_) = at_ + (k + 1) by omega]
end MXSP
