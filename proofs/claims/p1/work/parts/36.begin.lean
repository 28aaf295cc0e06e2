/-! HANDLES: beginAnew, exact -/
section MXBG
variable {d : Nat} {h : mxH}
/-- the first free open file is one -/
def hd_fr (h : mxH) (ch : Nat) : Prop := ∀ o, hpR h ch 0 = some o → mx_kd h o 5
/-- a row of ten with open files alone, that were made -/
def hd_rw (h : mxH) (sl : Nat) : Prop := ∀ j, j < 10 → ∀ b, hpR h sl j = some b → mx_kd h b 5
theorem hd_rw.row {sl : Nat} (hr : hd_rw h sl) : hd_row h sl := fun j hj b hb => (hr j hj b hb).2
theorem hd_put25_free {ch sl i : Nat} {new : Option Nat} (hcs : ch ≠ sl) : hpR (hd_put25 h ch sl i new) ch 0 = hpR h ch 0 ∨ ∃ o, hpR h sl i = some o ∧ hpR (hd_put25 h ch sl i new) ch 0 = some o := by
  have e : hpR (hsR h sl i new) ch 0 = hpR h ch 0 := hpR_sRn hcs
  unfold hd_put25
  split
  · exact Or.inl e
  · rename_i o c
    dsimp only
    split
    · exact Or.inl e
    · exact Or.inr ⟨o, c, by rw [hpR_sR, if_pos rfl, if_pos rfl]⟩
theorem hd_put_free {ch sl i : Nat} {new : Option Nat} (hcs : ch ≠ sl) : hpR (hd_put h ch sl i new) ch 0 = hpR h ch 0 ∨ ∃ o, hpR h sl i = some o ∧ hpR (hd_put h ch sl i new) ch 0 = some o := by
  have e := (hd_up_same (h := h) new).2.2.2.2.2.2
  have := hd_put25_free (h := hd_up h new) (i := i) (new := new) hcs
  rw [e] at this
  exact this
theorem hd_fr.put {ch sl i : Nat} {new : Option Nat} (hcs : ch ≠ sl) (hi : i < 10) (hf : hd_fr h ch) (hr : hd_rw h sl) : hd_fr (hd_put h ch sl i new) ch := by
  intro o ho
  obtain ⟨e1, -, -, e4, -, -⟩ := hd_put_same (h := h) ch sl i new
  have : mx_kd h o 5 := by
    rcases hd_put_free (h := h) (i := i) (new := new) hcs with q | ⟨o2, q1, q2⟩
    · rw [q] at ho; exact hf o ho
    · rw [q2] at ho; cases ho; exact hr i hi o q1
  exact ⟨by rw [e1]; exact this.1, by rw [e4]; exact this.2⟩
theorem hd_rw.put {ch sl sl2 i : Nat} {new : Option Nat} (hc : hpK h ch = 0) (hs2 : hpK h sl2 = 18) (hi : i < 10) (hr : hd_rw h sl) (hr2 : hd_rw h sl2) (hn : ∀ b, new = some b → mx_kd h b 5) : hd_rw (hd_put h ch sl i new) sl2 := by
  intro j hj b hb
  obtain ⟨e1, -, -, e4, -, -⟩ := hd_put_same (h := h) ch sl i new
  have : mx_kd h b 5 := by
    rw [hd_put_R (mx_neK hs2 hc (by decide)) (fun o c => mx_neK hs2 (hr i hi o c).2 (by decide))] at hb
    by_cases c : sl2 = sl ∧ j = i
    · rw [if_pos c] at hb; exact hn b hb
    · rw [if_neg c] at hb; exact hr2 j hj b hb
  exact ⟨by rw [e1]; exact this.1, by rw [e4]; exact this.2⟩
/-- a Handles object with a sound row and a sound first free open file -/
def hd_ok (h : mxH) (x ch sl : Nat) : Prop := hd_at h x ch sl ∧ hd_rw h sl ∧ hd_fr h ch
theorem hd_ok.put {x ch sl i : Nat} {new : Option Nat} (q : hd_ok h x ch sl) (hi : i < 10) (hn : ∀ b, new = some b → mx_kd h b 5) : hd_ok (hd_put h ch sl i new) x ch sl := by
  obtain ⟨q1, q2, q3⟩ := q
  exact ⟨q1.put hi q2.row, q2.put q1.2.2.2.1 q1.2.2.2.2.1 hi q2 hn, q3.put (mx_neK q1.2.2.2.1 q1.2.2.2.2.1 (by decide)) hi q2⟩
theorem hd_ok.close {x ch sl : Nat} : ∀ m i (h : mxH), i + m = 10 → hd_ok h x ch sl → hd_ok (hd_close ch sl m i h) x ch sl := by
  intro m
  induction m with
  | zero => intro i h _ q; exact q
  | succ m ih => intro i h hi q; exact ih (i + 1) _ (by omega) (q.put (by omega) (fun b e => by cases e))
theorem hd_fill_same {o : Nat} {kd fl pp ps : Int32} : hpN (hd_fill h o kd fl pp ps) = hpN h ∧ hpC (hd_fill h o kd fl pp ps) = hpC h ∧ hpS (hd_fill h o kd fl pp ps) = hpS h ∧ hpK (hd_fill h o kd fl pp ps) = hpK h ∧ hpZ (hd_fill h o kd fl pp ps) = hpZ h ∧ hpL (hd_fill h o kd fl pp ps) = hpL h := ⟨rfl, rfl, rfl, rfl, rfl, rfl⟩
theorem hd_fill_R {o b j : Nat} {kd fl pp ps : Int32} (hb : b ≠ o) : hpR (hd_fill h o kd fl pp ps) b j = hpR h b j := by
  show hpR (hsR h o 5 none) b j = _
  exact hpR_sRn hb
theorem hd_ok.fill {x ch sl o : Nat} {kd fl pp ps : Int32} (q : hd_ok h x ch sl) (ho : hpK h o = 5) : hd_ok (hd_fill h o kd fl pp ps) x ch sl := by
  obtain ⟨⟨h1, h2, h3, h4, h5, h6⟩, q2, q3⟩ := q
  refine ⟨⟨h1, ?_, ?_, h4, h5, h6⟩, fun j hj b hb => ?_, fun b hb => ?_⟩
  · rw [hd_fill_R (mx_neK h1 ho (by decide))]; exact h2
  · rw [hd_fill_R (mx_neK h1 ho (by decide))]; exact h3
  · rw [hd_fill_R (mx_neK h5 ho (by decide))] at hb; exact q2 j hj b hb
  · rw [hd_fill_R (mx_neK h4 ho (by decide))] at hb; exact q3 b hb
theorem hd_ok.nw {x ch sl l z : Nat} {kd : Nat} (q : hd_ok h x ch sl) (b1 : x < hpN h) (b2 : ch < hpN h) (b3 : sl < hpN h) : hd_ok (hnw h kd l z) x ch sl := by
  obtain ⟨⟨h1, h2, h3, h4, h5, h6⟩, q2, q3⟩ := q
  have K : ∀ b, b < hpN h → hpK (hnw h kd l z) b = hpK h b := fun b hb => by rw [hpK_nw, if_neg (Nat.ne_of_lt hb)]
  have Z : ∀ b, b < hpN h → hpZ (hnw h kd l z) b = hpZ h b := fun b hb => by rw [hpZ_nw, if_neg (Nat.ne_of_lt hb)]
  have R : ∀ b, b < hpN h → hpR (hnw h kd l z) b = hpR h b := fun b hb => by rw [hpR_nw, if_neg (Nat.ne_of_lt hb)]
  refine ⟨⟨by rw [K x b1]; exact h1, by rw [R x b1]; exact h2, by rw [R x b1]; exact h3, by rw [K ch b2]; exact h4, by rw [K sl b3]; exact h5, by rw [Z sl b3]; exact h6⟩, fun j hj b hb => ?_, fun b hb => ?_⟩
  · rw [R sl b3] at hb; exact mx_kd_nw (q2 j hj b hb)
  · rw [R ch b2] at hb; exact mx_kd_nw (q3 b hb)
/-- Handles.beginAnew: a terminal of its own at 0, 1, 2 -/
def hd_begin (h : mxH) (ch sl : Nat) : mxH :=
  let h1 := hd_close ch sl 10 0 h
  let h2 := hd_open h1 ch 1 (-1) (-1) 0
  let o := some (hd_opened h1 ch)
  hd_put (hd_put (hd_put h2 ch sl 0 o) ch sl 1 o) ch sl 2 o
end MXBG
