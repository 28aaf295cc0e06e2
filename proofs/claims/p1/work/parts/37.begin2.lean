/-! HANDLES: the free list is of open files; Channels.open and Handles.beginAnew keep Handles sound -/
section MXBH
variable {d : Nat} {h : mxH}
def hd_fq (h : mxH) : Prop := ∀ b o, mx_kd h b 5 → hpR h b 5 = some o → mx_kd h o 5
theorem hd_put25_R5 {ch sl i b : Nat} {new : Option Nat} (hb : hpK h b = 5) (hc : hpK h ch = 0) (hs : hpK h sl = 18) : hpR (hd_put25 h ch sl i new) b 5 = hpR h b 5 ∨ hpR (hd_put25 h ch sl i new) b 5 = hpR h ch 0 := by
  have n1 : b ≠ sl := mx_neK hb hs (by decide)
  have n2 : b ≠ ch := mx_neK hb hc (by decide)
  have n3 : ch ≠ sl := mx_neK hc hs (by decide)
  have e : hpR (hsR h sl i new) b 5 = hpR h b 5 := hpR_sRn n1
  unfold hd_put25
  split
  · exact Or.inl e
  · rename_i o c
    dsimp only
    split
    · exact Or.inl e
    · rw [hpR_sRn n2, hpR_sR]
      by_cases g : b = o
      · rw [if_pos g, if_pos rfl]
        exact Or.inr (hpR_sRn n3)
      · rw [if_neg g]
        exact Or.inl e
theorem hd_fq.put {x ch sl i : Nat} {new : Option Nat} (hf : hd_fq h) (q : hd_ok h x ch sl) : hd_fq (hd_put h ch sl i new) := by
  intro b o hb ho
  obtain ⟨e1, -, -, e4, -, -⟩ := hd_put_same (h := h) ch sl i new
  obtain ⟨u1, -, -, u4, -, -, u7⟩ := hd_up_same (h := h) new
  have hb' : mx_kd h b 5 := ⟨by rw [← e1]; exact hb.1, by rw [← e4]; exact hb.2⟩
  have : mx_kd h o 5 := by
    rcases hd_put25_R5 (h := hd_up h new) (ch := ch) (sl := sl) (i := i) (b := b) (new := new) (by rw [u4]; exact hb'.2) (by rw [u4]; exact q.1.2.2.2.1) (by rw [u4]; exact q.1.2.2.2.2.1) with r | r
    · rw [u7] at r
      exact hf b o hb' (r.symm.trans ho)
    · rw [u7] at r
      exact q.2.2 o (r.symm.trans ho)
  exact ⟨by rw [e1]; exact this.1, by rw [e4]; exact this.2⟩
theorem hd_fq.close {x ch sl : Nat} : ∀ m i (h : mxH), i + m = 10 → hd_ok h x ch sl → hd_fq h → hd_fq (hd_close ch sl m i h) := by
  intro m
  induction m with
  | zero => intro i h _ _ q; exact q
  | succ m ih => intro i h hi q hf; exact ih (i + 1) _ (by omega) (q.put (by omega) (fun b e => by cases e)) (hf.put q)
theorem hd_fill_R5 {o b : Nat} {kd fl pp ps : Int32} : hpR (hd_fill h o kd fl pp ps) b 5 = if b = o then none else hpR h b 5 := by
  show hpR (hsR h o 5 none) b 5 = _
  rw [hpR_sR]
  by_cases c : b = o
  · rw [if_pos c, if_pos c, if_pos rfl]
  · rw [if_neg c, if_neg c]
theorem hd_fq.fill {o : Nat} {kd fl pp ps : Int32} (hf : hd_fq h) : hd_fq (hd_fill h o kd fl pp ps) := by
  intro b p hb hp
  rw [hd_fill_R5] at hp
  by_cases c : b = o
  · rw [if_pos c] at hp; cases hp
  · rw [if_neg c] at hp; exact hf b p hb hp
/-- Channels.open keeps a Handles sound, and gives an open file -/
theorem hd_open_ok {x ch sl : Nat} {kd fl pp ps : Int32} (q : hd_ok h x ch sl) (hf : hd_fq h) (b1 : x < hpN h) (b2 : ch < hpN h) (b3 : sl < hpN h) :
    hd_ok (hd_open h ch kd fl pp ps) x ch sl ∧ hd_fq (hd_open h ch kd fl pp ps) ∧ mx_kd (hd_open h ch kd fl pp ps) (hd_opened h ch) 5 := by
  unfold hd_open hd_opened
  cases c : hpR h ch 0 with
  | none =>
    refine ⟨(q.nw b1 b2 b3).fill (mx_kd_new (h := h) (kd := 5)).2, ?_, (mx_kd_new (h := h) (kd := 5) (l := 0) (z := 6))⟩
    refine hd_fq.fill ?_
    intro b o hb ho
    rw [hpR_nw] at ho
    by_cases g : b = hpN h
    · rw [if_pos g] at ho; cases ho
    · rw [if_neg g] at ho
      have hb2 : mx_kd h b 5 := ⟨by have := hb.1; rw [hpN_nw] at this; omega, by have := hb.2; rw [hpK_nw, if_neg g] at this; exact this⟩
      exact mx_kd_nw (hf b o hb2 ho)
  | some o =>
    have ho : mx_kd h o 5 := q.2.2 o c
    obtain ⟨⟨h1, h2, h3, h4, h5, h6⟩, q2, q3⟩ := q
    have n1 : x ≠ ch := mx_neK h1 h4 (by decide)
    have n2 : sl ≠ ch := mx_neK h5 h4 (by decide)
    have Q : hd_ok (hsR h ch 0 (hpR h o 5)) x ch sl := by
      refine ⟨⟨h1, ?_, ?_, h4, h5, h6⟩, fun j hj b hb => ?_, fun b hb => ?_⟩
      · rw [hpR_sRn n1]; exact h2
      · rw [hpR_sRn n1]; exact h3
      · rw [hpR_sRn n2] at hb; exact q2 j hj b hb
      · rw [hpR_sR, if_pos rfl, if_pos rfl] at hb; exact hf o b ho hb
    refine ⟨Q.fill ho.2, hd_fq.fill ?_, ho⟩
    intro b p hb hp
    rw [hpR_sRn (mx_neK hb.2 h4 (by decide))] at hp
    exact hf b p hb hp
end MXBH
