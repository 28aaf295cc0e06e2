/-! The world's cells: input, output, files, records -/
section MXCW
variable {ln ln' : Int32 → spL → Prop} {f0 f2 f3 f4 f5 f9 : Nat → Int32} {g1 : Nat → Int64} {s : Nat} {w : spW} {l : spL}
theorem RLs.mono {f : Nat → Int32} {j : Nat} {ls : List spL} (r : RLs ln f j ls) (m : ∀ v l, ln v l → ln' v l) : RLs ln' f j ls := fun k hk => m _ _ (r k hk)
theorem CW.mono (c : CW ln f0 f2 f3 f4 f5 f9 g1 s w) (m : ∀ v l, ln v l → ln' v l) : CW ln' f0 f2 f3 f4 f5 f9 g1 s w := by
  obtain ⟨⟨a1, a2, a3⟩, ⟨b1, b2, b3⟩, ⟨c1, c2, c3⟩, d, e⟩ := c
  exact ⟨⟨a1, a2, fun i hi => ⟨(a3 i hi).1, (a3 i hi).2.1, (a3 i hi).2.2.1, (a3 i hi).2.2.2.mono m⟩⟩, ⟨b1, b2, b3.mono m⟩, ⟨c1, c2, c3.mono m⟩, d, e⟩
/-- the first line of the input is taken -/
theorem CW.tkI {r : List spL} (c : CW ln f0 f2 f3 f4 f5 f9 g1 s w) (e : wI w = l :: r) : ln (f4 0) l ∧ f0 5 = nI (r.length + 1) ∧ r.length < 40 ∧ CW ln (fup f0 5 (nI r.length)) f2 f3 (va_cpy f4 f4 1 0 r.length) f5 f9 g1 s (uI w r) := by
  obtain ⟨a, ⟨b1, b2, b3⟩, c, d, t⟩ := c
  rw [e] at b1 b2 b3
  rw [List.length_cons] at b1 b2
  refine ⟨b3 0 (Nat.succ_pos _), b1, by omega, ?_, ⟨?_, ?_, fun k hk => ?_⟩, ?_, ?_, ?_⟩
  · rw [fup_n (by decide)]; exact a
  · rw [fup_e]
  · show r.length ≤ 40; omega
  · have hk' : k < r.length := hk
    have := b3 (k + 1) (by rw [List.length_cons]; omega)
    rw [Nat.zero_add, pk_cpy_in (by omega) (by omega), show 1 + (k - 0) = 0 + (k + 1) by omega]
    exact this
  · rw [fup_n (by decide)]; exact c
  · rw [fup_n (by decide), fup_n (by decide), fup_n (by decide)]; exact d
  · rw [fup_n (by decide)]; exact t
/-- one more line of output -/
theorem CW.adO {v : Int32} (c : CW ln f0 f2 f3 f4 f5 f9 g1 s w) (hv : ln v l) (h1 : (wP w).length < 100) : CW ln (fup f0 7 (nI ((wP w).length + 1))) f2 f3 f4 (fup f5 (wP w).length v) f9 g1 s (uP w (wP w ++ [l])) := by
  obtain ⟨a, b, ⟨c1, c2, c3⟩, d, t⟩ := c
  have eL : (wP w ++ [l]).length = (wP w).length + 1 := by rw [List.length_append]; rfl
  refine ⟨?_, ?_, ⟨?_, ?_, fun k hk => ?_⟩, ?_, ?_⟩
  · rw [fup_n (by decide)]; exact a
  · rw [fup_n (by decide)]; exact b
  · rw [fup_e]; show _ = nI (wP w ++ [l]).length; rw [eL]
  · show (wP w ++ [l]).length ≤ 100; rw [eL]; omega
  · have hk' : k < (wP w ++ [l]).length := hk
    show ln _ (wP w ++ [l])[k]
    rw [Nat.zero_add]
    by_cases q : k < (wP w).length
    · rw [List.getElem_append_left q, fup_n (by omega)]
      have := c3 k q
      rw [Nat.zero_add] at this
      exact this
    · have qe : k = (wP w).length := by rw [eL] at hk'; omega
      subst qe
      rw [List.getElem_append_right (Nat.le_refl _), fup_e]
      simp only [Nat.sub_self, List.getElem_cons_zero]
      exact hv
  · rw [fup_n (by decide), fup_n (by decide), fup_n (by decide)]; exact d
  · rw [fup_n (by decide)]; exact t
/-- one more file -/
theorem CW.mkf {k : Int64} (c : CW ln f0 f2 f3 f4 f5 f9 g1 s w) (h1 : (wF w).length < 8) : CW ln (fup f0 3 (nI ((wF w).length + 1))) (fup f2 (wF w).length 0) f3 f4 f5 f9 (fup g1 (wF w).length k) s (uF w (wF w ++ [(k, [])])) := by
  obtain ⟨⟨a1, a2, a3⟩, b, c, d, t⟩ := c
  have eL : (wF w ++ [(k, ([] : List spL))]).length = (wF w).length + 1 := by rw [List.length_append]; rfl
  refine ⟨⟨?_, ?_, fun i hi => ?_⟩, ?_, ?_, ?_, ?_⟩
  · rw [fup_e]; show _ = nI (wF w ++ [(k, [])]).length; rw [eL]
  · show (wF w ++ [(k, [])]).length ≤ 8; rw [eL]; omega
  · have hi' : i < (wF w ++ [(k, ([] : List spL))]).length := hi
    show _ = (wF w ++ [(k, [])])[i].1 ∧ _ = nI (wF w ++ [(k, [])])[i].2.length ∧ (wF w ++ [(k, [])])[i].2.length ≤ 40 ∧ RLs ln f3 (40 * i) (wF w ++ [(k, [])])[i].2
    by_cases q : i < (wF w).length
    · rw [List.getElem_append_left q, fup_n (by omega), fup_n (by omega)]
      exact a3 i q
    · have qe : i = (wF w).length := by rw [eL] at hi'; omega
      subst qe
      rw [List.getElem_append_right (Nat.le_refl _), fup_e, fup_e]
      simp only [Nat.sub_self, List.getElem_cons_zero]
      exact ⟨trivial, rfl, Nat.zero_le _, fun k hk => absurd hk (Nat.not_lt_zero _)⟩
  · rw [fup_n (by decide)]; exact b
  · rw [fup_n (by decide)]; exact c
  · rw [fup_n (by decide), fup_n (by decide), fup_n (by decide)]; exact d
  · rw [fup_n (by decide)]; exact t
/-- a file's lines are replaced -/
theorem CW.stf {f2' f3' : Nat → Int32} {j : Nat} {ls : List spL} (c : CW ln f0 f2 f3 f4 f5 f9 g1 s w) (hj : j < (wF w).length) (h2 : f2' j = nI ls.length) (h3 : ls.length ≤ 40) (h4 : RLs ln f3' (40 * j) ls) (h5 : ∀ i, i ≠ j → f2' i = f2 i) (h6 : ∀ k, (k < 40 * j ∨ 40 * j + 40 ≤ k) → f3' k = f3 k) : CW ln f0 f2' f3' f4 f5 f9 g1 s (setF w j ls) := by
  obtain ⟨⟨a1, a2, a3⟩, b, c, d, t⟩ := c
  have eL : ((wF w).set j (((wF w).getD j (0, [])).1, ls)).length = (wF w).length := List.length_set ..
  refine ⟨⟨?_, ?_, fun i hi => ?_⟩, b, c, d, t⟩
  · rw [a1]; show _ = nI ((wF w).set j _).length; rw [eL]
  · show ((wF w).set j _).length ≤ 8; rw [eL]; exact a2
  · have hi' : i < ((wF w).set j (((wF w).getD j (0, [])).1, ls)).length := hi
    have hil : i < (wF w).length := by rw [← eL]; exact hi'
    show _ = ((wF w).set j (((wF w).getD j (0, [])).1, ls))[i].1 ∧ _ = nI ((wF w).set j (((wF w).getD j (0, [])).1, ls))[i].2.length ∧ ((wF w).set j (((wF w).getD j (0, [])).1, ls))[i].2.length ≤ 40 ∧ RLs ln f3' (40 * i) ((wF w).set j (((wF w).getD j (0, [])).1, ls))[i].2
    rw [List.getElem_set]
    by_cases q : j = i
    · subst q
      rw [if_pos rfl, gd_at hj]
      exact ⟨(a3 j hj).1, h2, h3, h4⟩
    · rw [if_neg q, h5 i (fun c => q c.symm)]
      obtain ⟨x1, x2, x3, x4⟩ := a3 i hil
      exact ⟨x1, x2, x3, fun k hk => by rw [h6 _ (by omega)]; exact x4 k hk⟩
/-- one more record -/
theorem CW.rec {n : Nat} {r : Int32 × Int32 × Int32} (c : CW ln f0 f2 f3 f4 f5 f9 g1 s w) (hn : f0 10 = nI n) (hn2 : n < 2 ^ 31) (hs : s < 2 ^ 31) : CW ln (fup f0 10 (nI (n + 1))) f2 f3 f4 f5 (fup (fup (fup f9 (3 * (n % 60)) r.1) (3 * (n % 60) + 1) r.2.1) (3 * (n % 60) + 2) r.2.2) g1 (s + 1) (uT w (rec60 (wT w) r)) := by
  obtain ⟨a, b, c, d, m, t1, t2, t3, t4⟩ := c
  have em : m = n := (nI_eq (by omega) hn2).mp (t1.symm.trans hn)
  subst em
  refine ⟨?_, ?_, ?_, ?_, m + 1, by rw [fup_e], by omega, ?_, fun k hk => ?_⟩
  · rw [fup_n (by decide)]; exact a
  · rw [fup_n (by decide)]; exact b
  · rw [fup_n (by decide)]; exact c
  · rw [fup_n (by decide), fup_n (by decide), fup_n (by decide)]; exact d
  · show (rec60 (wT w) r).length = _
    unfold rec60
    split
    · rw [List.length_append, List.length_tail, List.length_singleton]; omega
    · rw [List.length_append, List.length_singleton]; omega
  · have hk' : k < (rec60 (wT w) r).length := hk
    show _ = (rec60 (wT w) r)[k].1 ∧ _ = (rec60 (wT w) r)[k].2.1 ∧ _ = (rec60 (wT w) r)[k].2.2
    have el : (uT w (rec60 (wT w) r)).2.2.2.2.2.1 = rec60 (wT w) r := rfl
    simp only [el]
    by_cases q : (wT w).length = 60
    · have er : rec60 (wT w) r = (wT w).tail ++ [r] := by unfold rec60; rw [if_pos q]
      have ek : (rec60 (wT w) r).length = 60 := by rw [er, List.length_append, List.length_tail, List.length_singleton]; omega
      rw [ek] at hk' ⊢
      by_cases k59 : k < 59
      · have g : (rec60 (wT w) r)[k] = (wT w)[k + 1]'(by omega) := by
          simp only [er]
          rw [List.getElem_append_left (by rw [List.length_tail]; omega), List.getElem_tail]
        rw [g]
        have o := t4 (k + 1) (by omega)
        have ne : (m + 1 - 60 + k) % 60 ≠ m % 60 := by omega
        rw [show (m - (wT w).length + (k + 1)) % 60 = (m + 1 - 60 + k) % 60 by rw [q]; congr 1; omega] at o
        rw [fup_n (by omega), fup_n (by omega), fup_n (by omega), fup_n (by omega), fup_n (by omega), fup_n (by omega), fup_n (by omega), fup_n (by omega), fup_n (by omega)]
        exact o
      · have k9 : k = 59 := by omega
        subst k9
        have g : (rec60 (wT w) r)[59] = r := by
          simp only [er]
          rw [List.getElem_append_right (by rw [List.length_tail]; omega)]
          simp
        rw [g, show (m + 1 - 60 + 59) % 60 = m % 60 by congr 1; omega]
        rw [fup_n (by omega), fup_n (by omega), fup_e, fup_n (by omega), fup_e, fup_e]
        exact ⟨rfl, rfl, rfl⟩
    · have er : rec60 (wT w) r = wT w ++ [r] := by unfold rec60; rw [if_neg q]
      have ek : (rec60 (wT w) r).length = m + 1 := by rw [er, List.length_append, List.length_singleton]; omega
      rw [ek] at hk' ⊢
      have lm : (wT w).length = m := by omega
      by_cases km : k < m
      · have g : (rec60 (wT w) r)[k] = (wT w)[k]'(by omega) := by
          simp only [er]
          rw [List.getElem_append_left (by omega)]
        rw [g]
        have o := t4 k (by omega)
        rw [show (m - (wT w).length + k) % 60 = (m + 1 - (m + 1) + k) % 60 by rw [lm]; congr 1; omega] at o
        have ne : (m + 1 - (m + 1) + k) % 60 ≠ m % 60 := by omega
        rw [fup_n (by omega), fup_n (by omega), fup_n (by omega), fup_n (by omega), fup_n (by omega), fup_n (by omega), fup_n (by omega), fup_n (by omega), fup_n (by omega)]
        exact o
      · have ke : k = m := by omega
        subst ke
        have g : (rec60 (wT w) r)[k] = r := by
          simp only [er]
          rw [List.getElem_append_right (by omega)]
          simp
        rw [g, show (k + 1 - (k + 1) + k) % 60 = k % 60 by congr 1; omega]
        rw [fup_n (by omega), fup_n (by omega), fup_e, fup_n (by omega), fup_e, fup_e]
        exact ⟨rfl, rfl, rfl⟩
end MXCW
