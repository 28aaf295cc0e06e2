/-! the present world is kept, and brought back -/
section MXJ7
variable {B h h1 h2 : mxH} {D : pmC} {d n j k W W1 sl s2 : Nat} {w w' : spW} {F F' : spF} {jl jl' : List Int32} {XL FS VS OS : List Nat} {p : Nat → Prop}
/-- what no call changes of the kinds -/
def BK (h : mxH) : Prop := (∀ a, cstA a = true → hpK h a ≠ 5) ∧ mx_kd h 319 5 ∧ ∀ o, mx_kd h o 5 → 128 ≤ o
theorem pw_in (hj : j < 6) : 161 + 20 * j + 6 ∈ pastX ∧ 161 + 20 * j ∈ scW := by
  have : j = 0 ∨ j = 1 ∨ j = 2 ∨ j = 3 ∨ j = 4 ∨ j = 5 := by omega
  rcases this with rfl | rfl | rfl | rfl | rfl | rfl <;> exact ⟨by decide, by decide⟩
theorem pw_ex {x : Nat} (hx : x ∈ pastX) : ∃ j, j < 6 ∧ x = 161 + 20 * j + 6 := by
  unfold pastX at hx
  simp only [List.mem_cons, List.not_mem_nil, or_false] at hx
  rcases hx with rfl | rfl | rfl | rfl | rfl | rfl
  · exact ⟨0, by decide, rfl⟩
  · exact ⟨1, by decide, rfl⟩
  · exact ⟨2, by decide, rfl⟩
  · exact ⟨3, by decide, rfl⟩
  · exact ⟨4, by decide, rfl⟩
  · exact ⟨5, by decide, rfl⟩
theorem pw_row (hj : j < 6) : 161 + 20 * j + 15 ∈ cRS XL VS := by
  unfold cRS
  refine List.mem_append_right _ (List.mem_cons_of_mem _ (List.mem_append_left _ (List.mem_map.mpr ⟨_, (pw_in hj).1, by omega⟩)))
theorem IDx.row (i : IDx h XL FS) : 155 ∈ cRS XL VS := by
  unfold cRS
  exact List.mem_append_left _ (List.mem_map.mpr ⟨146, (i.2.1 146).mpr (by simp), rfl⟩)
theorem IDx.keep (i : IDx h XL FS) (f : FrX p h h1) (k : hpK h 282 = 4) (hN : 282 < hpN h) : IDx h1 XL FS := by
  obtain ⟨x1, x2, x3, x4, x5⟩ := i
  refine ⟨x1, x2, x3, fun x hx => ⟨(x4 x hx).1.fp f.1, (x4 x hx).2⟩, ?_⟩
  rw [f.2.2.2.2.1 282 8 hN (by rw [k]; decide) (by rw [k]; decide) (Or.inl (by decide))]
  refine x5.cg fun y hy => ?_
  have s := (x4 y ((x2 y).mpr (List.mem_append_right _ hy))).1
  exact f.2.2.2.2.1 y 13 s.n0 (by rw [s.k0]; decide) (by rw [s.k0]; decide) (Or.inr (by decide))
theorem CU.keep {m : Nat} (c : CU h m) (sc : SC h) (f : FrX p h h1) (hp : ∀ b, 131 ≤ b → b ≤ 134 → ¬ p b) : CU h1 m :=
  CU_cg c fun b q1 q2 => (f.2.2.2.1 b (by have := sc.1; omega) (by
    rcases Nat.eq_or_lt_of_le q1 with c | c
    · exact sc_ne5b sc (by omega)
    · exact sc_ne5 sc (by omega)) (hp b q1 q2)).1
theorem CV.keep (v : CV h (fun _ => none) VS [] ∧ (∀ v ∈ VS, 365 ≤ v) ∧ VS.Nodup) (sc : SC h) (oi : OI h (cRS XL VS) []) (f : FrX p h h1) (rows : ∀ a ∈ cRS XL VS, a ≠ sl → ∀ k, k < 10 → hpR h1 a k = hpR h a k) (hs : sl < 360) : CV h1 (fun _ => none) VS [] ∧ (∀ v ∈ VS, 365 ≤ v) ∧ VS.Nodup := by
  have mem : ∀ u ∈ VS, u + 1 ∈ cRS XL VS := fun u hu => by
    unfold cRS
    exact List.mem_append_right _ (List.mem_cons_of_mem _ (List.mem_append_right _ (List.mem_map.mpr ⟨u, hu, rfl⟩)))
  have k286 := sc_k286 sc
  have N := sc.1
  exact ⟨v.1.cg f.1 (fun u hu => ⟨(oi.2.2.1 _ (mem u hu)).1.1, by omega⟩) (fun k => f.2.2.2.2.1 286 k (by omega) (by rw [k286]; decide) (by rw [k286]; decide) (Or.inl (by decide))) (fun u hu k hk => rows _ (mem u hu) (by have := v.2.1 u hu; omega) k hk) (fun o a e => e), v.2⟩
theorem WQ.b (q : WQ D h W w F jl) : (hpI h (W + 6) 4 = 0 ∨ hpI h (W + 6) 4 = 1) ∧ (hpI h W 13 = 0 ∨ hpI h W 13 = 1) := by
  obtain ⟨⟨s, -, -, -, -, ⟨-, -, -, e⟩, -⟩, -, ⟨-, -, -, pf, -⟩, -⟩ := q
  rw [pf, e]
  exact ⟨by cases fP F <;> decide, by cases wX w <;> decide⟩
theorem x_keep (hd : 5 ≤ d) (i : IDW D B h n w F jl XL FS VS OS) (bk : BK h) (hj : j < 6) : mx_SM mY_X10_copyFrom d [.ref (161 + 20 * j), .ref 140] h (fun r h1 => r = .inl none ∧ FrX (wblk (161 + 20 * j)) h h1 ∧ WQ D h1 (161 + 20 * j) w F jl ∧ (∀ i, i < 6 → i ≠ j → ∀ D w' F' jl', WQ D h (161 + 20 * i) w' F' jl' → WQ D h1 (161 + 20 * i) w' F' jl') ∧ CSh h h1 (161 + 20 * j + 6) (140 + 6) (fV F).length (fU F).length ∧ CWo h h1 (161 + 20 * j) 140 ∧ ∃ OS', IDW D B h1 n w F jl XL FS VS OS') := by
  obtain ⟨s0, q, cn, cd, oi, cu, ix, cv, past, acc⟩ := i
  have N := s0.1
  have wW : WB h (161 + 20 * j) := s0.2.2.2 _ (pw_in hj).2
  have w140 := sc_w s0
  have q' := q
  obtain ⟨-, -, ⟨⟨v1, v2, -⟩, ⟨u1, u2, -⟩, -⟩, -⟩ := q'
  have r155 : 155 ∈ cRS XL VS := ix.row
  refine (k_X10_copyFrom hd oi acc.os wW w140 (sc_k135 s0) (by omega) (pw_row hj) r155 (by omega) bk.2.2 (nv := (fV F).length) (nu := (fU F).length) v1 v2 u1 u2 q.b.1 q.b.2).mono ?_
  rintro r h1 ⟨rfl, oi1, os1, f, c, z, y⟩
  have c0 := c
  obtain ⟨c1, c2, c3, c4⟩ := c0
  obtain ⟨OS', acc'⟩ := acc.grow f os1 bk.2.1
  have k146 : hpI h1 146 = hpI h 146 := (f.2.2.2.1 146 (by omega) (by rw [w140.sb.k0]; decide) (by unfold wblk; omega)).1
  have r1 : ∀ k, k < 10 → hpR h1 155 k = hpR h 155 k := fun k hk => c1 155 r155 (by omega) k hk
  refine ⟨rfl, f, q.cp s0 (by omega) f c z y, fun i hi ne D' w' F' jl' qi => qi.keep s0 (by omega) (s0.2.2.2 _ (pw_in hi).2) f c (by omega) (pw_row hi), z, y, OS', s0.fp f.1, q.keep s0 (by omega) w140 f c (by omega) r155, cn, ?_, oi1, cu.keep s0 f (fun b h1 h2 => by unfold wblk; omega), ix.keep f (sc_k282 s0) (by omega), CV.keep cv s0 oi f c1 (by omega), fun x hx k hk o ho jj hjj => ?_, acc'⟩
  · unfold CFd at cd ⊢
    rw [k146]; exact cd
  · rw [r1 jj hjj]
    by_cases e : x + 9 = 161 + 20 * j + 15
    · rw [e] at ho
      rcases eb : hpR h (140 + 15) k with _ | b
      · rw [(c2 k hk).1 eb] at ho; exact nomatch ho
      · obtain ⟨o', o1, o2, o3, o4⟩ := (c2 k hk).2 b eb
        rw [ho] at o1
        rw [Option.some.inj o1]
        exact o4 155 r155 (by omega) jj hjj
    · obtain ⟨i, hi, rfl⟩ := pw_ex hx
      rw [c1 (161 + 20 * i + 6 + 9) (pw_row (j := i) hi) e k hk] at ho
      exact past _ hx k hk o ho jj hjj
/-- the main shell when an earlier world comes back -/
def unF (F F' : spF) : spF := (fS F', fH F', fN F, fV F', fU F', fA F', fP F', fD F, fG F, fB F)
theorem x_undo (hd : 5 ≤ d) (i : IDW D B h n w F jl XL FS VS OS) (bk : BK h) (hj : j < 6) (q : WQ D h (161 + 20 * j) w' F' jl') (cn : ∀ k, k < 10 → fH F' k = cnH (fH F') k) : mx_SM mY_X10_copyFrom d [.ref 140, .ref (161 + 20 * j)] h (fun r h1 => r = .inl none ∧ FrX (wblk 140) h h1 ∧ (∀ i, i < 6 → ∀ D w' F' jl', WQ D h (161 + 20 * i) w' F' jl' → WQ D h1 (161 + 20 * i) w' F' jl') ∧ ∃ OS', IDW D B h1 n w' (unF F F') jl' XL FS VS OS') := by
  obtain ⟨s0, -, -, cd, oi, cu, ix, cv, past, acc⟩ := i
  have N := s0.1
  have wW : WB h (161 + 20 * j) := s0.2.2.2 _ (pw_in hj).2
  have w140 := sc_w s0
  have q' := q
  obtain ⟨-, -, ⟨⟨v1, v2, -⟩, ⟨u1, u2, -⟩, -⟩, -⟩ := q'
  have r155 : 155 ∈ cRS XL VS := ix.row
  refine (k_X10_copyFrom hd oi acc.os w140 wW (sc_k135 s0) (by omega) r155 (pw_row hj) (by omega) bk.2.2 (nv := (fV F').length) (nu := (fU F').length) v1 v2 u1 u2 q.b.1 q.b.2).mono ?_
  rintro r h1 ⟨rfl, oi1, os1, f, c, z, y⟩
  have c0 := c
  obtain ⟨c1, c2, c3, c4⟩ := c0
  obtain ⟨OS', acc'⟩ := acc.grow f os1 bk.2.1
  obtain ⟨z1, z2, z3, z4, z5⟩ := id z
  refine ⟨rfl, f, fun i hi D' w' F' jl' qi => qi.keep s0 (by omega) (s0.2.2.2 _ (pw_in hi).2) f c (by omega) (pw_row hi), OS', s0.fp f.1, q.cp s0 (by omega) f c z y, cn, ?_, oi1, cu.keep s0 f (fun b h1 h2 => by unfold wblk; omega), ix.keep f (sc_k282 s0) (by omega), CV.keep cv s0 oi f c1 (by omega), fun x hx k hk o ho jj hjj e => ?_, acc'⟩
  · obtain ⟨d1, d2, d3, d4, d5, d6⟩ := cd
    have z4 : ∀ k, hpI h1 146 k = if k = 4 ∨ k = 6 ∨ k = 14 then hpI h (161 + 20 * j + 6) k else hpI h 146 k := z4
    exact ⟨by rw [z4, if_neg (by decide)]; exact d1, by rw [z4, if_neg (by decide)]; exact d2, by rw [z4, if_neg (by decide)]; exact d3, d4, by rw [z4, if_neg (by decide)]; exact d5, d6⟩
  · obtain ⟨i, hi, rfl⟩ := pw_ex hx
    rw [c1 (161 + 20 * i + 6 + 9) (pw_row (j := i) hi) (by omega) k hk] at ho
    have e : hpR h1 (140 + 15) jj = some o := e
    rcases eb : hpR h (161 + 20 * j + 15) jj with _ | b
    · rw [(c2 jj hjj).1 eb] at e; exact nomatch e
    · obtain ⟨o', o1, o2, o3, o4⟩ := (c2 jj hjj).2 b eb
      rw [e] at o1
      rw [← Option.some.inj o1] at o4
      exact o4 (161 + 20 * i + 6 + 9) (pw_row (j := i) hi) (by omega) k hk ho
end MXJ7
