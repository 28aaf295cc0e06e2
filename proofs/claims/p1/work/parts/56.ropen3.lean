/-! THE REFERENCE'S OPEN FILES: opened -/
section MXOR
variable {d : Nat} {h0 h : mxH} {w : spW} {G : List spE} {V : List (Option (Option Nat))} {P : List spX} {n m xs : Nat}
section
variable {u k : Nat → Int32} {p : Nat} {kd its : Int32}
theorem opF_I {a : Nat} (h1 : a ≠ 353) (h2 : a ≠ 344) (h3 : a ≠ 320) (h4 : a ≠ 345) (h5 : a ≠ 346) : hpI (opF h u k p kd its) a = hpI h a := by
  rw [opF, hpI_sIo h5, hpI_sIo h4, opst_I h1 h2 h3]
theorem opF_F {j : Nat} (hj : j ≠ 67) : hpI (opF h u k p kd its) 320 j = hpI h 320 j := by rw [opF, hpI_sIo (by decide), hpI_sIo (by decide), opst_F hj]
theorem opF_67 : hpI (opF h u k p kd its) 320 67 = nI p := by rw [opF, hpI_sIo (by decide), hpI_sIo (by decide), opst_67]
theorem opF_344 : hpI (opF h u k p kd its) 344 = fup k p kd := by rw [opF, hpI_sIo (by decide), hpI_sIo (by decide), opst_344]
theorem opF_345 : hpI (opF h u k p kd its) 345 = fup (hpI h 345) p its := by rw [opF, hpI_sIo (by decide), hpI_sIs, opst_I (by decide) (by decide) (by decide)]
theorem opF_346 : hpI (opF h u k p kd its) 346 = fup (hpI h 346) p 0 := by rw [opF, hpI_sIs, hpI_sIo (by decide), opst_I (by decide) (by decide) (by decide)]
theorem opF_L : hpL (opF h u k p kd its) = hpL h := rfl
theorem opF_Fr (r : Fr h0 h) : Fr h0 (opF h u k p kd its) := ((((r.rI (a := 353) (f := u) rfl).rI (a := 344) (f := fup k p kd) rfl).sF (k := 67) rfl).rI (a := 345) rfl).rI rfl
end
theorem VO_of {L : Int32 → Prop} {A : Nat → Option Nat} (he : RE (RLn h) A (hpI h 354) (hpL h 355) G) (hv : RV A (hpI h 352) (hpI h 320 69) V) (hV : V.length ≤ 8000)
    (c1 : ∀ s, s < 1000 → hpI h 354 (83 * s + 82) = 1 → ∀ k, k < 10 → L (hpI h 354 (83 * s + 36 + k))) (c2 : ∀ k, k < V.length → L (hpI h 352 k)) : VO L h V.length := by
  refine ⟨fun s h1 h2 k hk => ?_, hv.1, hV, fun k hk => ?_⟩
  · obtain ⟨e, e1, rfl⟩ := mem_G he.2.2 h1 h2
    rcases (he.1 e e1).2.2.2.1 k hk with ⟨-, q⟩ | ⟨o, a, q1, q2, q3, q4⟩
    · exact Or.inl (by rw [← q]; show _ = hpI h 354 (83 * e.1 + (36 + k)); congr 1; omega)
    · have e2 : hpI h 354 (83 * e.1 + 36 + k) = nI o := by rw [← q2]; show _ = hpI h 354 (83 * e.1 + (36 + k)); congr 1; omega
      exact Or.inr ⟨o, e2, q3, by rw [← e2]; exact c1 e.1 h1 h2 k hk⟩
  · have := hv.2 k hk
    split at this
    · rcases this with q | ⟨o, q1, q2⟩
      · exact Or.inl q
      · exact Or.inr ⟨o, q1, q2, by rw [← q1]; exact c2 k hk⟩
    · rcases this with ⟨-, q⟩ | ⟨o, a, q1, q2, q3, q4⟩
      · exact Or.inl q
      · exact Or.inr ⟨o, q2, q3, by rw [← q2]; exact c2 k hk⟩
theorem RV.mono {A A' : Nat → Option Nat} {f : Nat → Int32} {nn : Int32} (r : RV A f nn V) (hm : ∀ k, k < V.length → ∀ o a, f k = nI o → A o = some a → A' o = some a) : RV A' f nn V := by
  refine ⟨r.1, fun k hk => ?_⟩
  have := r.2 k hk
  split at this
  · exact this
  · exact this.mono (hm k hk)
theorem k_X12_opened (hd : 3 ≤ d) {X : List (Int32 × spL)} {Z : List (Int32 × Nat)} (r : RG h0 h w G V P (X, [], Z) n m xs) (hm : m + 10 < 4000) (hV : V.length ≤ 8000) {kd o : Nat} {its : Int32} (hk1 : 1 ≤ kd) (hk6 : kd ≤ 6)
    (c1 : kd = 2 ∨ kd = 3 ∨ kd = 4 → its = nI o ∧ o < (wF w).length) (c2 : kd = 5 ∨ kd = 6 → (its, o) ∈ Z) :
    mx_SM mY_X12_opened d [.ref 320, .int (nI kd), .int its] h (mx_KI (fun v h1 => RG h0 h1 (opn w kd o).2 G V P (X, [(v, (opn w kd o).1)], Z) n (m + 1) xs ∧ hpI h1 354 = hpI h 354 ∧ hpI h1 352 = hpI h 352) fun _ _ => False) := by
  obtain ⟨A, B, Qs, fr, sr, hw, ht, ⟨ho1, ho2⟩, hp, he, hv, hk, hc, ⟨Lo, l1, l2, l3, l4⟩, ⟨z1, z2, ⟨p0, z3, z4⟩, z5⟩, hN⟩ := r
  have v : VO (fun v => v ∈ Lo ++ (List.range 10).map fun k => hpI h 354 (83 * xs + 36 + k)) h V.length := VO_of he hv hV (fun s h1 h2 k hk => by
    by_cases c : s = xs
    · subst c; exact List.mem_append_right _ (List.mem_map.mpr ⟨k, List.mem_range.mpr hk, rfl⟩)
    · exact List.mem_append_left _ (l2 s h1 c h2 k hk)) fun k hk => List.mem_append_left _ (l3 k hk)
  refine k_X12_opened_raw hd sr v z3 z4 (fun u hu => ?_) fun u k q hq hkq hcase => ?_
  · obtain ⟨i, i1, i2⟩ := out_of 4000 ((Lo ++ (List.range 10).map fun k => hpI h 354 (83 * xs + 36 + k)).map fun v => v.toNatClampNeg) (by rw [List.length_map, List.length_append, List.length_map, List.length_range]; omega)
    refine ⟨i, i1, ?_⟩
    rcases hu i i1 with g | ⟨-, g⟩
    · exact g
    · exact absurd (List.mem_map.mpr ⟨_, g, nI_clamp (by omega)⟩) i2
  · -- what A keeps
    have nz : ∀ i a, A i = some a → hpI h 344 i ≠ 0 := fun i a e => by
      obtain ⟨-, q, -, e2, e3, e4, -⟩ := ho1 i a e
      rw [e2]
      exact fun e => absurd ((nI_eq (b := 0) (by omega) (by omega)).mp e) (by omega)
    have key : ∃ A1 : Nat → Option Nat, (∀ i a, A1 i = some a → A i = some a ∧ i ≠ q ∧ k i = hpI h 344 i) ∧
        (∀ s, s < 1000 → hpI h 354 (83 * s + 82) = 1 → ∀ j, j < 10 → ∀ i a, hpI h 354 (83 * s + 36 + j) = nI i → A i = some a → A1 i = some a) ∧ (∀ j, j < V.length → ∀ i a, hpI h 352 j = nI i → A i = some a → A1 i = some a) ∧
        ∀ i, i < 4000 → ∃ c, k i = nI c ∧ c ≤ 6 := by
      rcases hcase with ⟨-, rfl⟩ | ⟨⟨m1, m2⟩, m3, m4⟩
      · refine ⟨A, fun i a e => ⟨e, fun e2 => nz i a e (by rw [e2]; exact hkq), rfl⟩, fun _ _ _ _ _ _ _ _ e => e, fun _ _ _ _ _ e => e, z5⟩
      · refine ⟨fun i => if u i = 1 then A i else none, fun i a e => ?_, fun s h1 h2 j hj i a e1 e2 => ?_, fun j hj i a e1 e2 => ?_, fun i hi => ?_⟩
        · by_cases cu : u i = 1
          · simp only [if_pos cu] at e
            have ki : k i = hpI h 344 i := by rw [m4 i (ho1 i a e).1, if_neg (by rw [cu]; decide)]
            exact ⟨e, fun e2 => nz i a e (by rw [← ki, e2]; exact hkq), ki⟩
          · simp only [if_neg cu] at e; cases e
        · have : u i = 1 := m1 s h1 h2 j hj i e1 (ho1 i a e2).1
          simp only [if_pos this]; exact e2
        · have : u i = 1 := m2 j hj i e1 (ho1 i a e2).1
          simp only [if_pos this]; exact e2
        · rw [m4 i hi]
          by_cases cu : u i = 0
          · exact ⟨0, by rw [if_pos cu]; rfl, by omega⟩
          · rw [if_neg cu]; exact z5 i hi
    obtain ⟨A1, k1, k2, k3, k4⟩ := key
    have ne : ∀ i a, A1 i = some a → i ≠ q := fun i a e => (k1 i a e).2.1
    refine Or.inl ⟨nI q, rfl, ⟨fun i => if i = q then some (wO w).length else A1 i, B, Qs, opF_Fr fr, sr, ?_⟩, opF_I (by decide) (by decide) (by decide) (by decide) (by decide), opF_I (by decide) (by decide) (by decide) (by decide) (by decide)⟩
    have up : ∀ i a, A1 i = some a → (fun i => if i = q then some (wO w).length else A1 i) i = some a := fun i a e => by
      show (if i = q then _ else _) = _
      rw [if_neg (ne i a e)]; exact e
    simp (disch := decide) only [opF_I, opF_F, opF_L, opF_344, opF_345, opF_346]
    refine ⟨hw, ht, ⟨fun i a e => ?_, fun i j a e1 e2 => ?_⟩, hp, he.mono (M := fun _ => True) (fun _ _ _ _ _ => trivial) (fun _ _ _ q => q) fun s h1 h2 j hj i a e1 e2 => up i a (k2 s h1 h2 j hj i a e1 e2), hv.mono fun j hj i a e1 e2 => up i a (k3 j hj i a e1 e2), hk, hc, ⟨nI q :: Lo, by rw [List.length_cons]; omega, fun s h1 h2 h3 j hj => List.mem_cons_of_mem _ (l2 s h1 h2 h3 j hj), fun j hj => List.mem_cons_of_mem _ (l3 j hj), fun q hq => ?_⟩, ⟨z1, z2, ⟨q, opF_67, hq⟩, fun i hi => ?_⟩, hN.1, fun q' hq' => ?_, hN.2.2⟩
    · by_cases c : i = q
      · subst c
        simp only [↓reduceIte, Option.some.injEq] at e
        subst e
        refine ⟨hq, (kd, o, 0), ?_, fup_e, hk1, hk6, by rw [fup_e]; rfl, Nat.zero_le _, fun g => ?_, fun g => ?_⟩
        · show (wO w ++ [(kd, o, 0)])[(wO w).length]? = _
          rw [List.getElem?_append_right (by omega), Nat.sub_self]; rfl
        · rw [fup_e]; exact c1 g
        · obtain ⟨b, b1, b2⟩ := hN.2.2 _ (c2 g)
          exact ⟨b, b2, by rw [fup_e]; exact b1⟩
      · simp only [if_neg c] at e
        obtain ⟨y1, y2, y3⟩ := k1 i a e
        obtain ⟨x1, qq, x2, x3, x4⟩ := ho1 i a y1
        refine ⟨x1, qq, ?_, by rw [fup_n c, y3]; exact x3, by rw [fup_n c, fup_n c]; exact x4⟩
        show (wO w ++ [(kd, o, 0)])[a]? = _
        rw [List.getElem?_append_left (by exact (List.getElem?_eq_some_iff.mp x2).1)]; exact x2
    · have fresh : ∀ i, A1 i ≠ some (wO w).length := fun i e => by
        obtain ⟨-, qq, x2, -⟩ := ho1 i _ (k1 i _ e).1
        have := (List.getElem?_eq_some_iff.mp x2).1
        exact absurd this (Nat.lt_irrefl _)
      by_cases ci : i = q
      · by_cases cj : j = q
        · rw [ci, cj]
        · simp only [if_pos ci, Option.some.injEq] at e1
          simp only [if_neg cj] at e2
          rw [← e1] at e2
          exact absurd e2 (fresh j)
      · by_cases cj : j = q
        · simp only [if_pos cj, Option.some.injEq] at e2
          simp only [if_neg ci] at e1
          rw [← e2] at e1
          exact absurd e1 (fresh i)
        · simp only [if_neg ci] at e1
          simp only [if_neg cj] at e2
          exact ho2 i j a (k1 i a e1).1 (k1 j a e2).1
    · rw [List.mem_singleton.mp hq]; exact List.mem_cons_self
    · by_cases c : i = q
      · rw [c, fup_e]; exact ⟨kd, rfl, hk6⟩
      · rw [fup_n c]; exact k4 i hi
    · rw [List.mem_singleton.mp hq']
      exact Or.inr ⟨q, (wO w).length, rfl, rfl, hq, if_pos rfl⟩
end MXOR
