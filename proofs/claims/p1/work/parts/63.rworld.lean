/-! THE REFERENCE'S WORLD: changes of files, input, output; positions -/
section MXWO
variable {d : Nat} {h0 h : mxH} {w w' : spW} {G : List spE} {V : List (Option (Option Nat))} {P : List spX} {N : spN} {n m xs : Nat} {f : Nat → Int32} {g : Nat → Int64}
theorem RG.world (r : RG h0 h w G V P N n m xs) (e1 : wO w' = wO w) (e2 : wU w' = wU w) (e3 : wT w' = wT w) (e4 : wB w' = wB w) (e5 : wK w' = wK w) (e6 : wX w' = wX w) (e7 : (wF w).length ≤ (wF w').length)
    (nw : ∀ ln : Int32 → spL → Prop, RW ln (hpI h 342) (hpL h 343) w → (∀ q ∈ N.1, ln q.1 q.2) → ln 0 [] → RW ln f g w') (c : ∀ L : Int32 → Prop, RCw (hpI h 342) L → (∀ q ∈ N.1, L q.1) → L 0 → RCw f L) :
    RG h0 (hrL (hrI h 342 f) 343 g) w' G V P N n m xs := by
  obtain ⟨A, B, Qs, fr, sr, hw, ht, ⟨ho1, ho2⟩, hp, he, hv, hk, ⟨Lr, l1, l2, l3, l4, l5, l6⟩, hd, hz, hN⟩ := r
  refine ⟨A, B, Qs, (fr.rI rfl).rL rfl, sr, nw _ hw hN.1 hz.1, ?_, ⟨fun i a e => ?_, ho2⟩, ?_, he, hv, hk, ⟨Lr, l1, c _ l2 l6 l1.2, l3, l4, l5, l6⟩, hd, hz, hN⟩
  · unfold RT at ht ⊢; rw [e3, e4, e5, e6]; exact ht
  · obtain ⟨x1, q, x2, x3, x4, x5, x6, x7, x8, x9⟩ := ho1 i a e
    exact ⟨x1, q, by rw [e1]; exact x2, x3, x4, x5, x6, x7, fun c => ⟨(x8 c).1, Nat.lt_of_lt_of_le (x8 c).2 e7⟩, x9⟩
  · unfold RP at hp ⊢; rw [e2]; exact hp
/-- a position changes -/
theorem RG.pos {X : List (Int32 × spL)} {Y Z : List (Int32 × Nat)} (r : RG h0 h w G V P (X, Y, Z) n m xs) {o a ps : Nat} {q : spO} (hy : (nI o, a) ∈ Y) (ho : o < 4000) (hq : (wO w)[a]? = some q) (hp : ps ≤ 40) :
    RG h0 (hsI h 346 o (nI ps)) (uO w ((wO w).set a (q.1, q.2.1, ps))) G V P (X, Y, Z) n m xs := by
  obtain ⟨A, B, Qs, fr, sr, hw, ht, ⟨ho1, ho2⟩, hpp, he, hv, hk, hc, hd, hz, hN1, hN2, hN3⟩ := r
  have hA : A o = some a := by
    rcases hN2 _ hy with ⟨q, -⟩ | ⟨o', a', q1, q2, q3, q4⟩
    · cases q
    · have e1 : a = a' := (Option.some.injEq _ _).mp q1
      have e2 : o = o' := (nI_eq (by omega) (by omega)).mp q2
      rw [e1, e2]; exact q4
  have lt : a < (wO w).length := (List.getElem?_eq_some_iff.mp hq).1
  refine ⟨A, B, Qs, fr.rI rfl, sr, hw, ht, ⟨fun i b e => ?_, ho2⟩, hpp, he, hv, hk, hc, hd, hz, hN1, hN2, hN3⟩
  obtain ⟨x1, q', x2, x3, x4, x5, x6, x7, x8, x9⟩ := ho1 i b e
  by_cases c : i = o
  · subst c
    have eb : a = b := by rw [hA] at e; exact (Option.some.injEq _ _).mp e
    subst eb
    rw [hq] at x2
    have eq : q = q' := (Option.some.injEq _ _).mp x2
    subst eq
    refine ⟨x1, (q.1, q.2.1, ps), ?_, x3, x4, x5, ?_, hp, x8, x9⟩
    · show ((wO w).set a (q.1, q.2.1, ps))[a]? = _
      rw [List.getElem?_set_self lt]
    · show hpI (hsI h 346 i (nI ps)) 346 i = _
      rw [hpI_sIs, fup_e]
  · have nb : a ≠ b := fun e' => c (ho2 i o b e (e' ▸ hA))
    refine ⟨x1, q', ?_, x3, x4, x5, ?_, x7, x8, x9⟩
    · show ((wO w).set a (q.1, q.2.1, ps))[b]? = _
      rw [List.getElem?_set_ne nb]; exact x2
    · show hpI (hsI h 346 o (nI ps)) 346 i = _
      rw [hpI_sIs, fup_n c]; exact x6
/-- one more line in hand, out of the world -/
theorem RG.hold (r : RG h0 h w G V P N n m xs) {v : Int32} {l : spL} (hv : ∀ ln : Int32 → spL → Prop, RW ln (hpI h 342) (hpL h 343) w → ln v l) (hc : ∀ L : Int32 → Prop, RCw (hpI h 342) L → L v) : RG h0 h w G V P ((v, l) :: N.1, N.2) n m xs := by
  obtain ⟨A, B, Qs, fr, sr, hw, ht, ho, hp, he, hvv, hk, ⟨Lr, l1, l2, l3, l4, l5, l6⟩, hd, hz, hN⟩ := r
  refine ⟨A, B, Qs, fr, sr, hw, ht, ho, hp, he, hvv, hk, ⟨Lr, l1, l2, l3, l4, l5, fun q hq => ?_⟩, hd, hz, fun q hq => ?_, hN.2⟩
  · rcases List.mem_cons.mp hq with rfl | hq
    · exact hc _ l2
    · exact l6 q hq
  · rcases List.mem_cons.mp hq with rfl | hq
    · exact hv _ hw
    · exact hN.1 q hq
theorem RG.rw1 (r : RG h0 h w G V P N n m xs) : RW (RLn h) (hpI h 342) (hpL h 343) w := by
  obtain ⟨A, B, Qs, -, -, hw, -⟩ := r; exact hw
/-- a file's lines change -/
theorem RW.file {ln : Int32 → spL → Prop} {f f' : Nat → Int32} {i : Nat} {ls : List spL} (r : RW ln f g w) (hi : i < (wF w).length) (h1 : f' (1 + 41 * i) = nI ls.length) (h2 : ls.length ≤ 40) (h3 : RLs ln f' (2 + 41 * i) ls) (h4 : ∀ k, (k < 1 + 41 * i ∨ 42 + 41 * i ≤ k) → f' k = f k) : RW ln f' g (setF w i ls) := by
  obtain ⟨⟨a1, a2, a3⟩, b, ⟨c1, c2, c3⟩, ⟨d1, d2, d3⟩⟩ := r
  have sl : (wF (setF w i ls)).length = (wF w).length := List.length_set
  refine ⟨⟨by rw [sl, h4 0 (by omega)]; exact a1, by rw [sl]; exact a2, fun j hj => ?_⟩, fun j j1 j2 => ?_, ⟨by rw [h4 329 (by omega)]; exact c1, c2, fun k hk => ?_⟩, ⟨by rw [h4 370 (by omega)]; exact d1, d2, fun k hk => ?_⟩⟩
  · rw [sl] at hj
    obtain ⟨e1, e2, e3, e4⟩ := a3 j hj
    by_cases c : j = i
    · subst c
      have ee : (wF (setF w j ls))[j] = (((wF w).getD j (0, [])).1, ls) := by
        show ((wF w).set j _)[j] = _
        rw [List.getElem_set_self]
      rw [ee]
      refine ⟨?_, h1, h2, h3⟩
      rw [e1, List.getD_eq_getElem?_getD, List.getElem?_eq_getElem hi]; rfl
    · have ee : (wF (setF w i ls))[j] = (wF w)[j] := by
        show ((wF w).set i _)[j] = _
        rw [List.getElem_set_ne (fun e => c e.symm)]
      rw [ee]
      refine ⟨e1, by rw [h4 _ (by omega)]; exact e2, e3, fun k hk => ?_⟩
      rw [h4 _ (by omega)]; exact e4 k hk
  · rw [sl] at j1
    obtain ⟨l2, e1, e2, e3⟩ := b j j1 j2
    exact ⟨l2, by rw [h4 _ (by omega)]; exact e1, e2, fun k hk => by rw [h4 _ (by omega)]; exact e3 k hk⟩
  · rw [h4 _ (by omega)]; exact c3 k hk
  · rw [h4 _ (by omega)]; exact d3 k hk
theorem RCw.file {f f' : Nat → Int32} {i c : Nat} {L : Int32 → Prop} (r : RCw f L) (hi : i < 8) (h1 : f' (1 + 41 * i) = nI c) (hc : c ≤ 40) (h2 : ∀ k, k < c → L (f' (2 + 41 * i + k))) (h4 : ∀ k, (k < 1 + 41 * i ∨ 42 + 41 * i ≤ k) → f' k = f k) (hb : ∀ j, j < 8 → ∃ b, f (1 + 41 * j) = nI b ∧ b ≤ 40) (hI : ∃ b, f 329 = nI b ∧ b ≤ 40) (hP : ∃ b, f 370 = nI b ∧ b ≤ 100) : RCw f' L := by
  obtain ⟨a, b, c'⟩ := r
  refine ⟨fun j hj k hk => ?_, fun k hk => ?_, fun k hk => ?_⟩
  · by_cases e : j = i
    · subst e
      rw [h1, nI_clamp (by omega)] at hk
      exact h2 k hk
    · obtain ⟨y, y1, y2⟩ := hb j hj
      have e1 : f' (1 + 41 * j) = f (1 + 41 * j) := h4 _ (by omega)
      rw [e1] at hk
      have hk2 : k < y := by rw [y1, nI_clamp (by omega)] at hk; exact hk
      rw [h4 _ (by omega)]
      exact a j hj k hk
  · have e1 : f' 329 = f 329 := h4 _ (by omega)
    rw [e1] at hk
    rw [h4 _ (by omega)]; exact b k hk
  · have e1 : f' 370 = f 370 := h4 _ (by omega)
    rw [e1] at hk
    rw [h4 _ (by omega)]; exact c' k hk
theorem RW.cnt {ln : Int32 → spL → Prop} (r : RW ln f g w) : (∀ j, j < 8 → ∃ b, f (1 + 41 * j) = nI b ∧ b ≤ 40) ∧ (∃ b, f 329 = nI b ∧ b ≤ 40) ∧ (∃ b, f 370 = nI b ∧ b ≤ 100) := by
  obtain ⟨⟨a1, a2, a3⟩, b, ⟨c1, c2, c3⟩, ⟨d1, d2, d3⟩⟩ := r
  refine ⟨fun j hj => ?_, ⟨_, c1, c2⟩, ⟨_, d1, d2⟩⟩
  by_cases q : j < (wF w).length
  · exact ⟨_, (a3 j q).2.1, (a3 j q).2.2.1⟩
  · obtain ⟨ls, e1, e2, -⟩ := b j (by omega) hj
    exact ⟨_, e1, e2⟩
theorem RW.at {ln : Int32 → spL → Prop} (r : RW ln f g w) {i : Nat} (hi : i < (wF w).length) : f (1 + 41 * i) = nI (lnsOf w i).length ∧ (lnsOf w i).length ≤ 40 ∧ RLs ln f (2 + 41 * i) (lnsOf w i) ∧ i < 8 := by
  have e : lnsOf w i = (wF w)[i].2 := by
    unfold lnsOf
    rw [List.getD_eq_getElem?_getD, List.getElem?_eq_getElem hi]; rfl
  rw [e]
  have := r.1.2.2 i hi
  exact ⟨this.2.1, this.2.2.1, this.2.2.2, by have := r.1.2.1; omega⟩
end MXWO
