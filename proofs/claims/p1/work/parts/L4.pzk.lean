/-! THE PARSER, PURE: what stands in its nodes, its code; code of nodes (KX) put together -/
section QZ4
variable {D : pmC} {T : spT} {N nc E n p q r c d i j : Nat} {v : Int32} {dp : Int32 → Nat}
theorem KS.up : ∀ (k t : Nat) (v : Int32) (p q : Nat), KS D T k t v p q → KS D T (k + 1) t v p q
  | 0, _, _, _, _, h => h.elim
  | k + 1, 0, v, p, q, h => by
    unfold KS at h ⊢
    split at h
    · rename_i c; rw [if_pos c]; exact h
    · rename_i c; rw [if_neg c]; exact KS.up k _ _ _ _ h
  | k + 1, 1, v, p, q, h => by
    unfold KS at h ⊢
    split at h
    · rename_i c; rw [if_pos c]; exact h
    · rename_i c
      rw [if_neg c]
      obtain ⟨r, h1, h2⟩ := h
      refine ⟨r, ?_, KS.up k _ _ _ _ h2⟩
      split at h1
      · rename_i c1
        rw [if_pos c1]
        obtain ⟨a1, a2, a3, a4, r', a5, a6, a7⟩ := h1
        exact ⟨a1, a2, a3, a4, r', a5, KS.up k _ _ _ _ a6, a7⟩
      · rename_i c1
        rw [if_neg c1]
        exact ⟨h1.1, KS.up k _ _ _ _ h1.2⟩
  | k + 1, 2, v, p, q, h => ⟨h.1, h.2.1, KS.up k _ _ _ _ h.2.2⟩
  | k + 1, 3, v, p, q, h => by
    unfold KS at h ⊢
    split at h
    · rename_i c; rw [if_pos c]; exact h
    · rename_i c
      rw [if_neg c]
      obtain ⟨r, h1, h2⟩ := h
      refine ⟨r, ?_, KS.up k _ _ _ _ h2⟩
      split at h1
      · rename_i c1; rw [if_pos c1]; exact ⟨h1.1, h1.2.1, KS.up k _ _ _ _ h1.2.2⟩
      · rename_i c1
        rw [if_neg c1]
        split at h1
        · rename_i c2; rw [if_pos c2]; exact ⟨h1.1, h1.2.1, KS.up k _ _ _ _ h1.2.2⟩
        · rename_i c2; rw [if_neg c2]; exact KS.up k _ _ _ _ h1
  | k + 1, 4, v, p, q, h => by
    unfold KS at h ⊢
    obtain ⟨r, h1, h2⟩ := h
    refine ⟨r, ?_, h2⟩
    split at h1
    · rename_i c1; rw [if_pos c1]; exact ⟨h1.1, KS.up k _ _ _ _ h1.2⟩
    · rename_i c1
      rw [if_neg c1]
      obtain ⟨a1, r1, a2, a3, a4, a5⟩ := h1
      exact ⟨a1, r1, a2, KS.up k _ _ _ _ a3, a4, KS.up k _ _ _ _ a5⟩
  | k + 1, 5, v, p, q, h => by
    unfold KS at h ⊢
    split at h
    · rename_i c; rw [if_pos c]; exact h
    · rename_i c
      rw [if_neg c]
      obtain ⟨r, a1, a2, a3, a4, a5⟩ := h
      exact ⟨r, a1, a2, KS.up k _ _ _ _ a3, a4, KS.up k _ _ _ _ a5⟩
  | k + 1, 6, v, p, q, h => by
    unfold KS at h ⊢
    obtain ⟨r, a1, a2, a3, a4, a5⟩ := h
    exact ⟨r, a1, a2, a3, KS.up k _ _ _ _ a4, a5⟩
  | k + 1, 7, v, p, q, h => by
    unfold KS at h ⊢
    rcases h with ⟨a1, a2, a3, r, a4, a5⟩ | ⟨a1, a2⟩ | ⟨a1, r1, r2, a2, a3, a4, a5, a6, a7, a8⟩ | ⟨a1, a2, r1, r2, a3, a4, a5, a6, a7⟩ | ⟨a1, a2, a3, a4, a5, a6, r, a7, a8⟩ | h | h
    · exact Or.inl ⟨a1, a2, a3, r, KS.up k _ _ _ _ a4, a5⟩
    · exact Or.inr (Or.inl ⟨a1, KS.up k _ _ _ _ a2⟩)
    · exact Or.inr (Or.inr (Or.inl ⟨a1, r1, r2, KS.up k _ _ _ _ a2, a3, a4, KS.up k _ _ _ _ a5, a6, a7, KS.up k _ _ _ _ a8⟩))
    · exact Or.inr (Or.inr (Or.inr (Or.inl ⟨a1, a2, r1, r2, KS.up k _ _ _ _ a3, a4, a5, KS.up k _ _ _ _ a6, a7⟩)))
    · exact Or.inr (Or.inr (Or.inr (Or.inr (Or.inl ⟨a1, a2, a3, a4, a5, a6, r, KS.up k _ _ _ _ a7, a8⟩))))
    · exact Or.inr (Or.inr (Or.inr (Or.inr (Or.inr (Or.inl h)))))
    · exact Or.inr (Or.inr (Or.inr (Or.inr (Or.inr (Or.inr h)))))
  | k + 1, t + 8, v, p, q, h => h.elim
theorem KS.ups : ∀ (m k t : Nat) (v : Int32) (p q : Nat), KS D T k t v p q → KS D T (k + m) t v p q
  | 0, k, t, v, p, q, h => h
  | m + 1, k, t, v, p, q, h => KS.up (k + m) t v p q (KS.ups m k t v p q h)
theorem KS.hi {k m t : Nat} {v : Int32} {p q : Nat} (h : KS D T k t v p q) (l : k ≤ m) : KS D T m t v p q := by
  have := KS.ups (m - k) k t v p q h
  rwa [show k + (m - k) = m by omega] at this
theorem kx0z (h : v = -1 ∨ tA T v = -1) (e : kSt D p = 7) : KX D T 0 v p (p + 1) := ⟨1, by unfold KS; rw [if_pos h]; exact ⟨e, rfl⟩⟩
theorem kx0 (h : ¬ (v = -1 ∨ tA T v = -1)) (k : KX D T 1 (tA T v) p q) : KX D T 0 v p q := by
  obtain ⟨m, k⟩ := k
  exact ⟨m + 1, by unfold KS; rw [if_neg h]; exact k⟩
theorem kx1z : KX D T 1 (-1) p p := ⟨1, by unfold KS; rw [if_pos rfl]⟩
theorem kx1j {a b : Nat} (hv : v ≠ -1) (h1 : tB T v = 1) (a1 : kSt D p = 16) (a2 : kTg D p = a + 1) (a3 : kAn D p = v) (a4 : kPl D v = p + 1) (k : KX D T 2 v (p + 1) a) (a7 : kSt D a = 21) (k2 : KX D T 1 (tN T v) (a + 1) b) : KX D T 1 v p b := by
  obtain ⟨m, k⟩ := k
  obtain ⟨m2, k2⟩ := k2
  refine ⟨m + m2 + 1, ?_⟩
  unfold KS
  rw [if_neg hv]
  refine ⟨a + 1, ?_, k2.hi (by omega)⟩
  rw [if_pos h1]
  exact ⟨a1, a2, a3, a4, a, rfl, k.hi (by omega), a7⟩
theorem kx1 {a b : Nat} (hv : v ≠ -1) (h1 : tB T v ≠ 1) (a1 : kSt D p = 0) (k : KX D T 2 v (p + 1) a) (k2 : KX D T 1 (tN T v) a b) : KX D T 1 v p b := by
  obtain ⟨m, k⟩ := k
  obtain ⟨m2, k2⟩ := k2
  refine ⟨m + m2 + 1, ?_⟩
  unfold KS
  rw [if_neg hv]
  refine ⟨a, ?_, k2.hi (by omega)⟩
  rw [if_neg h1]
  exact ⟨a1, k.hi (by omega)⟩
theorem kx2 (a : tA T v ≠ -1) (b : tC T (tA T v) = 0) (k : KX D T 3 (tA T v) p q) : KX D T 2 v p q := by
  obtain ⟨m, k⟩ := k
  exact ⟨m + 1, a, b, k⟩
theorem kx3z : KX D T 3 (-1) p p := ⟨1, by unfold KS; rw [if_pos rfl]⟩
theorem kx3a {a b : Nat} (hv : v ≠ -1) (h1 : tC T v = 1) (a1 : kSt D p = 11) (a2 : kTg D p = a) (k : KX D T 4 v (p + 1) a) (k2 : KX D T 3 (tN T v) a b) : KX D T 3 v p b := by
  obtain ⟨m, k⟩ := k
  obtain ⟨m2, k2⟩ := k2
  refine ⟨m + m2 + 1, ?_⟩
  unfold KS
  rw [if_neg hv]
  refine ⟨a, ?_, k2.hi (by omega)⟩
  rw [if_pos h1]
  exact ⟨a1, a2, k.hi (by omega)⟩
theorem kx3b {a b : Nat} (hv : v ≠ -1) (h1 : tC T v = 2) (a1 : kSt D p = 10) (a2 : kTg D p = a) (k : KX D T 4 v (p + 1) a) (k2 : KX D T 3 (tN T v) a b) : KX D T 3 v p b := by
  obtain ⟨m, k⟩ := k
  obtain ⟨m2, k2⟩ := k2
  refine ⟨m + m2 + 1, ?_⟩
  unfold KS
  rw [if_neg hv]
  refine ⟨a, ?_, k2.hi (by omega)⟩
  rw [if_neg (by rw [h1]; decide), if_pos h1]
  exact ⟨a1, a2, k.hi (by omega)⟩
theorem kx3 {a b : Nat} (hv : v ≠ -1) (h1 : tC T v = 0) (k : KX D T 4 v p a) (k2 : KX D T 3 (tN T v) a b) : KX D T 3 v p b := by
  obtain ⟨m, k⟩ := k
  obtain ⟨m2, k2⟩ := k2
  refine ⟨m + m2 + 1, ?_⟩
  unfold KS
  rw [if_neg hv]
  refine ⟨a, ?_, k2.hi (by omega)⟩
  rw [if_neg (by rw [h1]; decide), if_neg (by rw [h1]; decide)]
  exact k.hi (by omega)
/-- the commands of a pipeline, the first one v -/
def KF (D : pmC) (T : spT) (v : Int32) (p r : Nat) : Prop := if tN T v = -1 then kSt D p = 0 ∧ KX D T 6 v (p + 1) r else kSt D p = 17 ∧ ∃ r1, kTg D p = r1 + 1 ∧ KX D T 6 v (p + 1) r1 ∧ kSt D r1 = 21 ∧ KX D T 5 (tN T v) (r1 + 1) r
theorem kx4 {b : Nat} (k : KF D T (tA T v) p r) (h : if tB T v = 1 then kSt D r = 8 ∧ b = r + 1 else b = r) : KX D T 4 v p b := by
  unfold KF at k
  split at k
  · rename_i c
    obtain ⟨a1, m, k⟩ := k
    refine ⟨m + 1, ?_⟩
    unfold KS
    refine ⟨r, ?_, h⟩
    rw [if_pos c]
    exact ⟨a1, k⟩
  · rename_i c
    obtain ⟨a1, r1, a2, ⟨m, k⟩, a3, m2, k2⟩ := k
    refine ⟨m + m2 + 1, ?_⟩
    unfold KS
    refine ⟨r, ?_, h⟩
    rw [if_neg c]
    exact ⟨a1, r1, a2, k.hi (by omega), a3, k2.hi (by omega)⟩
theorem kx5z (e : kSt D p = 20) : KX D T 5 (-1) p (p + 1) := ⟨1, by unfold KS; rw [if_pos rfl]; exact ⟨e, rfl⟩⟩
theorem kx5 {a b : Nat} (hv : v ≠ -1) (a1 : kSt D p = (if tN T v = -1 then 19 else 18)) (a2 : kTg D p = a + 1) (k : KX D T 6 v (p + 1) a) (a3 : kSt D a = 21) (k2 : KX D T 5 (tN T v) (a + 1) b) : KX D T 5 v p b := by
  obtain ⟨m, k⟩ := k
  obtain ⟨m2, k2⟩ := k2
  refine ⟨m + m2 + 1, ?_⟩
  unfold KS
  rw [if_neg hv]
  exact ⟨a, a1, a2, k.hi (by omega), a3, k2.hi (by omega)⟩
theorem kx6 {a : Nat} (a1 : kSt D p = 1) (a2 : kTg D p = a + 1) (a3 : CI D T (kOp D p) v) (k : KX D T 7 v (p + 1) a) (a4 : kSt D a = 2) (a5 : kOp D a = kOp D p) : KX D T 6 v p (a + 1) := by
  obtain ⟨m, k⟩ := k
  refine ⟨m + 1, ?_⟩
  unfold KS
  exact ⟨a, a1, a2, a3, k, a4, a5, rfl⟩
theorem kx7r {a : Nat} (a0 : tK T v = 4) (a1 : kSt D p = 15) (a2 : kTg D p = a + 1) (k : KX D T 0 (tA T v) (p + 1) a) (a3 : kSt D a = 21) : KX D T 7 v p (a + 1) := by
  obtain ⟨m, k⟩ := k
  refine ⟨m + 1, ?_⟩
  unfold KS
  exact Or.inl ⟨a0, a1, a2, a, k, a3, rfl⟩
theorem kx7c {a : Nat} (a0 : tK T v = 5) (k : KX D T 0 (tA T v) p a) : KX D T 7 v p a := by
  obtain ⟨m, k⟩ := k
  refine ⟨m + 1, ?_⟩
  unfold KS
  exact Or.inr (Or.inl ⟨a0, k⟩)
theorem kx7i {a b e : Nat} (a0 : tK T v = 6) (k : KX D T 2 (tA T v) p a) (a1 : kSt D a = 11) (a2 : kTg D a = b + 1) (k1 : KX D T 0 (tB T v) (a + 1) b) (a3 : kSt D b = 9) (a4 : kTg D b = e) (k2 : KX D T 0 (tC T v) (b + 1) e) : KX D T 7 v p e := by
  obtain ⟨m, k⟩ := k
  obtain ⟨m1, k1⟩ := k1
  obtain ⟨m2, k2⟩ := k2
  refine ⟨m + m1 + m2 + 1, ?_⟩
  unfold KS
  exact Or.inr (Or.inr (Or.inl ⟨a0, a, b, k.hi (by omega), a1, a2, k1.hi (by omega), a3, a4, k2.hi (by omega)⟩))
theorem kx7w {a b : Nat} (a0 : tK T v = 7) (a1 : kSt D p = 12) (k : KX D T 2 (tA T v) (p + 1) a) (a2 : kSt D a = 13) (a3 : kTg D a = b + 1) (k1 : KX D T 0 (tB T v) (a + 1) b) (a4 : kSt D b = 14) (a5 : kTg D b = p + 1) : KX D T 7 v p (b + 1) := by
  obtain ⟨m, k⟩ := k
  obtain ⟨m1, k1⟩ := k1
  refine ⟨m + m1 + 1, ?_⟩
  unfold KS
  exact Or.inr (Or.inr (Or.inr (Or.inl ⟨a0, a1, a, b, k.hi (by omega), a2, a3, k1.hi (by omega), a4, a5, rfl⟩)))
theorem kx7d {a : Nat} (a0 : tK T v = 8) (a1 : kSt D p = 5) (a2 : kTg D p = a + 1) (a3 : CI D T (kOp D p) v) (a4 : kAn D p = tA T v) (a5 : kPl D (tA T v) = p + 1) (k : KX D T 0 (tA T v) (p + 1) a) (a6 : kSt D a = 6) : KX D T 7 v p (a + 1) := by
  obtain ⟨m, k⟩ := k
  refine ⟨m + 1, ?_⟩
  unfold KS
  exact Or.inr (Or.inr (Or.inr (Or.inr (Or.inl ⟨a0, a1, a2, a3, a4, a5, a, k, a6, rfl⟩))))
theorem kx7a (a0 : tK T v = 9) (a1 : kSt D p = 4) (a3 : CI D T (kOp D p) v) : KX D T 7 v p (p + 1) := by
  refine ⟨1, ?_⟩
  unfold KS
  exact Or.inr (Or.inr (Or.inr (Or.inr (Or.inr (Or.inl ⟨a0, a1, a3, rfl⟩)))))
theorem kx7p (a0 : tK T v = 10) (a1 : kSt D p = 3) (a3 : CI D T (kOp D p) v) : KX D T 7 v p (p + 1) := by
  refine ⟨1, ?_⟩
  unfold KS
  exact Or.inr (Or.inr (Or.inr (Or.inr (Or.inr (Or.inr ⟨a0, a1, a3, rfl⟩)))))
/-! nodes, code, commands that stand as the lists say -/
def ndE (T : spT) (v : Int32) (q : qzN) : Prop := tK T v = q.1 ∧ tA T v = q.2.1 ∧ tB T v = q.2.2.1 ∧ tC T v = q.2.2.2.1 ∧ tR T v = q.2.2.2.2.1 ∧ tN T v = q.2.2.2.2.2.1 ∧ tO T v = q.2.2.2.2.2.2.1 ∧ tM T v = q.2.2.2.2.2.2.2.1
def aN (T : spT) (D : pmC) (dp : Int32 → Nat) (n : Nat) (L : List qzN) : Prop := ∀ i (hi : i < L.length), ndE T (nI (n + i)) L[i] ∧ kPl D (nI (n + i)) = L[i].2.2.2.2.2.2.2.2.1 ∧ dp (nI (n + i)) = L[i].2.2.2.2.2.2.2.2.2
def aC (D : pmC) (p : Nat) (C : List qzC) : Prop := ∀ i (hi : i < C.length), kSt D (p + i) = C[i].1 ∧ kOp D (p + i) = C[i].2.1 ∧ kTg D (p + i) = C[i].2.2.1 ∧ kAn D (p + i) = C[i].2.2.2
def aM (D : pmC) (c : Nat) (M : List qzM) : Prop := ∀ i (hi : i < M.length), kKd D (c + i) = M[i].1 ∧ kOf D (c + i) = M[i].2.1 ∧ kNm D (c + i) = M[i].2.2.1 ∧ kAr D (c + i) = M[i].2.2.2.1 ∧ kRd D (c + i) = M[i].2.2.2.2
theorem gl_l {α : Type} {A B : List α} {i : Nat} (hi : i < A.length) (h2 : i < (A ++ B).length) : (A ++ B)[i] = A[i] := List.getElem_append_left hi
theorem gl_r {α : Type} {A B : List α} {i : Nat} (hi : i < B.length) (h2 : A.length + i < (A ++ B).length) : (A ++ B)[A.length + i] = B[i] := by
  rw [List.getElem_append_right (by omega)]
  simp only [Nat.add_sub_cancel_left]
theorem aN.hd {x : qzN} {L : List qzN} (a : aN T D dp n (x :: L)) : ndE T (nI n) x ∧ kPl D (nI n) = x.2.2.2.2.2.2.2.2.1 ∧ dp (nI n) = x.2.2.2.2.2.2.2.2.2 := a 0 (Nat.succ_pos _)
theorem aN.tl {x : qzN} {L : List qzN} (a : aN T D dp n (x :: L)) : aN T D dp (n + 1) L := fun i hi => by
  have := a (i + 1) (by rw [List.length_cons]; omega)
  rw [show n + (i + 1) = n + 1 + i by omega] at this
  exact this
theorem aN.l {A B : List qzN} (a : aN T D dp n (A ++ B)) : aN T D dp n A := fun i hi => by
  have := a i (by rw [List.length_append]; omega)
  rwa [gl_l hi] at this
theorem aN.rr {A B : List qzN} (a : aN T D dp n (A ++ B)) : aN T D dp (n + A.length) B := fun i hi => by
  have := a (A.length + i) (by rw [List.length_append]; omega)
  rw [gl_r hi] at this
  rwa [← Nat.add_assoc] at this
theorem aC.hd {x : qzC} {L : List qzC} (a : aC D p (x :: L)) : kSt D p = x.1 ∧ kOp D p = x.2.1 ∧ kTg D p = x.2.2.1 ∧ kAn D p = x.2.2.2 := a 0 (Nat.succ_pos _)
theorem aC.tl {x : qzC} {L : List qzC} (a : aC D p (x :: L)) : aC D (p + 1) L := fun i hi => by
  have := a (i + 1) (by rw [List.length_cons]; omega)
  rw [show p + (i + 1) = p + 1 + i by omega] at this
  exact this
theorem aC.l {A B : List qzC} (a : aC D p (A ++ B)) : aC D p A := fun i hi => by
  have := a i (by rw [List.length_append]; omega)
  rwa [gl_l hi] at this
theorem aC.rr {A B : List qzC} (a : aC D p (A ++ B)) : aC D (p + A.length) B := fun i hi => by
  have := a (A.length + i) (by rw [List.length_append]; omega)
  rw [gl_r hi] at this
  rwa [← Nat.add_assoc] at this
theorem aM.hd {x : qzM} {L : List qzM} (a : aM D c (x :: L)) : kKd D c = x.1 ∧ kOf D c = x.2.1 ∧ kNm D c = x.2.2.1 ∧ kAr D c = x.2.2.2.1 ∧ kRd D c = x.2.2.2.2 := a 0 (Nat.succ_pos _)
theorem aM.tl {x : qzM} {L : List qzM} (a : aM D c (x :: L)) : aM D (c + 1) L := fun i hi => by
  have := a (i + 1) (by rw [List.length_cons]; omega)
  rw [show c + (i + 1) = c + 1 + i by omega] at this
  exact this
theorem aM.l {A B : List qzM} (a : aM D c (A ++ B)) : aM D c A := fun i hi => by
  have := a i (by rw [List.length_append]; omega)
  rwa [gl_l hi] at this
theorem aM.rr {A B : List qzM} (a : aM D c (A ++ B)) : aM D (c + A.length) B := fun i hi => by
  have := a (A.length + i) (by rw [List.length_append]; omega)
  rw [gl_r hi] at this
  rwa [← Nat.add_assoc] at this
/-- what has to hold of a node, a step, a command -/
def wtM (T : spT) (n i : Nat) (v : Int32) : Prop :=
  (tK T v = 1 → nNx T n i (· = 2) (tA T v)) ∧
  (tK T v = 2 → nSub T n i (· = 3) (tA T v) ∧ nNx T n i (· = 2) (tN T v)) ∧
  (tK T v = 3 → nSub T n i kCmd (tA T v) ∧ nNx T n i (· = 3) (tN T v)) ∧
  (kCmd (tK T v) → nNx T n i kCmd (tN T v) ∧ chE T 3000 (tR T v) ∧ ∀ a ∈ chn T 3000 (tR T v), okR T a) ∧
  (tK T v = 4 → nSub T n i (· = 1) (tA T v)) ∧ (tK T v = 5 → nSub T n i (· = 1) (tA T v)) ∧
  (tK T v = 6 → nSub T n i (· = 2) (tA T v) ∧ nSub T n i (· = 1) (tB T v) ∧ nNx T n i (· = 1) (tC T v)) ∧
  (tK T v = 7 → nSub T n i (· = 2) (tA T v) ∧ nSub T n i (· = 1) (tB T v)) ∧
  (tK T v = 8 → nSub T n i (· = 1) (tA T v)) ∧
  (tK T v = 9 → okA T 1 (tA T v) ∧ (chn T 3000 (tA T v)).length = 1) ∧ (tK T v = 10 → okA T 350 (tA T v))
def wdM (T : spT) (dp : Int32 → Nat) (v : Int32) : Prop := dp v ≤ 5 ∧
  (tK T v = 1 → tA T v ≠ -1 → dp v ≤ dp (tA T v)) ∧
  (tK T v = 2 → dp v ≤ dp (tA T v) ∧ tC T (tA T v) = 0 ∧ (tN T v ≠ -1 → dp v ≤ dp (tN T v))) ∧
  (tK T v = 3 → dp v ≤ dp (tA T v) ∧ (tN T v ≠ -1 → dp v ≤ dp (tN T v))) ∧
  (kCmd (tK T v) → tN T v ≠ -1 → dp v ≤ dp (tN T v)) ∧
  ((tK T v = 4 ∨ tK T v = 5) → dp v + 1 ≤ dp (tA T v)) ∧
  (tK T v = 6 → dp v + 1 ≤ dp (tA T v) ∧ dp v + 1 ≤ dp (tB T v) ∧ (tC T v ≠ -1 → dp v + 1 ≤ dp (tC T v))) ∧
  (tK T v = 7 → dp v + 1 ≤ dp (tA T v) ∧ dp v + 1 ≤ dp (tB T v))
theorem WT.of (h : N ≤ 3000) (a : ∀ i, i < N → wtM T N i (nI i)) : WT T N := ⟨h, fun i v e hi => by subst e; exact a i hi⟩
theorem WD.of (a : ∀ i, i < N → wdM T dp (nI i)) : WD T N dp := fun i v e hi => by subst e; exact a i hi
def Nok (T : spT) (N : Nat) (dp : Int32 → Nat) (i : Nat) : Prop := wtM T N i (nI i) ∧ wdM T dp (nI i)
def Cok (D : pmC) (nc E i : Nat) : Prop := kSt D i ≤ 21 ∧ kTg D i ≤ E ∧ (kOp D i < nc ∨ kOp D i = 0) ∧ (kSt D i = 1 ∨ kSt D i = 2 ∨ kSt D i = 3 ∨ kSt D i = 4 ∨ kSt D i = 5 → kOp D i < nc) ∧ (kSt D i = 5 ∨ kSt D i = 16 → kPl D (kAn D i) = i + 1) ∧ (kSt D i = 3 → ∃ k, k ≤ 12 ∧ kKd D (kOp D i) = nI k)
def Aok (l : List spA) : Prop := ∀ a ∈ l, a.1 ≤ 2 ∧ (a.1 = 0 → 0 < a.2 ∧ fitW 12 a.2)
def Rok (l : List spR) : Prop := ∀ r ∈ l, r.1 ≤ 4 ∧ r.2.1 < 10 ∧ (r.1 = 3 → ∃ k, k < 10 ∧ r.2.2 = lN k)
def Mok (D : pmC) (c : Nat) : Prop := Aok (kAr D c) ∧ Rok (kRd D c)
def rgN (T : spT) (N : Nat) (dp : Int32 → Nat) (a b : Nat) : Prop := ∀ i, a ≤ i → i < b → Nok T N dp i
def rgC (D : pmC) (nc E a b : Nat) : Prop := ∀ i, a ≤ i → i < b → Cok D nc E i
def rgM (D : pmC) (a b : Nat) : Prop := ∀ i, a ≤ i → i < b → Mok D i
theorem rgN.z {a : Nat} : rgN T N dp a a := fun i h1 h2 => absurd h1 (by omega)
theorem rgC.z {a : Nat} : rgC D nc E a a := fun i h1 h2 => absurd h1 (by omega)
theorem rgM.z {a : Nat} : rgM D a a := fun i h1 h2 => absurd h1 (by omega)
theorem rgN.tr {a b e : Nat} (x : rgN T N dp a b) (y : rgN T N dp b e) : rgN T N dp a e := fun i h1 h2 => by
  by_cases c : i < b
  · exact x i h1 c
  · exact y i (by omega) h2
theorem rgC.tr {a b e : Nat} (x : rgC D nc E a b) (y : rgC D nc E b e) : rgC D nc E a e := fun i h1 h2 => by
  by_cases c : i < b
  · exact x i h1 c
  · exact y i (by omega) h2
theorem rgM.tr {a b e : Nat} (x : rgM D a b) (y : rgM D b e) : rgM D a e := fun i h1 h2 => by
  by_cases c : i < b
  · exact x i h1 c
  · exact y i (by omega) h2
theorem rgN.one {a : Nat} (x : Nok T N dp a) : rgN T N dp a (a + 1) := fun i h1 h2 => by
  obtain rfl : i = a := by omega
  exact x
theorem rgC.one {a : Nat} (x : Cok D nc E a) : rgC D nc E a (a + 1) := fun i h1 h2 => by
  obtain rfl : i = a := by omega
  exact x
theorem rgM.one {a : Nat} (x : Mok D a) : rgM D a (a + 1) := fun i h1 h2 => by
  obtain rfl : i = a := by omega
  exact x
/-- a step without operand -/
theorem Cok.of {s g : Nat} (h : kSt D i = s ∧ kOp D i = 0 ∧ kTg D i = g ∧ kAn D i = v) (hs : s = 0 ∨ 6 ≤ s) (h16 : s = 16 → kPl D v = i + 1) (h21 : s ≤ 21) (hg : g ≤ E) : Cok D nc E i := by
  obtain ⟨a1, a2, a3, a4⟩ := h
  refine ⟨by omega, by omega, Or.inr a2, fun c => absurd c (by omega), fun c => ?_, fun c => absurd c (by omega)⟩
  rw [a4]
  exact h16 (by omega)
end QZ4
