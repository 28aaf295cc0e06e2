/-! THE CLASS'S PLACE (PRINTED by wip/whole/gensc.py): final fields, what stays, a shell's block of 13 cells, a world's block of 20, the static objects 128 to 318 -/
section MXSC
variable {h h' h'' : mxH} {x a k : Nat}
def fnlL (kd : Nat) : List Nat := match kd with
  | 0 => [1, 2, 4, 5]
  | 1 => [0, 1, 2, 3]
  | 2 => [0, 1]
  | 3 => [0, 1, 2]
  | 4 => [0, 1, 2, 3, 5, 7]
  | 6 => [0]
  | 7 => [0, 1, 2, 4, 5, 6, 7, 8, 9, 10, 12, 13, 15, 16]
  | 8 => [0, 1, 2, 3, 15, 16, 17]
  | 9 => [0, 1]
  | 10 => [0, 1, 2, 4, 6, 8, 9]
  | 11 => [0, 2, 4, 5, 6, 8, 9]
  | _ => []
/-- kinds, lengths, final fields stay -/
def FP (h h' : mxH) : Prop := hpN h ≤ hpN h' ∧ ∀ a, a < hpN h → hpK h' a = hpK h a ∧ hpZ h' a = hpZ h a ∧ ∀ k, k ∈ fnlL (hpK h a) → hpR h' a k = hpR h a k
theorem FP.rf : FP h h := ⟨Nat.le_refl _, fun _ _ => ⟨rfl, rfl, fun _ _ => rfl⟩⟩
theorem FP.tr (p : FP h h') (q : FP h' h'') : FP h h'' := ⟨Nat.le_trans p.1 q.1, fun a ha => by
  obtain ⟨p1, p2, p3⟩ := p.2 a ha
  obtain ⟨q1, q2, q3⟩ := q.2 a (Nat.lt_of_lt_of_le ha p.1)
  exact ⟨q1.trans p1, q2.trans p2, fun k hk => (q3 k (by rw [p1]; exact hk)).trans (p3 k hk)⟩⟩
theorem FP.I {v : Int32} (p : FP h h') : FP h (hsI h' a k v) := p
theorem FP.L {v : Int64} (p : FP h h') : FP h (hsL h' a k v) := p
theorem FP.rI {f : Nat → Int32} (p : FP h h') : FP h (hrI h' a f) := p
theorem FP.rL {f : Nat → Int64} (p : FP h h') : FP h (hrL h' a f) := p
theorem FP.R {v : Option Nat} (p : FP h h') (hk : k ∉ fnlL (hpK h' a)) : FP h (hsR h' a k v) := by
  refine p.tr ⟨Nat.le_refl _, fun b hb => ⟨rfl, rfl, fun j hj => ?_⟩⟩
  rw [hpR_sR]
  by_cases c : b = a
  · subst c
    by_cases cj : j = k
    · subst cj; exact absurd hj hk
    · rw [if_pos rfl, if_neg cj]
  · rw [if_neg c]
theorem FP.nw {kd l z : Nat} (p : FP h h') : FP h (hnw h' kd l z) := by
  refine p.tr ⟨Nat.le_succ _, fun b hb => ⟨?_, ?_, fun j hj => ?_⟩⟩
  · rw [hpK_nw, if_neg (Nat.ne_of_lt hb)]
  · rw [hpZ_nw, if_neg (Nat.ne_of_lt hb)]
  · rw [hpR_nw, if_neg (Nat.ne_of_lt hb)]
theorem FP.kd {b kd : Nat} (p : FP h h') (q : mx_kd h b kd) : mx_kd h' b kd := ⟨Nat.lt_of_lt_of_le q.1 p.1, ((p.2 b q.1).1).trans q.2⟩
/-- a shell's block -/
def sbK : Nat → Nat := fun i => match i with
  | 0 => 8
  | 1 => 9
  | 2 => 15
  | 3 => 14
  | 4 => 9
  | 5 => 15
  | 6 => 14
  | 7 => 15
  | 8 => 2
  | 9 => 18
  | 10 => 19
  | _ => 14
def sbZ : Nat → Nat := fun i => match i with
  | 2 => 20
  | 3 => 20
  | 5 => 10
  | 6 => 10
  | 7 => 4
  | 9 => 10
  | 10 => 8
  | 11 => 8
  | 12 => 8
  | _ => 0
def sbR : List (Nat × Nat × Nat) := [(0, 0, 1), (0, 1, 4), (0, 2, 7), (0, 3, 8), (0, 15, 10), (0, 16, 11), (0, 17, 12), (1, 0, 2), (1, 1, 3), (4, 0, 5), (4, 1, 6), (8, 1, 9)]
def SB (h : mxH) (x : Nat) : Prop := x + 13 ≤ hpN h ∧ (∀ i, i < 13 → hpK h (x + i) = sbK i ∧ hpZ h (x + i) = sbZ i) ∧ (∀ t ∈ sbR, hpR h (x + t.1) t.2.1 = some (x + t.2.2)) ∧ hpR h (x + 8) 0 = some 135
theorem sbR_at : ∀ t ∈ sbR, t.1 < 13 ∧ t.2.1 ∈ fnlL (sbK t.1) := by decide
theorem SB.fp (p : FP h h') (s : SB h x) : SB h' x := by
  obtain ⟨s1, s2, s3, s4⟩ := s
  have q : ∀ i, i < 13 → hpK h' (x + i) = hpK h (x + i) ∧ hpZ h' (x + i) = hpZ h (x + i) ∧ ∀ k, k ∈ fnlL (hpK h (x + i)) → hpR h' (x + i) k = hpR h (x + i) k := fun i hi => p.2 _ (by omega)
  refine ⟨Nat.le_trans s1 p.1, fun i hi => ⟨(q i hi).1.trans (s2 i hi).1, (q i hi).2.1.trans (s2 i hi).2⟩, fun t ht => ?_, ?_⟩
  · obtain ⟨t1, t2⟩ := sbR_at t ht
    rw [(q _ t1).2.2 _ (by rw [(s2 _ t1).1]; exact t2)]
    exact s3 t ht
  · rw [(q 8 (by omega)).2.2 0 (by rw [(s2 8 (by omega)).1]; decide)]
    exact s4
theorem SB.k0 (s : SB h x) : hpK h (x) = 8 := (s.2.1 0 (by decide)).1
theorem SB.n0 (s : SB h x) : x < hpN h := by have := s.1; omega
theorem SB.k1 (s : SB h x) : hpK h (x + 1) = 9 := (s.2.1 1 (by decide)).1
theorem SB.n1 (s : SB h x) : x + 1 < hpN h := by have := s.1; omega
theorem SB.k2 (s : SB h x) : hpK h (x + 2) = 15 := (s.2.1 2 (by decide)).1
theorem SB.z2 (s : SB h x) : hpZ h (x + 2) = 20 := (s.2.1 2 (by decide)).2
theorem SB.n2 (s : SB h x) : x + 2 < hpN h := by have := s.1; omega
theorem SB.k3 (s : SB h x) : hpK h (x + 3) = 14 := (s.2.1 3 (by decide)).1
theorem SB.z3 (s : SB h x) : hpZ h (x + 3) = 20 := (s.2.1 3 (by decide)).2
theorem SB.n3 (s : SB h x) : x + 3 < hpN h := by have := s.1; omega
theorem SB.k4 (s : SB h x) : hpK h (x + 4) = 9 := (s.2.1 4 (by decide)).1
theorem SB.n4 (s : SB h x) : x + 4 < hpN h := by have := s.1; omega
theorem SB.k5 (s : SB h x) : hpK h (x + 5) = 15 := (s.2.1 5 (by decide)).1
theorem SB.z5 (s : SB h x) : hpZ h (x + 5) = 10 := (s.2.1 5 (by decide)).2
theorem SB.n5 (s : SB h x) : x + 5 < hpN h := by have := s.1; omega
theorem SB.k6 (s : SB h x) : hpK h (x + 6) = 14 := (s.2.1 6 (by decide)).1
theorem SB.z6 (s : SB h x) : hpZ h (x + 6) = 10 := (s.2.1 6 (by decide)).2
theorem SB.n6 (s : SB h x) : x + 6 < hpN h := by have := s.1; omega
theorem SB.k7 (s : SB h x) : hpK h (x + 7) = 15 := (s.2.1 7 (by decide)).1
theorem SB.z7 (s : SB h x) : hpZ h (x + 7) = 4 := (s.2.1 7 (by decide)).2
theorem SB.n7 (s : SB h x) : x + 7 < hpN h := by have := s.1; omega
theorem SB.k8 (s : SB h x) : hpK h (x + 8) = 2 := (s.2.1 8 (by decide)).1
theorem SB.n8 (s : SB h x) : x + 8 < hpN h := by have := s.1; omega
theorem SB.k9 (s : SB h x) : hpK h (x + 9) = 18 := (s.2.1 9 (by decide)).1
theorem SB.z9 (s : SB h x) : hpZ h (x + 9) = 10 := (s.2.1 9 (by decide)).2
theorem SB.n9 (s : SB h x) : x + 9 < hpN h := by have := s.1; omega
theorem SB.k10 (s : SB h x) : hpK h (x + 10) = 19 := (s.2.1 10 (by decide)).1
theorem SB.z10 (s : SB h x) : hpZ h (x + 10) = 8 := (s.2.1 10 (by decide)).2
theorem SB.n10 (s : SB h x) : x + 10 < hpN h := by have := s.1; omega
theorem SB.k11 (s : SB h x) : hpK h (x + 11) = 14 := (s.2.1 11 (by decide)).1
theorem SB.z11 (s : SB h x) : hpZ h (x + 11) = 8 := (s.2.1 11 (by decide)).2
theorem SB.n11 (s : SB h x) : x + 11 < hpN h := by have := s.1; omega
theorem SB.k12 (s : SB h x) : hpK h (x + 12) = 14 := (s.2.1 12 (by decide)).1
theorem SB.z12 (s : SB h x) : hpZ h (x + 12) = 8 := (s.2.1 12 (by decide)).2
theorem SB.n12 (s : SB h x) : x + 12 < hpN h := by have := s.1; omega
theorem SB.r0_0 (s : SB h x) : hpR h x 0 = some (x + 1) := s.2.2.1 (0, 0, 1) (by decide)
theorem SB.r0_1 (s : SB h x) : hpR h x 1 = some (x + 4) := s.2.2.1 (0, 1, 4) (by decide)
theorem SB.r0_2 (s : SB h x) : hpR h x 2 = some (x + 7) := s.2.2.1 (0, 2, 7) (by decide)
theorem SB.r0_3 (s : SB h x) : hpR h x 3 = some (x + 8) := s.2.2.1 (0, 3, 8) (by decide)
theorem SB.r0_15 (s : SB h x) : hpR h x 15 = some (x + 10) := s.2.2.1 (0, 15, 10) (by decide)
theorem SB.r0_16 (s : SB h x) : hpR h x 16 = some (x + 11) := s.2.2.1 (0, 16, 11) (by decide)
theorem SB.r0_17 (s : SB h x) : hpR h x 17 = some (x + 12) := s.2.2.1 (0, 17, 12) (by decide)
theorem SB.r1_0 (s : SB h x) : hpR h (x + 1) 0 = some (x + 2) := s.2.2.1 (1, 0, 2) (by decide)
theorem SB.r1_1 (s : SB h x) : hpR h (x + 1) 1 = some (x + 3) := s.2.2.1 (1, 1, 3) (by decide)
theorem SB.r4_0 (s : SB h x) : hpR h (x + 4) 0 = some (x + 5) := s.2.2.1 (4, 0, 5) (by decide)
theorem SB.r4_1 (s : SB h x) : hpR h (x + 4) 1 = some (x + 6) := s.2.2.1 (4, 1, 6) (by decide)
theorem SB.r8_1 (s : SB h x) : hpR h (x + 8) 1 = some (x + 9) := s.2.2.1 (8, 1, 9) (by decide)
theorem SB.r8_0 (s : SB h x) : hpR h (x + 8) 0 = some 135 := s.2.2.2
/-- a world's block -/
def wbO : List (Nat × Nat × Nat) := [(0, 10, 0), (1, 15, 8), (2, 14, 8), (3, 14, 320), (4, 14, 40), (5, 14, 100), (19, 14, 180)]
def wbR : List (Nat × Nat × Nat) := [(0, 0, 1), (0, 1, 2), (0, 2, 3), (0, 4, 4), (0, 6, 5), (0, 8, 6), (0, 9, 19)]
def WB (h : mxH) (x : Nat) : Prop := x + 20 ≤ hpN h ∧ (∀ t ∈ wbO, hpK h (x + t.1) = t.2.1 ∧ hpZ h (x + t.1) = t.2.2) ∧ (∀ t ∈ wbR, hpR h (x + t.1) t.2.1 = some (x + t.2.2)) ∧ SB h (x + 6)
theorem wbO_at : ∀ t ∈ wbO, t.1 < 20 := by decide
theorem wbR_at : ∀ t ∈ wbR, t.1 = 0 ∧ t.2.1 ∈ fnlL 10 := by decide
theorem WB.fp (p : FP h h') (s : WB h x) : WB h' x := by
  obtain ⟨s1, s2, s3, s4⟩ := s
  refine ⟨Nat.le_trans s1 p.1, fun t ht => ?_, fun t ht => ?_, s4.fp p⟩
  · obtain ⟨a, b, -⟩ := p.2 (x + t.1) (by have := wbO_at t ht; omega)
    exact ⟨a.trans (s2 t ht).1, b.trans (s2 t ht).2⟩
  · obtain ⟨t1, t2⟩ := wbR_at t ht
    have k0 := (s2 (0, 10, 0) (by decide)).1
    rw [t1]
    have k0 : hpK h (x + 0) = 10 := k0
    rw [(p.2 (x + 0) (by omega)).2.2 _ (by rw [k0]; exact t2)]
    have := s3 t ht
    rw [t1] at this
    exact this
theorem WB.k0 (s : WB h x) : hpK h (x) = 10 := (s.2.1 (0, 10, 0) (by decide)).1
theorem WB.k1 (s : WB h x) : hpK h (x + 1) = 15 := (s.2.1 (1, 15, 8) (by decide)).1
theorem WB.z1 (s : WB h x) : hpZ h (x + 1) = 8 := (s.2.1 (1, 15, 8) (by decide)).2
theorem WB.k2 (s : WB h x) : hpK h (x + 2) = 14 := (s.2.1 (2, 14, 8) (by decide)).1
theorem WB.z2 (s : WB h x) : hpZ h (x + 2) = 8 := (s.2.1 (2, 14, 8) (by decide)).2
theorem WB.k3 (s : WB h x) : hpK h (x + 3) = 14 := (s.2.1 (3, 14, 320) (by decide)).1
theorem WB.z3 (s : WB h x) : hpZ h (x + 3) = 320 := (s.2.1 (3, 14, 320) (by decide)).2
theorem WB.k4 (s : WB h x) : hpK h (x + 4) = 14 := (s.2.1 (4, 14, 40) (by decide)).1
theorem WB.z4 (s : WB h x) : hpZ h (x + 4) = 40 := (s.2.1 (4, 14, 40) (by decide)).2
theorem WB.k5 (s : WB h x) : hpK h (x + 5) = 14 := (s.2.1 (5, 14, 100) (by decide)).1
theorem WB.z5 (s : WB h x) : hpZ h (x + 5) = 100 := (s.2.1 (5, 14, 100) (by decide)).2
theorem WB.k19 (s : WB h x) : hpK h (x + 19) = 14 := (s.2.1 (19, 14, 180) (by decide)).1
theorem WB.z19 (s : WB h x) : hpZ h (x + 19) = 180 := (s.2.1 (19, 14, 180) (by decide)).2
theorem WB.r0 (s : WB h x) : hpR h x 0 = some (x + 1) := s.2.2.1 (0, 0, 1) (by decide)
theorem WB.r1 (s : WB h x) : hpR h x 1 = some (x + 2) := s.2.2.1 (0, 1, 2) (by decide)
theorem WB.r2 (s : WB h x) : hpR h x 2 = some (x + 3) := s.2.2.1 (0, 2, 3) (by decide)
theorem WB.r4 (s : WB h x) : hpR h x 4 = some (x + 4) := s.2.2.1 (0, 4, 4) (by decide)
theorem WB.r6 (s : WB h x) : hpR h x 6 = some (x + 5) := s.2.2.1 (0, 6, 5) (by decide)
theorem WB.r8 (s : WB h x) : hpR h x 8 = some (x + 6) := s.2.2.1 (0, 8, 6) (by decide)
theorem WB.r9 (s : WB h x) : hpR h x 9 = some (x + 19) := s.2.2.1 (0, 9, 19) (by decide)
theorem WB.sb (s : WB h x) : SB h (x + 6) := s.2.2.2
/-- the static objects -/
def scO : List (Nat × Nat × Nat) := [(128, 11, 0), (129, 13, 700), (130, 13, 80), (131, 3, 0), (132, 13, 256000), (133, 14, 3200), (134, 16, 3200), (135, 0, 0), (136, 14, 302), (137, 14, 302), (138, 14, 12040), (139, 14, 12040), (160, 20, 6), (281, 6, 0), (282, 4, 0), (283, 1, 0), (284, 13, 80), (285, 14, 12000), (286, 17, 300), (287, 2, 0), (288, 18, 10), (289, 7, 0), (290, 14, 2801), (291, 14, 2801), (292, 14, 2801), (293, 14, 700), (294, 14, 700), (295, 15, 700), (296, 14, 700), (297, 14, 700), (298, 14, 700), (299, 14, 700), (300, 14, 700), (301, 15, 700), (302, 14, 700), (303, 15, 700), (304, 7, 0), (305, 14, 2801), (306, 14, 2801), (307, 14, 2801), (308, 14, 700), (309, 14, 700), (310, 15, 700), (311, 14, 700), (312, 14, 700), (313, 14, 700), (314, 14, 700), (315, 14, 700), (316, 15, 700), (317, 14, 700), (318, 15, 700)]
def scF : List (Nat × Nat × Nat) := [(128, 0, 129), (128, 2, 130), (128, 4, 131), (128, 5, 140), (128, 6, 160), (128, 8, 281), (128, 9, 282), (131, 0, 132), (131, 1, 133), (131, 2, 134), (135, 1, 136), (135, 2, 137), (135, 4, 138), (135, 5, 139), (281, 0, 129), (282, 0, 140), (282, 1, 135), (282, 2, 283), (282, 3, 285), (282, 5, 286), (282, 7, 287), (283, 0, 140), (283, 1, 135), (283, 2, 131), (283, 3, 284), (287, 0, 135), (287, 1, 288), (289, 0, 290), (289, 1, 291), (289, 2, 292), (289, 4, 293), (289, 5, 294), (289, 6, 295), (289, 7, 296), (289, 8, 297), (289, 9, 298), (289, 10, 299), (289, 12, 300), (289, 13, 301), (289, 15, 302), (289, 16, 303), (304, 0, 305), (304, 1, 306), (304, 2, 307), (304, 4, 308), (304, 5, 309), (304, 6, 310), (304, 7, 311), (304, 8, 312), (304, 9, 313), (304, 10, 314), (304, 12, 315), (304, 13, 316), (304, 15, 317), (304, 16, 318)]
def scW : List Nat := [140, 161, 181, 201, 221, 241, 261]
def SC (h : mxH) : Prop := 365 ≤ hpN h ∧ (∀ t ∈ scO, hpK h t.1 = t.2.1 ∧ hpZ h t.1 = t.2.2) ∧ (∀ t ∈ scF, hpR h t.1 t.2.1 = some t.2.2) ∧ ∀ w ∈ scW, WB h w
theorem scO_at : ∀ t ∈ scO, t.1 < 365 := by decide
theorem scF_at : ∀ t ∈ scF, ∃ u ∈ scO, u.1 = t.1 ∧ t.2.1 ∈ fnlL u.2.1 := by decide
theorem SC.fp (p : FP h h') (s : SC h) : SC h' := by
  obtain ⟨s1, s2, s3, s4⟩ := s
  refine ⟨Nat.le_trans s1 p.1, fun t ht => ?_, fun t ht => ?_, fun w hw => (s4 w hw).fp p⟩
  · obtain ⟨a, b, -⟩ := p.2 t.1 (by have := scO_at t ht; omega)
    exact ⟨a.trans (s2 t ht).1, b.trans (s2 t ht).2⟩
  · obtain ⟨u, u1, u2, u3⟩ := scF_at t ht
    have k0 := (s2 u u1).1
    rw [u2] at k0
    have lt := scO_at u u1
    rw [u2] at lt
    rw [(p.2 t.1 (by omega)).2.2 _ (by rw [k0]; exact u3)]
    exact s3 t ht
theorem sc_k128 (s : SC h) : hpK h 128 = 11 := (s.2.1 (128, 11, 0) (by decide)).1
theorem sc_k129 (s : SC h) : hpK h 129 = 13 := (s.2.1 (129, 13, 700) (by decide)).1
theorem sc_z129 (s : SC h) : hpZ h 129 = 700 := (s.2.1 (129, 13, 700) (by decide)).2
theorem sc_k130 (s : SC h) : hpK h 130 = 13 := (s.2.1 (130, 13, 80) (by decide)).1
theorem sc_z130 (s : SC h) : hpZ h 130 = 80 := (s.2.1 (130, 13, 80) (by decide)).2
theorem sc_k131 (s : SC h) : hpK h 131 = 3 := (s.2.1 (131, 3, 0) (by decide)).1
theorem sc_k132 (s : SC h) : hpK h 132 = 13 := (s.2.1 (132, 13, 256000) (by decide)).1
theorem sc_z132 (s : SC h) : hpZ h 132 = 256000 := (s.2.1 (132, 13, 256000) (by decide)).2
theorem sc_k133 (s : SC h) : hpK h 133 = 14 := (s.2.1 (133, 14, 3200) (by decide)).1
theorem sc_z133 (s : SC h) : hpZ h 133 = 3200 := (s.2.1 (133, 14, 3200) (by decide)).2
theorem sc_k134 (s : SC h) : hpK h 134 = 16 := (s.2.1 (134, 16, 3200) (by decide)).1
theorem sc_z134 (s : SC h) : hpZ h 134 = 3200 := (s.2.1 (134, 16, 3200) (by decide)).2
theorem sc_k135 (s : SC h) : hpK h 135 = 0 := (s.2.1 (135, 0, 0) (by decide)).1
theorem sc_k136 (s : SC h) : hpK h 136 = 14 := (s.2.1 (136, 14, 302) (by decide)).1
theorem sc_z136 (s : SC h) : hpZ h 136 = 302 := (s.2.1 (136, 14, 302) (by decide)).2
theorem sc_k137 (s : SC h) : hpK h 137 = 14 := (s.2.1 (137, 14, 302) (by decide)).1
theorem sc_z137 (s : SC h) : hpZ h 137 = 302 := (s.2.1 (137, 14, 302) (by decide)).2
theorem sc_k138 (s : SC h) : hpK h 138 = 14 := (s.2.1 (138, 14, 12040) (by decide)).1
theorem sc_z138 (s : SC h) : hpZ h 138 = 12040 := (s.2.1 (138, 14, 12040) (by decide)).2
theorem sc_k139 (s : SC h) : hpK h 139 = 14 := (s.2.1 (139, 14, 12040) (by decide)).1
theorem sc_z139 (s : SC h) : hpZ h 139 = 12040 := (s.2.1 (139, 14, 12040) (by decide)).2
theorem sc_k160 (s : SC h) : hpK h 160 = 20 := (s.2.1 (160, 20, 6) (by decide)).1
theorem sc_z160 (s : SC h) : hpZ h 160 = 6 := (s.2.1 (160, 20, 6) (by decide)).2
theorem sc_k281 (s : SC h) : hpK h 281 = 6 := (s.2.1 (281, 6, 0) (by decide)).1
theorem sc_k282 (s : SC h) : hpK h 282 = 4 := (s.2.1 (282, 4, 0) (by decide)).1
theorem sc_k283 (s : SC h) : hpK h 283 = 1 := (s.2.1 (283, 1, 0) (by decide)).1
theorem sc_k284 (s : SC h) : hpK h 284 = 13 := (s.2.1 (284, 13, 80) (by decide)).1
theorem sc_z284 (s : SC h) : hpZ h 284 = 80 := (s.2.1 (284, 13, 80) (by decide)).2
theorem sc_k285 (s : SC h) : hpK h 285 = 14 := (s.2.1 (285, 14, 12000) (by decide)).1
theorem sc_z285 (s : SC h) : hpZ h 285 = 12000 := (s.2.1 (285, 14, 12000) (by decide)).2
theorem sc_k286 (s : SC h) : hpK h 286 = 17 := (s.2.1 (286, 17, 300) (by decide)).1
theorem sc_z286 (s : SC h) : hpZ h 286 = 300 := (s.2.1 (286, 17, 300) (by decide)).2
theorem sc_k287 (s : SC h) : hpK h 287 = 2 := (s.2.1 (287, 2, 0) (by decide)).1
theorem sc_k288 (s : SC h) : hpK h 288 = 18 := (s.2.1 (288, 18, 10) (by decide)).1
theorem sc_z288 (s : SC h) : hpZ h 288 = 10 := (s.2.1 (288, 18, 10) (by decide)).2
theorem sc_k289 (s : SC h) : hpK h 289 = 7 := (s.2.1 (289, 7, 0) (by decide)).1
theorem sc_k290 (s : SC h) : hpK h 290 = 14 := (s.2.1 (290, 14, 2801) (by decide)).1
theorem sc_z290 (s : SC h) : hpZ h 290 = 2801 := (s.2.1 (290, 14, 2801) (by decide)).2
theorem sc_k291 (s : SC h) : hpK h 291 = 14 := (s.2.1 (291, 14, 2801) (by decide)).1
theorem sc_z291 (s : SC h) : hpZ h 291 = 2801 := (s.2.1 (291, 14, 2801) (by decide)).2
theorem sc_k292 (s : SC h) : hpK h 292 = 14 := (s.2.1 (292, 14, 2801) (by decide)).1
theorem sc_z292 (s : SC h) : hpZ h 292 = 2801 := (s.2.1 (292, 14, 2801) (by decide)).2
theorem sc_k293 (s : SC h) : hpK h 293 = 14 := (s.2.1 (293, 14, 700) (by decide)).1
theorem sc_z293 (s : SC h) : hpZ h 293 = 700 := (s.2.1 (293, 14, 700) (by decide)).2
theorem sc_k294 (s : SC h) : hpK h 294 = 14 := (s.2.1 (294, 14, 700) (by decide)).1
theorem sc_z294 (s : SC h) : hpZ h 294 = 700 := (s.2.1 (294, 14, 700) (by decide)).2
theorem sc_k295 (s : SC h) : hpK h 295 = 15 := (s.2.1 (295, 15, 700) (by decide)).1
theorem sc_z295 (s : SC h) : hpZ h 295 = 700 := (s.2.1 (295, 15, 700) (by decide)).2
theorem sc_k296 (s : SC h) : hpK h 296 = 14 := (s.2.1 (296, 14, 700) (by decide)).1
theorem sc_z296 (s : SC h) : hpZ h 296 = 700 := (s.2.1 (296, 14, 700) (by decide)).2
theorem sc_k297 (s : SC h) : hpK h 297 = 14 := (s.2.1 (297, 14, 700) (by decide)).1
theorem sc_z297 (s : SC h) : hpZ h 297 = 700 := (s.2.1 (297, 14, 700) (by decide)).2
theorem sc_k298 (s : SC h) : hpK h 298 = 14 := (s.2.1 (298, 14, 700) (by decide)).1
theorem sc_z298 (s : SC h) : hpZ h 298 = 700 := (s.2.1 (298, 14, 700) (by decide)).2
theorem sc_k299 (s : SC h) : hpK h 299 = 14 := (s.2.1 (299, 14, 700) (by decide)).1
theorem sc_z299 (s : SC h) : hpZ h 299 = 700 := (s.2.1 (299, 14, 700) (by decide)).2
theorem sc_k300 (s : SC h) : hpK h 300 = 14 := (s.2.1 (300, 14, 700) (by decide)).1
theorem sc_z300 (s : SC h) : hpZ h 300 = 700 := (s.2.1 (300, 14, 700) (by decide)).2
theorem sc_k301 (s : SC h) : hpK h 301 = 15 := (s.2.1 (301, 15, 700) (by decide)).1
theorem sc_z301 (s : SC h) : hpZ h 301 = 700 := (s.2.1 (301, 15, 700) (by decide)).2
theorem sc_k302 (s : SC h) : hpK h 302 = 14 := (s.2.1 (302, 14, 700) (by decide)).1
theorem sc_z302 (s : SC h) : hpZ h 302 = 700 := (s.2.1 (302, 14, 700) (by decide)).2
theorem sc_k303 (s : SC h) : hpK h 303 = 15 := (s.2.1 (303, 15, 700) (by decide)).1
theorem sc_z303 (s : SC h) : hpZ h 303 = 700 := (s.2.1 (303, 15, 700) (by decide)).2
theorem sc_k304 (s : SC h) : hpK h 304 = 7 := (s.2.1 (304, 7, 0) (by decide)).1
theorem sc_k305 (s : SC h) : hpK h 305 = 14 := (s.2.1 (305, 14, 2801) (by decide)).1
theorem sc_z305 (s : SC h) : hpZ h 305 = 2801 := (s.2.1 (305, 14, 2801) (by decide)).2
theorem sc_k306 (s : SC h) : hpK h 306 = 14 := (s.2.1 (306, 14, 2801) (by decide)).1
theorem sc_z306 (s : SC h) : hpZ h 306 = 2801 := (s.2.1 (306, 14, 2801) (by decide)).2
theorem sc_k307 (s : SC h) : hpK h 307 = 14 := (s.2.1 (307, 14, 2801) (by decide)).1
theorem sc_z307 (s : SC h) : hpZ h 307 = 2801 := (s.2.1 (307, 14, 2801) (by decide)).2
theorem sc_k308 (s : SC h) : hpK h 308 = 14 := (s.2.1 (308, 14, 700) (by decide)).1
theorem sc_z308 (s : SC h) : hpZ h 308 = 700 := (s.2.1 (308, 14, 700) (by decide)).2
theorem sc_k309 (s : SC h) : hpK h 309 = 14 := (s.2.1 (309, 14, 700) (by decide)).1
theorem sc_z309 (s : SC h) : hpZ h 309 = 700 := (s.2.1 (309, 14, 700) (by decide)).2
theorem sc_k310 (s : SC h) : hpK h 310 = 15 := (s.2.1 (310, 15, 700) (by decide)).1
theorem sc_z310 (s : SC h) : hpZ h 310 = 700 := (s.2.1 (310, 15, 700) (by decide)).2
theorem sc_k311 (s : SC h) : hpK h 311 = 14 := (s.2.1 (311, 14, 700) (by decide)).1
theorem sc_z311 (s : SC h) : hpZ h 311 = 700 := (s.2.1 (311, 14, 700) (by decide)).2
theorem sc_k312 (s : SC h) : hpK h 312 = 14 := (s.2.1 (312, 14, 700) (by decide)).1
theorem sc_z312 (s : SC h) : hpZ h 312 = 700 := (s.2.1 (312, 14, 700) (by decide)).2
theorem sc_k313 (s : SC h) : hpK h 313 = 14 := (s.2.1 (313, 14, 700) (by decide)).1
theorem sc_z313 (s : SC h) : hpZ h 313 = 700 := (s.2.1 (313, 14, 700) (by decide)).2
theorem sc_k314 (s : SC h) : hpK h 314 = 14 := (s.2.1 (314, 14, 700) (by decide)).1
theorem sc_z314 (s : SC h) : hpZ h 314 = 700 := (s.2.1 (314, 14, 700) (by decide)).2
theorem sc_k315 (s : SC h) : hpK h 315 = 14 := (s.2.1 (315, 14, 700) (by decide)).1
theorem sc_z315 (s : SC h) : hpZ h 315 = 700 := (s.2.1 (315, 14, 700) (by decide)).2
theorem sc_k316 (s : SC h) : hpK h 316 = 15 := (s.2.1 (316, 15, 700) (by decide)).1
theorem sc_z316 (s : SC h) : hpZ h 316 = 700 := (s.2.1 (316, 15, 700) (by decide)).2
theorem sc_k317 (s : SC h) : hpK h 317 = 14 := (s.2.1 (317, 14, 700) (by decide)).1
theorem sc_z317 (s : SC h) : hpZ h 317 = 700 := (s.2.1 (317, 14, 700) (by decide)).2
theorem sc_k318 (s : SC h) : hpK h 318 = 15 := (s.2.1 (318, 15, 700) (by decide)).1
theorem sc_z318 (s : SC h) : hpZ h 318 = 700 := (s.2.1 (318, 15, 700) (by decide)).2
theorem sc_r128_0 (s : SC h) : hpR h 128 0 = some 129 := s.2.2.1 (128, 0, 129) (by decide)
theorem sc_r128_2 (s : SC h) : hpR h 128 2 = some 130 := s.2.2.1 (128, 2, 130) (by decide)
theorem sc_r128_4 (s : SC h) : hpR h 128 4 = some 131 := s.2.2.1 (128, 4, 131) (by decide)
theorem sc_r128_5 (s : SC h) : hpR h 128 5 = some 140 := s.2.2.1 (128, 5, 140) (by decide)
theorem sc_r128_6 (s : SC h) : hpR h 128 6 = some 160 := s.2.2.1 (128, 6, 160) (by decide)
theorem sc_r128_8 (s : SC h) : hpR h 128 8 = some 281 := s.2.2.1 (128, 8, 281) (by decide)
theorem sc_r128_9 (s : SC h) : hpR h 128 9 = some 282 := s.2.2.1 (128, 9, 282) (by decide)
theorem sc_r131_0 (s : SC h) : hpR h 131 0 = some 132 := s.2.2.1 (131, 0, 132) (by decide)
theorem sc_r131_1 (s : SC h) : hpR h 131 1 = some 133 := s.2.2.1 (131, 1, 133) (by decide)
theorem sc_r131_2 (s : SC h) : hpR h 131 2 = some 134 := s.2.2.1 (131, 2, 134) (by decide)
theorem sc_r135_1 (s : SC h) : hpR h 135 1 = some 136 := s.2.2.1 (135, 1, 136) (by decide)
theorem sc_r135_2 (s : SC h) : hpR h 135 2 = some 137 := s.2.2.1 (135, 2, 137) (by decide)
theorem sc_r135_4 (s : SC h) : hpR h 135 4 = some 138 := s.2.2.1 (135, 4, 138) (by decide)
theorem sc_r135_5 (s : SC h) : hpR h 135 5 = some 139 := s.2.2.1 (135, 5, 139) (by decide)
theorem sc_r281_0 (s : SC h) : hpR h 281 0 = some 129 := s.2.2.1 (281, 0, 129) (by decide)
theorem sc_r282_0 (s : SC h) : hpR h 282 0 = some 140 := s.2.2.1 (282, 0, 140) (by decide)
theorem sc_r282_1 (s : SC h) : hpR h 282 1 = some 135 := s.2.2.1 (282, 1, 135) (by decide)
theorem sc_r282_2 (s : SC h) : hpR h 282 2 = some 283 := s.2.2.1 (282, 2, 283) (by decide)
theorem sc_r282_3 (s : SC h) : hpR h 282 3 = some 285 := s.2.2.1 (282, 3, 285) (by decide)
theorem sc_r282_5 (s : SC h) : hpR h 282 5 = some 286 := s.2.2.1 (282, 5, 286) (by decide)
theorem sc_r282_7 (s : SC h) : hpR h 282 7 = some 287 := s.2.2.1 (282, 7, 287) (by decide)
theorem sc_r283_0 (s : SC h) : hpR h 283 0 = some 140 := s.2.2.1 (283, 0, 140) (by decide)
theorem sc_r283_1 (s : SC h) : hpR h 283 1 = some 135 := s.2.2.1 (283, 1, 135) (by decide)
theorem sc_r283_2 (s : SC h) : hpR h 283 2 = some 131 := s.2.2.1 (283, 2, 131) (by decide)
theorem sc_r283_3 (s : SC h) : hpR h 283 3 = some 284 := s.2.2.1 (283, 3, 284) (by decide)
theorem sc_r287_0 (s : SC h) : hpR h 287 0 = some 135 := s.2.2.1 (287, 0, 135) (by decide)
theorem sc_r287_1 (s : SC h) : hpR h 287 1 = some 288 := s.2.2.1 (287, 1, 288) (by decide)
theorem sc_r289_0 (s : SC h) : hpR h 289 0 = some 290 := s.2.2.1 (289, 0, 290) (by decide)
theorem sc_r289_1 (s : SC h) : hpR h 289 1 = some 291 := s.2.2.1 (289, 1, 291) (by decide)
theorem sc_r289_2 (s : SC h) : hpR h 289 2 = some 292 := s.2.2.1 (289, 2, 292) (by decide)
theorem sc_r289_4 (s : SC h) : hpR h 289 4 = some 293 := s.2.2.1 (289, 4, 293) (by decide)
theorem sc_r289_5 (s : SC h) : hpR h 289 5 = some 294 := s.2.2.1 (289, 5, 294) (by decide)
theorem sc_r289_6 (s : SC h) : hpR h 289 6 = some 295 := s.2.2.1 (289, 6, 295) (by decide)
theorem sc_r289_7 (s : SC h) : hpR h 289 7 = some 296 := s.2.2.1 (289, 7, 296) (by decide)
theorem sc_r289_8 (s : SC h) : hpR h 289 8 = some 297 := s.2.2.1 (289, 8, 297) (by decide)
theorem sc_r289_9 (s : SC h) : hpR h 289 9 = some 298 := s.2.2.1 (289, 9, 298) (by decide)
theorem sc_r289_10 (s : SC h) : hpR h 289 10 = some 299 := s.2.2.1 (289, 10, 299) (by decide)
theorem sc_r289_12 (s : SC h) : hpR h 289 12 = some 300 := s.2.2.1 (289, 12, 300) (by decide)
theorem sc_r289_13 (s : SC h) : hpR h 289 13 = some 301 := s.2.2.1 (289, 13, 301) (by decide)
theorem sc_r289_15 (s : SC h) : hpR h 289 15 = some 302 := s.2.2.1 (289, 15, 302) (by decide)
theorem sc_r289_16 (s : SC h) : hpR h 289 16 = some 303 := s.2.2.1 (289, 16, 303) (by decide)
theorem sc_r304_0 (s : SC h) : hpR h 304 0 = some 305 := s.2.2.1 (304, 0, 305) (by decide)
theorem sc_r304_1 (s : SC h) : hpR h 304 1 = some 306 := s.2.2.1 (304, 1, 306) (by decide)
theorem sc_r304_2 (s : SC h) : hpR h 304 2 = some 307 := s.2.2.1 (304, 2, 307) (by decide)
theorem sc_r304_4 (s : SC h) : hpR h 304 4 = some 308 := s.2.2.1 (304, 4, 308) (by decide)
theorem sc_r304_5 (s : SC h) : hpR h 304 5 = some 309 := s.2.2.1 (304, 5, 309) (by decide)
theorem sc_r304_6 (s : SC h) : hpR h 304 6 = some 310 := s.2.2.1 (304, 6, 310) (by decide)
theorem sc_r304_7 (s : SC h) : hpR h 304 7 = some 311 := s.2.2.1 (304, 7, 311) (by decide)
theorem sc_r304_8 (s : SC h) : hpR h 304 8 = some 312 := s.2.2.1 (304, 8, 312) (by decide)
theorem sc_r304_9 (s : SC h) : hpR h 304 9 = some 313 := s.2.2.1 (304, 9, 313) (by decide)
theorem sc_r304_10 (s : SC h) : hpR h 304 10 = some 314 := s.2.2.1 (304, 10, 314) (by decide)
theorem sc_r304_12 (s : SC h) : hpR h 304 12 = some 315 := s.2.2.1 (304, 12, 315) (by decide)
theorem sc_r304_13 (s : SC h) : hpR h 304 13 = some 316 := s.2.2.1 (304, 13, 316) (by decide)
theorem sc_r304_15 (s : SC h) : hpR h 304 15 = some 317 := s.2.2.1 (304, 15, 317) (by decide)
theorem sc_r304_16 (s : SC h) : hpR h 304 16 = some 318 := s.2.2.1 (304, 16, 318) (by decide)
theorem sc_w (s : SC h) : WB h 140 := s.2.2.2 140 (by decide)
theorem sc_m (s : SC h) : SB h 146 := (sc_w s).sb
end MXSC
