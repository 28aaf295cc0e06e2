/-! the idle class, its handles by names -/
section MXJ5
variable {B h h1 h2 : mxH} {D : pmC} {n k : Nat} {w : spW} {F : spF} {jl : List Int32} {XL FS VS OS : List Nat}
def OQ (h : mxH) (o : Nat) (q : spO) (nf : Nat) : Prop := hpI h o 0 = nI q.1 ∧ 1 ≤ q.1 ∧ q.1 ≤ 4 ∧ hpI h o 3 = nI q.2.2 ∧ q.2.2 ≤ 40 ∧ ((q.1 = 2 ∨ q.1 = 3 ∨ q.1 = 4) → hpI h o 1 = nI q.2.1 ∧ q.2.1 < nf)
/-- the row sl holds open files as hs names them -/
def HQ (h : mxH) (sl : Nat) (O : List spO) (nf : Nat) (hs : spH) : Prop :=
  (∀ k, k < 10 → (hs k = none → hpR h sl k = none) ∧ ∀ a, hs k = some a → ∃ o q, hpR h sl k = some o ∧ mx_kd h o 5 ∧ O[a]? = some q ∧ OQ h o q nf) ∧
  ∀ j k, j < 10 → k < 10 → (hpR h sl j = hpR h sl k ↔ hs j = hs k)
/-- the cells of a shell that are copied -/
def CFc (D : pmC) (ln : Int32 → spL → Prop) (h : mxH) (x : Nat) (F : spF) : Prop :=
  (hpI h (x + 1) 2 = nI (fV F).length ∧ (fV F).length ≤ 20 ∧ ∀ k (hk : k < (fV F).length), hpL h (x + 2) k = (fV F)[k].1 ∧ ln (hpI h (x + 3) k) (fV F)[k].2) ∧
  (hpI h (x + 4) 2 = nI (fU F).length ∧ (fU F).length ≤ 10 ∧ ∀ k (hk : k < (fU F).length), hpL h (x + 5) k = (fU F)[k].1 ∧ hpI h (x + 6) k = nI (kPl D (fU F)[k].2)) ∧
  (∀ k, k < 4 → hpL h (x + 7) k = fA F k) ∧ hpI h x 4 = (if fP F = true then 1 else 0) ∧ hpI h x 6 = fS F
/-- those that stay -/
def CFd (h : mxH) (x : Nat) (F : spF) : Prop := hpI h x 5 = (if fG F = true then 1 else 0) ∧ hpI h x 7 = fD F ∧ hpI h x 8 = nI (fN F) ∧ fN F ≤ 4 ∧ hpI h x 9 = nI (fB F) ∧ fB F ≤ 4
theorem CF.cd {ln : Int32 → spL → Prop} {x : Nat} (c : CF D ln h x F) : CFc D ln h x F ∧ CFd h x F := by
  obtain ⟨a1, a2, a3, a4, a5, a6, a7, a8, a9, a10, a11⟩ := c
  exact ⟨⟨a1, a2, a3, a4, a6⟩, a5, a7, a8, a9, a10, a11⟩
theorem CFc.cf {ln : Int32 → spL → Prop} {x : Nat} (c : CFc D ln h x F) (d : CFd h x F) : CF D ln h x F := by
  obtain ⟨a1, a2, a3, a4, a6⟩ := c
  obtain ⟨a5, a7, a8, a9, a10, a11⟩ := d
  exact ⟨a1, a2, a3, a4, a5, a6, a7, a8, a9, a10, a11⟩
/-- a world at rest -/
def WQ (D : pmC) (h : mxH) (W : Nat) (w : spW) (F : spF) (jl : List Int32) : Prop := (∃ s, s < 10000000 ∧ CWh h W s w) ∧ wU w = [] ∧ CFc D (CLn h) h (W + 6) F ∧ IDj h (W + 6) jl ∧ HQ h (W + 15) (wO w) (wF w).length (fH F)
/-- the free shells -/
def IDx (h : mxH) (XL FS : List Nat) : Prop := ([146] ++ FS).Nodup ∧ (∀ x, x ∈ XL ↔ x ∈ [146] ++ FS) ∧ aparT XL ∧ (∀ x ∈ XL, SB h x ∧ (x = 146 ∨ 365 ≤ x)) ∧ CFs (hpR h) (hpR h 282 8) FS
/-- nothing executes -/
def IDW (D : pmC) (B h : mxH) (n : Nat) (w : spW) (F : spF) (jl : List Int32) (XL FS VS OS : List Nat) : Prop :=
  SC h ∧ WQ D h 140 w F jl ∧ (∀ k, k < 10 → fH F k = cnH (fH F) k) ∧ CFd h 146 F ∧ OI h (cRS XL VS) [] ∧ CU h n ∧ IDx h XL FS ∧ (CV h (fun _ => none) VS [] ∧ (∀ v ∈ VS, 365 ≤ v) ∧ VS.Nodup) ∧ (∀ x ∈ pastX, ∀ k, k < 10 → ∀ o, hpR h (x + 9) k = some o → ∀ j, j < 10 → hpR h 155 j ≠ some o) ∧ CN B h XL VS OS (cRS XL VS) []
theorem A155_none {o : Nat} (c : ∀ j, j < 10 → hpR h 155 j ≠ some o) : A155 h o = none := by
  rcases e : A155 h o with _ | k'
  · rfl
  · obtain ⟨k10, ek⟩ := fst10_some e
    exact absurd (of_decide_eq_true ek) (c k' k10)
theorem A155_at {o : Nat} (c : A155 h o = some k) : k < 10 ∧ hpR h 155 k = some o := by
  obtain ⟨k10, ek⟩ := fst10_some c
  exact ⟨k10, of_decide_eq_true ek⟩
/-- a row and names that share alike: the first handle of an open file -/
theorem A155_cn {hs : spH} {o a : Nat} (hk : k < 10) (e : hpR h 155 k = some o) (es : hs k = some a) (sh : ∀ j, j < 10 → (hpR h 155 j = hpR h 155 k ↔ hs j = hs k)) : A155 h o = cnH hs k := by
  unfold cnH A155
  rw [if_pos ⟨hk, by rw [es]; exact (fun c => nomatch c)⟩]
  refine fst10_cg fun j hj => ?_
  rw [← e]
  exact decide_eq_decide.mpr (sh j hj)
theorem IDW.toID (i : IDW D B h n w F jl XL FS VS OS) : ID D B h n w (A155 h) F jl XL FS VS OS := by
  obtain ⟨s0, ⟨w1, wu, c1, j1, q1, q2⟩, cn, c2, oi, cu, ⟨x1, x2, x3, x4, x5⟩, ⟨v1, v2, v3⟩, past, acc⟩ := i
  have at1 : ∀ k, k < 10 → (fH F k = none ∧ hpR h 155 k = none) ∨ ∃ o a q, fH F k = some a ∧ hpR h 155 k = some o ∧ A155 h o = some a ∧ mx_kd h o 5 ∧ (wO w)[a]? = some q ∧ OQ h o q (wF w).length := fun k hk => by
    rcases e : fH F k with _ | a
    · exact Or.inl ⟨rfl, (q1 k hk).1 e⟩
    · obtain ⟨o, q, r1, r2, r3, r4⟩ := (q1 k hk).2 a e
      exact Or.inr ⟨o, a, q, rfl, r1, by rw [A155_cn hk r1 e (fun j hj => q2 j k hj hk), ← cn k hk, e], r2, r3, r4⟩
  refine ⟨s0, w1, wu, ⟨fun o a ha => ?_, fun o o' a h1 h2 => ?_⟩, oi, cu, ⟨⟨⟨(x4 146 ((x2 146).mpr (by simp))).1, c1.cf c2, fun k hk => ?_⟩, x1, x2, x3, x4, x5⟩, j1⟩, ⟨⟨v1.1, v1.2.1, v1.2.2.1, v1.2.2.2.1, fun i hi => absurd hi (Nat.not_lt_zero _)⟩, v2, v3⟩, fun x hx k hk o ho => A155_none (past x hx k hk o ho), acc⟩
  · obtain ⟨a10, ea⟩ := A155_at ha
    rcases at1 a a10 with ⟨-, c⟩ | ⟨o', a', q, t1, t2, t3, t4, t5, t6, t7, t8, t9, t10, t11⟩
    · rw [ea] at c; exact nomatch c
    · rw [ea] at t2
      obtain rfl := Option.some.inj t2
      rw [ha] at t3
      obtain rfl := Option.some.inj t3
      exact ⟨t4, q, t5, t6, t7, by omega, t9, t10, t11, fun c => absurd c (by omega)⟩
  · exact Option.some.inj ((A155_at h1).2.symm.trans (A155_at h2).2)
  · rcases at1 k hk with ⟨c1, c2⟩ | ⟨o', a', q, t1, t2, t3, -⟩
    · exact Or.inl ⟨c2, c1⟩
    · exact Or.inr ⟨o', a', t2, t1, t3⟩
theorem ID.toW (i : ID D B h n w (A155 h) F jl XL FS VS OS) : IDW D B h n w F jl XL FS VS OS := by
  obtain ⟨s0, w1, wu, ⟨o1, o2⟩, oi, cu, ⟨⟨⟨-, c2, c3⟩, x1, x2, x3, x4, x5⟩, j1⟩, ⟨v1, v2, v3⟩, past, acc⟩ := i
  have c3 : ∀ k, k < 10 → RHc (A155 h) (hpR h 155 k) (fH F k) := c3
  have sh : ∀ j k, j < 10 → k < 10 → (hpR h 155 j = hpR h 155 k ↔ fH F j = fH F k) := fun j k hj hk => by
    rcases c3 j hj with ⟨a1, a2⟩ | ⟨o, a, a1, a2, a3⟩
    · rcases c3 k hk with ⟨b1, b2⟩ | ⟨o', a', b1, b2, b3⟩
      · rw [a1, a2, b1, b2]
      · rw [a1, a2, b1, b2]; exact ⟨(fun c => nomatch c), (fun c => nomatch c)⟩
    · rcases c3 k hk with ⟨b1, b2⟩ | ⟨o', a', b1, b2, b3⟩
      · rw [a1, a2, b1, b2]; exact ⟨(fun c => nomatch c), (fun c => nomatch c)⟩
      · rw [a1, a2, b1, b2]
        refine ⟨fun c => ?_, fun c => ?_⟩
        · rw [← Option.some.inj c, a3] at b3; exact b3
        · rw [o2 o o' a a3 (by rw [b3, Option.some.inj c])]
  refine ⟨s0, ⟨w1, wu, c2.cd.1, j1, fun k hk => ⟨fun e => ?_, fun a ha => ?_⟩, sh⟩, fun k hk => ?_, c2.cd.2, oi, cu, ⟨x1, x2, x3, x4, x5⟩, ⟨⟨v1.1, v1.2.1, v1.2.2.1, v1.2.2.2.1, fun i hi => absurd hi (Nat.not_lt_zero _)⟩, v2, v3⟩, fun x hx k hk o ho j hj c => ?_, acc⟩
  · show hpR h 155 k = none
    rcases c3 k hk with ⟨a1, a2⟩ | ⟨o, a, a1, a2, a3⟩
    · exact a1
    · rw [e] at a2; exact nomatch a2
  · show ∃ o q, hpR h 155 k = some o ∧ _
    rcases c3 k hk with ⟨a1, a2⟩ | ⟨o, a', a1, a2, a3⟩
    · rw [ha] at a2; exact nomatch a2
    · rw [ha] at a2
      obtain rfl := Option.some.inj a2
      obtain ⟨t4, q, t5, t6, t7, t8, t9, t10, t11, t12⟩ := o1 o a a3
      have n56 : ¬ (q.1 = 5 ∨ q.1 = 6) := fun c => by
        have := (t12 c).2
        rw [wu] at this
        exact absurd this (Nat.not_lt_zero _)
      exact ⟨o, q, a1, t4, t5, t6, t7, by omega, t9, t10, t11⟩
  · rcases c3 k hk with ⟨a1, a2⟩ | ⟨o, a, a1, a2, a3⟩
    · rw [a2]; unfold cnH; rw [if_neg (fun c => c.2 a2)]
    · rw [← A155_cn hk a1 a2 (fun j hj => sh j k hj hk), a3, a2]
  · obtain ⟨j', ej⟩ := fst10_ex (p := fun j => decide (hpR h 155 j = some o)) hj (decide_eq_true c)
    have e : A155 h o = some j' := ej
    rw [past x hx k hk o ho] at e
    exact nomatch e
end MXJ5
