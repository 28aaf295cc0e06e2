/-! THE REFERENCE'S PIPES -/
section MXPI
variable {d : Nat} {h0 h : mxH} {w : spW} {G : List spE} {V : List (Option (Option Nat))} {P : List spX} {n m xs : Nat}
theorem RQ.up {nx : Nat → Int32} {z : Nat} {y : Int32} : ∀ {l : List Nat} {v : Int32}, z ∉ l → RQ nx v l → RQ (fup nx z y) v l
  | [], _, _, r => r
  | q :: l, v, hz, ⟨r1, r2, r3⟩ => by
    have n1 : q ≠ z := fun e => hz (e ▸ List.mem_cons_self)
    refine ⟨r1, r2, ?_⟩
    rw [fup_n n1]
    exact RQ.up (fun hm => hz (List.mem_cons_of_mem _ hm)) r3
theorem RQ.snoc {nx : Nat → Int32} {z : Nat} (hz : z < 13000) (hn : nx z = -1) : ∀ {l : List Nat} {v : Int32} {x : Nat}, z ∉ l → l.Nodup → l.getLast? = some x → RQ nx v l → RQ (fup nx x (nI z)) v (l ++ [z])
  | [q], v, x, h1, _, hl, ⟨r1, r2, r3⟩ => by
    have e : q = x := by simpa using hl
    subst e
    refine ⟨r1, r2, ?_⟩
    rw [fup_e]
    refine ⟨rfl, hz, ?_⟩
    show fup nx q (nI z) z = -1
    rw [fup_n (fun e : z = q => h1 (by rw [e]; exact List.mem_cons_self))]
    exact hn
  | q :: q2 :: l, v, x, h1, h2, hl, ⟨r1, r2, r3⟩ => by
    have hl' : (q2 :: l).getLast? = some x := by rw [← hl]; simp [List.getLast?_cons_cons]
    have hx : x ∈ q2 :: l := List.mem_of_getLast? hl'
    have n1 : q ≠ x := fun e => (List.nodup_cons.mp h2).1 (e ▸ hx)
    refine ⟨r1, r2, ?_⟩
    rw [fup_n n1]
    exact RQ.snoc hz hn (fun hm => h1 (List.mem_cons_of_mem _ hm)) (List.nodup_cons.mp h2).2 hl' r3
/-- the lines in all pipes -/
def totU (w : spW) : Nat := ((wU w).map fun l => l.length).sum
theorem sum_le {α : Type} (f g : α → Nat) : ∀ (l : List α), (∀ x ∈ l, f x ≤ g x) → (l.map f).sum ≤ (l.map g).sum
  | [], _ => Nat.le_refl _
  | a :: l, h => by
    rw [List.map_cons, List.map_cons, List.sum_cons, List.sum_cons]
    exact Nat.add_le_add (h a List.mem_cons_self) (sum_le f g l fun x hx => h x (List.mem_cons_of_mem _ hx))
theorem range_getD {α : Type} (l : List α) (d : α) : (List.range l.length).map (fun i => l.getD i d) = l := by
  refine List.ext_getElem (by simp) fun i h1 h2 => ?_
  simp [List.getElem?_eq_getElem h2]
/-- there is a free place in the queues -/
theorem fr_ne {B : Nat → Option Nat} {Qs : Nat → List Nat} {fr : List Nat} {ip : Nat → Int32} (c1 : ∀ x, x < 13000 → x ∈ fr ∨ ∃ b, b < 400 ∧ x ∈ Qs b) (c2 : ∀ a b, B a = some b → a < (wU w).length ∧ (Qs b).length = ((wU w).getD a []).length)
    (c3 : ∀ b, b < 400 → ip b = 0 ∨ ip b = 1) (c4 : ∀ b, b < 400 → ip b = 0 → Qs b = []) (c5 : ∀ b, b < 400 → ip b = 1 → ∃ a, B a = some b) (ht : totU w < 13000) : fr ≠ [] := fun e => by
  let C := (List.range (wU w).length).flatMap fun a => match B a with
    | some b => Qs b
    | none => []
  have hlen : C.length < 13000 := by
    refine Nat.lt_of_le_of_lt ?_ ht
    rw [List.length_flatMap]
    refine Nat.le_trans (sum_le _ (fun a => ((wU w).getD a []).length) _ fun a ha => ?_) ?_
    · show List.length (match B a with | some b => Qs b | none => []) ≤ _
      cases hb : B a with
      | none => exact Nat.zero_le _
      | some b => exact Nat.le_of_eq (c2 a b hb).2
    · have := range_getD (wU w) []
      unfold totU
      conv => rhs; rw [← this]
      rw [List.map_map]
      exact Nat.le_refl _
  obtain ⟨x, x1, x2⟩ := out_of 13000 C hlen
  rcases c1 x x1 with q | ⟨b, b1, b2⟩
  · rw [e] at q; cases q
  · have ipb : ip b = 1 := by
      rcases c3 b b1 with g | g
      · rw [c4 b b1 g] at b2; cases b2
      · exact g
    obtain ⟨a, ha⟩ := c5 b b1 ipb
    exact x2 (List.mem_flatMap.mpr ⟨a, List.mem_range.mpr (c2 a b ha).1, by rw [ha]; exact b2⟩)
/-- what a handle of the own shell stands for -/
theorem RG.handle {s : Nat} {S : spS} {js : List Nat} {X : List (Int32 × spL)} {Y Z : List (Int32 × Nat)} (r : RG h0 h w ((s, S, js) :: G) V P (X, Y, Z) n m xs) (hs : s ≠ xs) {k : Nat} (hk : k < 10) :
    (fH S.1 k = none ∧ hpI h 354 (83 * s + 36 + k) = -1) ∨ ∃ a o q Z', fH S.1 k = some a ∧ hpI h 354 (83 * s + 36 + k) = nI o ∧ o < 4000 ∧ (wO w)[a]? = some q ∧ hpI h 344 o = nI q.1 ∧ 1 ≤ q.1 ∧ q.1 ≤ 6 ∧ hpI h 346 o = nI q.2.2 ∧ q.2.2 ≤ 40 ∧
      ((q.1 = 2 ∨ q.1 = 3 ∨ q.1 = 4) → hpI h 345 o = nI q.2.1 ∧ q.2.1 < (wF w).length) ∧ ((q.1 = 5 ∨ q.1 = 6) → ∃ b, hpI h 345 o = nI b ∧ (nI b, q.2.1) ∈ Z') ∧ (∀ z ∈ Z, z ∈ Z') ∧
      RG h0 h w ((s, S, js) :: G) V P (X, (nI o, a) :: Y, Z') n m xs := by
  obtain ⟨A, B, Qs, fr, sr, hw, ht, ho, hp, he, hv, hkp, hc, ⟨Lo, l1, l2, l3, l4⟩, hz, hN1, hN2, hN3⟩ := r
  obtain ⟨a1, a2, a3, a4, a5⟩ := he.1 _ List.mem_cons_self
  have ee : hpI h 354 (83 * s + 36 + k) = hpI h 354 (83 * s + (36 + k)) := by rw [Nat.add_assoc]
  rcases a4 k hk with ⟨q1, q2⟩ | ⟨o, a, q1, q2, q3, q4⟩
  · exact Or.inl ⟨q1, ee.trans q2⟩
  · obtain ⟨-, q, x1, x2, x3, x4, x5, x6, x7, x8⟩ := ho.1 o a q4
    have vin : nI o ∈ Lo := by
      have q2' : hpI h 354 (83 * s + (36 + k)) = nI o := q2
      rw [← q2', ← ee]; exact l2 s a1 hs a2 k hk
    have hY : ∀ q ∈ (nI o, a) :: Y, RHv A q.1 (some q.2) := fun q hq => by
      rcases List.mem_cons.mp hq with rfl | hq
      · exact Or.inr ⟨o, a, rfl, rfl, q3, q4⟩
      · exact hN2 q hq
    have hL : ∀ q ∈ (nI o, a) :: Y, q.1 ∈ Lo := fun q hq => by
      rcases List.mem_cons.mp hq with rfl | hq
      · exact vin
      · exact l4 q hq
    by_cases cp : q.1 = 5 ∨ q.1 = 6
    · obtain ⟨b, b1, b2⟩ := x8 cp
      refine Or.inr ⟨a, o, q, (nI b, q.2.1) :: Z, q1, ee.trans q2, q3, x1, x2, x3, x4, x5, x6, x7, fun _ => ⟨b, b2, List.mem_cons_self⟩, fun z hz => List.mem_cons_of_mem _ hz, A, B, Qs, fr, sr, hw, ht, ho, hp, he, hv, hkp, hc, ⟨Lo, l1, l2, l3, hL⟩, hz, hN1, hY, fun z hz => ?_⟩
      rcases List.mem_cons.mp hz with rfl | hz
      · exact ⟨b, rfl, b1⟩
      · exact hN3 z hz
    · exact Or.inr ⟨a, o, q, Z, q1, ee.trans q2, q3, x1, x2, x3, x4, x5, x6, x7, fun c => absurd c cp, fun z hz => hz, A, B, Qs, fr, sr, hw, ht, ho, hp, he, hv, hkp, hc, ⟨Lo, l1, l2, l3, hL⟩, hz, hN1, hY, hN3⟩
end MXPI
