/-! Between runs: open files by the handles that name them first -/
section MXJ1
variable {C : cC} {B h h1 h2 : mxH} {D : pmC} {s s' d n k : Nat} {w w' : spW} {A A' : Nat → Option Nat} {F f' : spF} {en en' : Bool} {jb js' : List spJ} {jm XL FS VS OS : List Nat} {T : List cT} {P : cP} {cur : Option Nat} {pl rn : Int32} {hs : spH} {p q : Nat → Bool}
/-- the first of ten -/
def fst10 (p : Nat → Bool) : Option Nat := if p 0 then some 0 else if p 1 then some 1 else if p 2 then some 2 else if p 3 then some 3 else if p 4 then some 4 else if p 5 then some 5 else if p 6 then some 6 else if p 7 then some 7 else if p 8 then some 8 else if p 9 then some 9 else none
theorem fst10_some (e : fst10 p = some k) : k < 10 ∧ p k = true := by
  unfold fst10 at e
  repeat' split at e
  all_goals first
    | (cases e; refine ⟨by decide, ?_⟩; assumption)
    | exact nomatch e
theorem fst10_ex (hk : k < 10) (e : p k = true) : ∃ j, fst10 p = some j := by
  unfold fst10
  repeat' split
  all_goals first
    | exact ⟨_, rfl⟩
    | (exfalso
       have : k = 0 ∨ k = 1 ∨ k = 2 ∨ k = 3 ∨ k = 4 ∨ k = 5 ∨ k = 6 ∨ k = 7 ∨ k = 8 ∨ k = 9 := by omega
       rcases this with rfl | rfl | rfl | rfl | rfl | rfl | rfl | rfl | rfl | rfl <;> contradiction)
theorem fst10_cg (e : ∀ k, k < 10 → p k = q k) : fst10 p = fst10 q := by
  unfold fst10
  rw [e 0 (by decide), e 1 (by decide), e 2 (by decide), e 3 (by decide), e 4 (by decide), e 5 (by decide), e 6 (by decide), e 7 (by decide), e 8 (by decide), e 9 (by decide)]
/-- handles by the first handle that names the same open file; the open files -/
def cnH (hs : spH) : spH := fun k => if k < 10 ∧ hs k ≠ none then fst10 (fun j => decide (hs j = hs k)) else none
def cnO (w : spW) (hs : spH) : List spO := (List.range 10).map fun j => match hs j with
  | none => (0, 0, 0)
  | some a => (wO w).getD a (0, 0, 0)
def cnW (w : spW) (hs : spH) : spW := uO (uU w []) (cnO w hs)
theorem cnO_at {j : Nat} {a : Nat} {q : spO} (hj : j < 10) (e : hs j = some a) (hq : (wO w)[a]? = some q) : (cnO w hs)[j]? = some q := by
  unfold cnO
  rw [List.getElem?_map, List.getElem?_range hj]
  show some (match hs j with
    | none => (0, 0, 0)
    | some a => (wO w).getD a (0, 0, 0)) = some q
  rw [e]
  show some ((wO w).getD a (0, 0, 0)) = some q
  rw [List.getD_eq_getElem?_getD, hq]; rfl
/-- the names of the main shell's open files -/
def A155 (h : mxH) : Nat → Option Nat := fun o => fst10 fun k => decide (hpR h 155 k = some o)
theorem CG.toID (g : CG C h s w A [(146, (F, en, jb), jm)] T [] P cur pl rn XL FS VS OS []) (hv : ∀ k, k < 10 → ∀ a, fH F k = some a → ∀ q, (wO w)[a]? = some q → q.1 ≠ 5 ∧ q.1 ≠ 6) (hs : s < 10000000) (cB : hpC (kcH C) + hpN B = hpC B + hpN (kcH C) ∧ hpS (kcH C) + 20 * hpN B ≤ hpS B + 20 * hpN (kcH C)) :
    ID (kcD C) B h (kcN C + wM w) (cnW w (fH F)) (A155 h) (vH F (cnH (fH F))) (jSt jb) XL FS VS OS := by
  obtain ⟨k0, fc, ⟨w1, w2, w3, w4⟩, oi, cu, ⟨s1, s2, s3, s4, s5, s6⟩, cgp, ⟨g1, g2, g3, g4, g5, g6, g7, g8⟩, cgr, cgq, ⟨n1, n2, n3, n4, n5, n6, n7⟩⟩ := g
  obtain ⟨-, c2, c3, c4⟩ := s1 _ List.mem_cons_self
  have c3 : ∀ k, k < 10 → RHc A (hpR h 155 k) (fH F k) := c3
  have at1 : ∀ {o k : Nat}, A155 h o = some k → k < 10 ∧ hpR h 155 k = some o ∧ ∃ a, fH F k = some a ∧ A o = some a := fun {o k} e => by
    obtain ⟨k10, ek⟩ := fst10_some e
    have ek := of_decide_eq_true ek
    refine ⟨k10, ek, ?_⟩
    rcases c3 k k10 with ⟨c, -⟩ | ⟨o', a, c1, c2, c5⟩
    · rw [ek] at c; exact nomatch c
    · rw [ek] at c1
      exact ⟨a, c2, by rw [Option.some.inj c1]; exact c5⟩
  have co : CO h (A155 h) (cnW w (fH F)) := by
    refine ⟨fun o k ho => ?_, fun o o' k h1 h2 => ?_⟩
    · obtain ⟨k10, ek, a, ea, eA⟩ := at1 ho
      obtain ⟨q0, q, q1, q2, q3, q4, q5, q6, q7, q8⟩ := w4.1 o a eA
      have nq := hv k k10 a ea q q1
      exact ⟨q0, q, cnO_at k10 ea q1, q2, q3, q4, q5, q6, q7, fun c => absurd c (by omega)⟩
    · obtain ⟨-, e1, -⟩ := at1 h1
      obtain ⟨-, e2, -⟩ := at1 h2
      exact Option.some.inj (e1.symm.trans e2)
  refine ⟨w1, ⟨s, hs, w2⟩, rfl, co, oi, cu, ⟨⟨⟨(s1 _ List.mem_cons_self).1, c2, fun k hk => ?_⟩, s2, s3, s4, s5, s6⟩, ⟨c4.2.1.trans (by rw [jSt, List.length_map]), by rw [jSt, List.length_map]; exact c4.2.2.1, fun k hk => ?_⟩⟩, ⟨⟨g4.1, g4.2.1, g4.2.2.1, g4.2.2.2.1, fun i hi => absurd hi (Nat.not_lt_zero _)⟩, g6, g7⟩, fun x hx k hk o ho => ?_, ⟨n1, n2, n3, n4, n5, by omega, by omega⟩⟩
  · show RHc (A155 h) (hpR h 155 k) (cnH (fH F) k)
    rcases c3 k hk with ⟨r1, r2⟩ | ⟨o, a, r1, r2, r3⟩
    · refine Or.inl ⟨r1, ?_⟩
      unfold cnH
      rw [if_neg (fun c => c.2 r2)]
    · have e1 : cnH (fH F) k = fst10 (fun j => decide (fH F j = fH F k)) := by
        unfold cnH
        rw [if_pos ⟨hk, by rw [r2]; exact fun c => nomatch c⟩]
      have e2 : A155 h o = fst10 (fun j => decide (fH F j = fH F k)) := by
        unfold A155
        refine fst10_cg fun j hj => ?_
        rw [r2]
        refine decide_eq_decide.mpr ⟨fun e => ?_, fun e => ?_⟩
        · rcases c3 j hj with ⟨t1, -⟩ | ⟨o', a', t1, t2, t3⟩
          · rw [e] at t1; exact nomatch t1
          · rw [e] at t1
            rw [← Option.some.inj t1, r3] at t3
            rw [t2, Option.some.inj t3]
        · rcases c3 j hj with ⟨-, t2⟩ | ⟨o', a', t1, t2, t3⟩
          · rw [e] at t2; exact nomatch t2
          · rw [e] at t2
            rw [t1, w4.2 o' o a (by rw [t3, Option.some.inj t2]) r3]
      obtain ⟨j, ej⟩ := fst10_ex (p := fun j => decide (fH F j = fH F k)) hk (decide_eq_true rfl)
      exact Or.inr ⟨o, j, r1, by rw [e1]; exact ej, by rw [e2]; exact ej⟩
  · rw [jSt, List.length_map] at hk
    have hj : k < jm.length := by rw [c4.2.2.2.1]; exact hk
    rw [(c4.2.2.2.2 k hk hj).2.2]
    simp only [jSt, List.getElem_map]
  · rcases e : A155 h o with _ | k'
    · rfl
    · obtain ⟨-, -, a, -, eA⟩ := at1 e
      have := ((cgq.1 x hx k hk).2 o ho).1
      rw [eA] at this
      exact nomatch this
end MXJ1
