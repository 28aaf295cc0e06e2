/-! What a command of the shell's own leaves: LC; the commands' ends in one form -/
section MXLC
variable {h h1 h2 hA hB : mxH} {d x g c s n : Nat} {w w' : spW} {D : pmC} {F : spF} {nc na : Nat} {fa fd : Nat → Nat} {A : Nat → Option Nat} {oh : Option Nat} {l l0 : spL} {v : Int32} {p q : Nat → Prop}
abbrev pLC (A : Nat → Option Nat) (x : Nat) : Nat → Prop := fun b => (131 ≤ b ∧ b ≤ 140) ∨ (142 ≤ b ∧ b ≤ 145) ∨ b = 159 ∨ (283 ≤ b ∧ b ≤ 284) ∨ b = x ∨ b = x + 1 ∨ b = x + 3 ∨ b = x + 4 ∨ b = x + 6 ∨ A b ≠ none
abbrev qLC (x : Nat) : Nat → Prop := fun b => b = 141 ∨ b = x + 2 ∨ b = x + 5 ∨ b = x + 7
/-- lines, pipes, the world, the text, the shell x, positions of open files: nothing else changes -/
def LC (A : Nat → Option Nat) (x : Nat) (h h1 : mxH) : Prop := ExL (pLC A x) (qLC x) h h1 ∧ (∀ o k, A o ≠ none → k ≠ 3 → hpI h1 o k = hpI h o k) ∧ ∀ k, 9 < k → hpI h1 x k = hpI h x k
theorem LC.rf : LC A x h h := ⟨ExL.rf, fun _ _ _ _ => rfl, fun _ _ => rfl⟩
theorem LC.tr (a : LC A x h h1) (b : LC A x h1 h2) : LC A x h h2 := ⟨a.1.tr b.1, fun o k ho hk => (b.2.1 o k ho hk).trans (a.2.1 o k ho hk), fun k hk => (b.2.2 k hk).trans (a.2.2 k hk)⟩
theorem LC.ofL (e : ExL p q h h1) (hp : ∀ b, p b → pLC A x b) (hq : ∀ b, q b → qLC x b) (ho : ∀ o, A o ≠ none → ¬ p o) (hx : ∀ k, 9 < k → hpI h1 x k = hpI h x k) : LC A x h h1 :=
  ⟨e.wk hp hq, fun o k h1 _ => by rw [e.2.2.2.2.2.2.1 o (ho o h1)], hx⟩
theorem CO.nn (c : CO h A w) {b : Nat} (hb : hpK h b ≠ 5) : ¬ A b ≠ none := fun ho => c.far ho hb rfl
theorem sb_ne5 (s : SB h x) : hpK h x ≠ 5 ∧ hpK h (x + 1) ≠ 5 ∧ hpK h (x + 2) ≠ 5 ∧ hpK h (x + 3) ≠ 5 ∧ hpK h (x + 4) ≠ 5 ∧ hpK h (x + 6) ≠ 5 := by
  refine ⟨?_, ?_, ?_, ?_, ?_, ?_⟩
  · rw [s.k0]; decide
  · rw [s.k1]; decide
  · rw [s.k2]; decide
  · rw [s.k3]; decide
  · rw [s.k4]; decide
  · rw [s.k6]; decide
theorem LC.ofT (e : ExI pTX h h1) (c : WC h A s w) (hx : x + 13 ≤ 283 ∨ 285 ≤ x) : LC A x h h1 := by
  refine LC.ofL (e.toL (q := fun _ => False)) (fun b hb => ?_) (fun b hb => hb.elim) (fun o ho hp => ?_) (fun k _ => ?_)
  · rcases hb with rfl | rfl
    · exact Or.inr (Or.inr (Or.inr (Or.inl (by decide))))
    · exact Or.inr (Or.inr (Or.inr (Or.inl (by decide))))
  · rcases hp with rfl | rfl
    · exact c.2.2.2.nn (sc_ne5b c.1 (by decide)) ho
    · exact c.2.2.2.nn (sc_ne5b c.1 (by decide)) ho
  · rw [e.2.2.2.2.2.2.2 x (fun hp => by rcases hp with hp | hp <;> omega)]
theorem LC.ofM (m : MkD h h1 n v l) (c : WC h A s w) (hx : x = 146 ∨ 365 ≤ x) : LC A x h h1 := by
  refine LC.ofL (m.1.toL (q := fun _ => False)) (fun b hb => Or.inl ⟨hb.1, by have := hb.2; omega⟩) (fun b hb => hb.elim) (fun o ho hp => ?_) (fun k _ => ?_)
  · rcases Nat.eq_or_lt_of_le hp.1 with e | e
    · exact c.2.2.2.nn (sc_ne5b c.1 (by omega)) ho
    · exact c.2.2.2.nn (sc_ne5 c.1 (by have := hp.2; omega)) ho
  · rw [m.1.2.2.2.2.2.2.2 x (fun hp => by have := hp.1; have := hp.2; omega)]
theorem LC.ofR (f : FrR A h h1) (c : WC h A s w) (sx : SB h x) (hx : x = 146 ∨ 365 ≤ x) : LC A x h h1 := by
  refine ⟨(f.1.toL (q := fun _ => False)).wk (fun b hb => ?_) (fun b hb => hb.elim), f.2, fun k _ => ?_⟩
  · rcases hb with hb | hb | hb | hb
    · exact Or.inl (by omega)
    · exact Or.inr (Or.inl hb)
    · exact Or.inl ⟨by have := hb.1; omega, by have := hb.2; omega⟩
    · exact Or.inr (Or.inr (Or.inr (Or.inr (Or.inr (Or.inr (Or.inr (Or.inr (Or.inr hb))))))))
  · rw [f.1.2.2.2.2.2.2.2 x]
    rintro (hb | hb | hb | hb)
    · omega
    · omega
    · have := hb.1; have := hb.2; omega
    · exact c.2.2.2.nn (sb_ne5 sx).1 hb
theorem tb_put_ex {t na va N : Nat} {k : Int64} : ExL (fun b => b = t ∨ b = va) (fun b => b = na) h (tb_put h t na va N k v) := by
  unfold tb_put
  simp only []
  split
  · exact ExL.rf.I (Or.inr rfl)
  · refine ExL.I (ExL.I (ExL.L ExL.rf ?_) ?_) ?_
    · rfl
    · exact Or.inl rfl
    · exact Or.inr rfl
theorem LC.ofP {N : Nat} {k : Int64} (sx : SB h x) (c : WC h A s w) (hx : x = 146 ∨ 365 ≤ x) : LC A x h (tb_put h (x + 1) (x + 2) (x + 3) N k v) := by
  have e : ExL (fun b => b = x + 1 ∨ b = x + 3) (fun b => b = x + 2) h (tb_put h (x + 1) (x + 2) (x + 3) N k v) := tb_put_ex
  obtain ⟨-, n1, -, n3, -⟩ := sb_ne5 sx
  refine LC.ofL e (fun b hb => ?_) (fun b hb => Or.inr (Or.inl hb)) (fun o ho hp => ?_) (fun k _ => ?_)
  · rcases hb with hb | hb
    · exact Or.inr (Or.inr (Or.inr (Or.inr (Or.inr (Or.inl hb)))))
    · exact Or.inr (Or.inr (Or.inr (Or.inr (Or.inr (Or.inr (Or.inl hb))))))
  · rcases hp with rfl | rfl
    · exact c.2.2.2.nn n1 ho
    · exact c.2.2.2.nn n3 ho
  · rw [e.2.2.2.2.2.2.1 x (fun hp => by omega)]
/-- the world's, pipes' and open files' cells stay -/
theorem WC.cgL (c : WC h A s w) (e : ExL p q h h1) (hp : ∀ b, (131 ≤ b ∧ b ≤ 159 ∧ b ≠ 141 ∧ (b < 146 ∨ b = 159)) ∨ A b ≠ none → ¬ p b) (hq : ¬ q 141) : WC h1 A s w := by
  obtain ⟨c1, c2, c3, c4⟩ := c
  have r : ∀ b, 131 ≤ b ∧ b ≤ 159 ∧ b ≠ 141 ∧ (b < 146 ∨ b = 159) → hpI h1 b = hpI h b := fun b hb => e.2.2.2.2.2.2.1 b (hp b (Or.inl hb))
  refine ⟨c1.fp e.fp, ?_, CPh_cg c3 (fun b hb => r b (by omega)), c4.cg e.1 e.2.2.2.1 (fun o k ho => by rw [e.2.2.2.2.2.2.1 o (hp o (Or.inr ho))]) rfl (Nat.le_refl _) (Nat.le_refl _)⟩
  show CW (CLn h1) (hpI h1 140) (hpI h1 (140 + 2)) (hpI h1 (140 + 3)) (hpI h1 (140 + 4)) (hpI h1 (140 + 5)) (hpI h1 (140 + 19)) (hpL h1 (140 + 1)) s w
  rw [r 140 (by decide), r (140 + 2) (by decide), r (140 + 3) (by decide), r (140 + 4) (by decide), r (140 + 5) (by decide), r (140 + 19) (by decide), e.2.2.2.2.2.2.2 (140 + 1) hq, CLn_cg (h := h) (fun b h1 h2 => r b (by omega))]
  exact c2
end MXLC
