/-! Commands.set -/
section MXST
variable {h h1 h2 : mxH} {d x g c s : Nat} {w : spW} {D : pmC} {F : spF} {nc na : Nat} {fa fd : Nat → Nat} {p q : Nat → Prop} {ln : Int32 → spL → Prop}
/-- pipefail's cell -/
theorem CF.pf {b : Bool} (cf : CF D ln h x F) : CF D ln (hsI h x 4 (if b = true then 1 else 0)) x (vP F b) := by
  obtain ⟨v, u, ac, pf, r5, r6, r7, r8, r9, r10, r11⟩ := cf
  have fo : ∀ a, a ≠ x → hpI (hsI h x 4 (if b = true then 1 else 0)) a = hpI h a := fun a ha => by
    funext k
    rw [hpI_sIn ha]
  have f0 : hpI (hsI h x 4 (if b = true then 1 else 0)) x = fup (hpI h x) 4 (if b = true then 1 else 0) := hpI_sIe
  unfold CF
  rw [fo (x + 1) (by omega), fo (x + 3) (by omega), fo (x + 4) (by omega), fo (x + 6) (by omega), f0]
  refine ⟨v, u, ac, by rw [fup_e], ?_⟩
  rw [fup_n (by decide), fup_n (by decide), fup_n (by decide), fup_n (by decide), fup_n (by decide)]
  exact ⟨r5, r6, r7, r8, r9, r10, r11⟩
/-- the end of a command that changes no more than the text and this shell's own numbers -/
def StE (D : pmC) (x : Nat) (h : mxH) (q : Int32 × spW × spF) (r : mxRes) (h1 : mxH) : Prop := r = .inl (some (.int q.1)) ∧ ExI (fun b => (b = 283 ∨ b = 284) ∨ b = x) h h1 ∧ (∀ k, k ≠ 4 → hpI h1 x k = hpI h x k) ∧ CF D (CLn h) h1 x q.2.2
theorem k_X1_set (hd : 4 ≤ d) (a : AC h g x D nc na fa fd F) (hc : c < nc) : mx_SM mY_X1_set d [.ref 283, .ref g, .ref x, .int (nI c)] h (StE D x h (opSet ((kAr D c).map (evA F)) w F)) := by
  refine b_X1_set 283 g x (nI c) ⟨by omega, sc_k283 a.1, (k_X1_nameArgument (idx := 0) (by omega) a hc (by omega)).mono ?_⟩
  rintro _ h1 ⟨rfl, e1⟩
  have a1 := a.ex e1
  refine Or.inl ⟨_, rfl, sc_k283 a1.1, (k_X1_nameArgument (idx := 1) (by omega) a1 hc (by omega)).mono ?_⟩
  rintro _ h2 ⟨rfl, e2⟩
  have a2 := a1.ex e2
  have ex : ExI pTX h h2 := e1.tr e2
  have b2 := a2.1.pb a2.2.2.2.1
  have xo : x ≠ 283 ∧ x ≠ 284 := by have := a.2.2.1; omega
  have e0 : ∀ k, hpI h2 x k = hpI h x k := fun k => by rw [ex.2.2.2.2.2.2.2 x (fun c => c.elim xo.1 xo.2)]
  have ex' : ExI (fun b => (b = 283 ∨ b = 284) ∨ b = x) h h2 := ⟨ex.1, ex.2.1, ex.2.2.1, ex.2.2.2.1, ex.2.2.2.2.1, ex.2.2.2.2.2.1, ex.2.2.2.2.2.2.1, fun b hb => ex.2.2.2.2.2.2.2 b (fun c => hb (Or.inl c))⟩
  have eCL : CLn h2 = CLn h := CLn_cg (fun b h1 h2 => ex.2.2.2.2.2.2.2 b (fun c => by rcases c with c | c <;> omega))
  have cf : CF D (CLn h) h2 x F := by rw [← eCL]; exact a2.2.2.2.2.2.1
  have len : ((kAr D c).map (evA F)).length = (kAr D c).length := List.length_map ..
  have l7 : (kAr D c).length ≤ 700 := by
    have q1 := (a.2.2.2.2.1.2.2.1.2.2 c hc).2.1
    have q2 := a.2.2.2.2.1.2.2.1.1
    omega
  have sx := a2.2.1
  refine Or.inl ⟨_, rfl, b2.1, mx_xKI2 (p_argumentsOf (by omega) b2 a2.2.2.2.2.1 hc) ?_⟩
  rw [lg_cmp_eq, lg_cmp_eq, lg_cmp_eq]
  generalize (kAr D c).map (evA F) = as at len ⊢
  have same : opSet as w F = (2, w, F) → StE D x h (opSet as w F) (.inl (some (.int 2))) h2 := fun e => by
    rw [e]; exact ⟨rfl, ex', fun k _ => e0 k, cf⟩
  have good : as.length = 2 → nmL (as.getD 0 []) = 1543120751558 → (nmL (as.getD 1 []) = 569 ∨ nmL (as.getD 1 []) = 20763) → mx_SX mY_X1_set d 58 [(2, .ref x), (6, .long (nmL (as.getD 1 [])))] [] h2 (StE D x h (opSet as w F)) := by
    intro g1 g2 g3
    have os : opSet as w F = (0, w, vP F (decide (nmL (as.getD 1 []) = 569))) := by
      unfold opSet
      rw [if_neg]
      rintro (q | q | ⟨q1, q2⟩)
      · exact q g1
      · exact q g2
      · exact g3.elim q1 q2
    rw [os]
    have fin : ∀ b : Bool, StE D x h (0, w, vP F b) (.inl (some (.int 0))) (hsI h2 x 4 (if b = true then 1 else 0)) := fun b =>
      ⟨rfl, ex'.I (Or.inr rfl), fun k hk => by rw [hpI_sIe, fup_n hk, e0], cf.pf⟩
    refine b_X1_set_58 x _ ⟨fun c1 => ⟨sx.k0, ?_⟩, fun c1 => ⟨sx.k0, ?_⟩⟩
    all_goals
      rw [lg_cmp_eq] at c1
      rintro _ rfl
    · rw [decide_eq_false c1]; exact fin false
    · rw [decide_eq_true c1]; exact fin true
  refine ⟨fun c1 => same ?_, fun c1 => ⟨fun c2 => same ?_, fun c2 => ⟨fun c3 => ?_, fun c3 => ⟨fun c4 => ?_, fun c4 => same ?_⟩⟩⟩⟩
  · have : as.length ≠ 2 := fun e => c1 (by rw [← len, e]; rfl)
    unfold opSet
    rw [if_pos (Or.inl this)]
  · unfold opSet
    rw [if_pos (Or.inr (Or.inl c2))]
  · exact good (by rw [len]; exact (nI_eq (b := 2) (by omega) (by omega)).mp c1) c2 (Or.inl c3)
  · exact good (by rw [len]; exact (nI_eq (b := 2) (by omega) (by omega)).mp c1) c2 (Or.inr c4)
  · unfold opSet
    rw [if_pos (Or.inr (Or.inr ⟨c3, c4⟩))]
end MXST
