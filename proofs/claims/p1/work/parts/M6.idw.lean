/-! THE FRESH HEAP IS THE IDLE CLASS (p1) -/
section MXM6
variable {g : mxH} {d k a o : Nat}
def w00 : spW := ([(1, 0, 0)], [], [], [], [], [], 0, 0, 0, false)
def F00 : spF := (0, fun k => if k < 3 then some 0 else none, 0, [], [], fun _ => 0, false, 0, false, 0)
def D00 : pmC := (fun _ => 21, fun _ => 0, fun _ => 0, 1, fun _ => 0, fun _ => 0, fun _ => 0, fun _ => [], fun _ => [], fun _ => 0, fun _ => 0)
theorem rF_no5 : ∀ i, i < 237 → (rF i).1 = 5 → i = 191 := by decide +kernel
theorem rF_191 : (rF 191).1 = 5 ∧ (rF 191).2.2.1 0 = 1 ∧ (rF 191).2.2.1 3 = 0 ∧ (rF 191).2.2.1 4 = 3 := by decide +kernel
theorem rF_27 : ∀ k, k < 10 → (rF 27).2.2.2.2 k = if k < 3 then some 319 else none := by decide +kernel
theorem rF_row : ∀ a ∈ cRS [146] [], 128 ≤ a ∧ a < 365 ∧ (rF (a - 128)).1 = 18 ∧ (rF (a - 128)).2.1 = 10 ∧ ∀ k, k < 10 → (rF (a - 128)).2.2.2.2 k = none ∨ (rF (a - 128)).2.2.2.2 k = some 319 := by decide +kernel
theorem rF_past : ∀ x ∈ pastX, 128 ≤ x ∧ ∀ k, k < 10 → (rF (x + 9 - 128)).2.2.2.2 k = none := by decide +kernel
theorem rF_W : (rF 12).2.2.1 3 = 0 ∧ (rF 12).2.2.1 5 = 0 ∧ (rF 12).2.2.1 7 = 0 ∧ (rF 12).2.2.1 10 = 0 ∧ (rF 12).2.2.1 11 = 0 ∧ (rF 12).2.2.1 12 = 0 ∧ (rF 12).2.2.1 13 = 0 := by decide +kernel
theorem rF_S : (rF 18).2.2.1 4 = 0 ∧ (rF 18).2.2.1 5 = 0 ∧ (rF 18).2.2.1 6 = 0 ∧ (rF 18).2.2.1 7 = 0 ∧ (rF 18).2.2.1 8 = 0 ∧ (rF 18).2.2.1 9 = 0 ∧ (rF 18).2.2.1 14 = 0 ∧ (rF 19).2.2.1 2 = 0 ∧ (rF 22).2.2.1 2 = 0 ∧ ∀ k, k < 4 → (rF 25).2.2.2.1 k = 0 := by decide +kernel
theorem rF_C : (rF 7).2.2.2.2 0 = none ∧ (rF 3).2.2.1 3 = 1 ∧ (rF 3).2.2.1 4 = 0 ∧ (rF 154).2.2.2.2 8 = none ∧ (rF 0).2.2.1 1 = 0 ∧ (rF 0).2.2.1 3 = 0 ∧ (rF 0).2.2.1 7 = 0 ∧ (rF 0).2.2.2.2 10 = some 289 ∧ (rF 0).2.2.2.2 11 = some 304 := by decide +kernel
theorem rF_P : (rF 161).2.2.1 3 = 1 ∧ (rF 161).2.2.1 11 = 0 ∧ (rF 161).2.2.1 14 = 0 ∧ (rF 162).2.2.1 0 = 21 ∧ (rF 163).2.2.1 0 = 0 ∧ (rF 164).2.2.1 0 = 0 := by decide +kernel
theorem rF_160 : ∀ j, j < 6 → (rF 32).2.2.2.2 j = some (161 + 20 * j) := by decide +kernel
set_option maxRecDepth 100000 in
theorem rF_z : (rF 5).2.2.1 = (fun _ => 0) ∧ (rF 6).2.2.1 = (fun _ => 0) ∧ (rF 158).2.2.2.2 = (fun _ => none) := by
  refine ⟨?_, ?_, ?_⟩ <;> rfl
theorem h0_5 (hg : ∀ a, a < 128 → hpK g a = 21) : mx_kd (H0 g) o 5 ↔ o = 319 := by
  refine ⟨fun q => ?_, fun e => ?_⟩
  · obtain ⟨q1, q2⟩ := q
    rw [h0_N] at q1
    by_cases c : o < 128
    · have : hpK (H0 g) o = hpK g o := hpK_mkLo c
      rw [this, hg o c] at q2
      exact absurd q2 (by decide)
    · rw [h0_K (by omega)] at q2
      have := rF_no5 (o - 128) (by omega) q2
      omega
  · subst e
    exact ⟨by rw [h0_N]; decide, by rw [h0_KJ]; exact rF_191.1⟩
theorem h0_row (hk : k < 10) : hpR (H0 g) 155 k = if k < 3 then some 319 else none := by
  rw [h0_RJ]; exact rF_27 k hk
theorem rcnt_eq {R R' : Nat → Nat → Option Nat} : ∀ (l : List Nat), (∀ a ∈ l, R a = R' a) → rcnt R o l = rcnt R' o l
  | [], _ => rfl
  | a :: l, e => by
    show hcnt (R a) o 10 + rcnt R o l = hcnt (R' a) o 10 + rcnt R' o l
    rw [e a List.mem_cons_self, rcnt_eq l fun b hb => e b (List.mem_cons_of_mem _ hb)]
theorem rF_cnt : rcnt (fun a => (rF (a - 128)).2.2.2.2) 319 (cRS [146] []) = 3 := by decide +kernel
theorem h0_cnt : rcnt (hpR (H0 g)) 319 (cRS [146] []) = 3 := by
  rw [rcnt_eq (R' := fun a => (rF (a - 128)).2.2.2.2) _ (fun a ha => h0_R (rF_row a ha).1)]
  exact rF_cnt
theorem F00_3 {k : Nat} : fH F00 k = if k < 3 then some 0 else none := rfl
theorem h0_W (d0 : Nat) : WQ D00 (H0 g) 140 w00 F00 [] := by
  obtain ⟨a1, a2, a3, a4, a5, a6, a7⟩ := rF_W
  obtain ⟨b1, b2, b3, b4, b5, b6, b7, b8, b9, b10⟩ := rF_S
  have no : ∀ {α : Type} {i : Nat} {p : α}, ¬ i < 0 := fun {α i p} => Nat.not_lt_zero i
  refine ⟨⟨0, by decide, ?_⟩, rfl, ⟨⟨?_, by decide, fun k hk => absurd hk (Nat.not_lt_zero _)⟩, ⟨?_, by decide, fun k hk => absurd hk (Nat.not_lt_zero _)⟩, fun k hk => ?_, ?_, ?_⟩, ⟨?_, by decide, fun k hk => absurd hk (Nat.not_lt_zero _)⟩, fun k hk => ⟨fun e => ?_, fun a ha => ?_⟩, fun j k hj hk => ?_⟩
  · refine ⟨⟨?_, by decide, fun i hi => absurd hi (Nat.not_lt_zero _)⟩, ⟨?_, by decide, fun i hi => absurd hi (Nat.not_lt_zero _)⟩, ⟨?_, by decide, fun i hi => absurd hi (Nat.not_lt_zero _)⟩, ⟨?_, by decide, ?_, ?_⟩, 0, ?_, Nat.le_refl _, rfl, fun i hi => absurd hi (Nat.not_lt_zero _)⟩
    · rw [h0_IJ]; exact a1
    · rw [h0_IJ]; exact a2
    · rw [h0_IJ]; exact a3
    · rw [h0_IJ]; exact a5
    · rw [h0_IJ]; exact a6
    · rw [h0_IJ]; exact a7
    · rw [h0_IJ]; exact a4
  · show hpI (H0 g) 147 2 = _
    rw [h0_IJ]; exact b8
  · show hpI (H0 g) 150 2 = _
    rw [h0_IJ]; exact b9
  · show hpL (H0 g) 153 k = _
    rw [h0_LJ]; exact b10 k hk
  · show hpI (H0 g) 146 4 = _
    rw [h0_IJ]; exact b1
  · show hpI (H0 g) 146 6 = _
    rw [h0_IJ]; exact b3
  · show hpI (H0 g) 146 14 = _
    rw [h0_IJ]; exact b7
  · show hpR (H0 g) 155 k = none
    rw [h0_row hk]
    rw [F00_3] at e
    by_cases c : k < 3
    · rw [if_pos c] at e; cases e
    · rw [if_neg c]
  · rw [F00_3] at ha
    by_cases c : k < 3
    · rw [if_pos c] at ha
      cases ha
      refine ⟨319, (1, 0, 0), ?_, ⟨by rw [h0_N]; decide, by rw [h0_KJ]; exact rF_191.1⟩, rfl, ?_, by decide, by decide, ?_, by decide, fun q => absurd q (by decide)⟩
      · show hpR (H0 g) 155 k = _
        rw [h0_row hk, if_pos c]
      · rw [h0_IJ]; exact rF_191.2.1
      · rw [h0_IJ]; exact rF_191.2.2.1
    · rw [if_neg c] at ha; cases ha
  · show hpR (H0 g) 155 j = hpR (H0 g) 155 k ↔ _
    rw [h0_row hj, h0_row hk, F00_3, F00_3]
    by_cases c1 : j < 3
    · by_cases c2 : k < 3
      · rw [if_pos c1, if_pos c2, if_pos c1, if_pos c2]; exact ⟨fun _ => rfl, fun _ => rfl⟩
      · rw [if_pos c1, if_neg c2, if_pos c1, if_neg c2]; exact ⟨(fun c => nomatch c), (fun c => nomatch c)⟩
    · by_cases c2 : k < 3
      · rw [if_neg c1, if_pos c2, if_neg c1, if_pos c2]; exact ⟨(fun c => nomatch c), (fun c => nomatch c)⟩
      · rw [if_neg c1, if_neg c2, if_neg c1, if_neg c2]
theorem h0_OI (hg : ∀ a, a < 128 → hpK g a = 21) : OI (H0 g) (cRS [146] []) [] := by
  refine ⟨by decide, by decide, fun a ha => ?_, fun o ho => ?_, fun o ho => absurd ho List.not_mem_nil, [], ?_, List.nodup_nil, fun o => ⟨fun c => absurd c List.not_mem_nil, fun c => ?_⟩⟩
  · obtain ⟨q1, q2, q3, q4, q5⟩ := rF_row a ha
    refine ⟨⟨by rw [h0_N]; exact q2, by rw [h0_K q1]; exact q3⟩, by rw [h0_Z q1]; exact q4, fun k hk o e => ?_⟩
    rw [h0_R q1] at e
    rcases q5 k hk with c | c
    · rw [c] at e; cases e
    · rw [c] at e; cases e; exact (h0_5 hg).mpr rfl
  · rw [(h0_5 hg).mp ho, h0_cnt, h0_IJ]
    exact rF_191.2.2.2
  · show hpR (H0 g) 135 0 = none
    rw [h0_RJ]; exact rF_C.1
  · rw [(h0_5 hg).mp c.1, h0_cnt] at c
    exact absurd c.2.1 (by decide)
theorem h0_CU : CU (H0 g) 0 := by
  have e5 : hpI (H0 g) 133 = fun _ => 0 := by rw [h0_IJ]; exact rF_z.1
  have e6 : hpI (H0 g) 134 = fun _ => 0 := by rw [h0_IJ]; exact rF_z.2.1
  have n1 : ¬ ((0 : Int32) = 1) := by decide
  unfold CU
  rw [e5, e6]
  refine ⟨rfl, 1, ?_, Nat.le_refl _, by decide, fun j h1 h2 => absurd h2 (by omega), ⟨0, ?_, by decide, fun j _ c => absurd c n1⟩, fun _ _ => Or.inl rfl, [], Nat.le_refl _, fun j _ _ c => absurd c n1⟩
  · rw [h0_IJ]; exact rF_C.2.1
  · rw [h0_IJ]; exact rF_C.2.2.1
theorem h0_IDW (hg : ∀ a, a < 128 → hpK g a = 21) : IDW D00 (H0 g) (H0 g) 0 w00 F00 [] [146] [] [] [319] := by
  obtain ⟨b1, b2, b3, b4, b5, b6, b7, b8, b9, b10⟩ := rF_S
  refine ⟨h0_SC, h0_W 0, by decide +kernel, ⟨?_, ?_, ?_, by decide, ?_, by decide⟩, h0_OI hg, h0_CU, ⟨by decide, fun x => Iff.rfl, List.pairwise_singleton _ _, fun x hx => ?_, ?_⟩, ⟨⟨fun i hi => absurd hi (Nat.not_lt_zero _), fun i _ hi => ?_, Nat.le_refl _, by decide, fun i hi => absurd hi (Nat.not_lt_zero _)⟩, fun v hv => absurd hv List.not_mem_nil, List.nodup_nil⟩, fun x hx k hk o e => ?_, by decide, fun o => ?_, by decide, by decide, rfl, rfl, Nat.le_refl _⟩
  · rw [h0_IJ]; exact b2
  · rw [h0_IJ]; exact b4
  · rw [h0_IJ]; exact b5
  · rw [h0_IJ]; exact b6
  · have : x = 146 := by simpa using hx
    subst this
    exact ⟨(h0_WB 140 (by decide)).2.2.2, Or.inl rfl⟩
  · show hpR (H0 g) 282 8 = none
    rw [h0_RJ]; exact rF_C.2.2.2.1
  · rw [h0_RJ]
    show (rF 158).2.2.2.2 i = none
    rw [rF_z.2.2]
  · obtain ⟨q1, q2⟩ := rF_past x hx
    rw [h0_R (by omega), q2 k hk] at e
    cases e
  · rw [h0_5 hg]
    simp
theorem h0_BK (hg : ∀ a, a < 128 → hpK g a = 21) : BK (H0 g) := by
  refine ⟨fun a ha e => ?_, (h0_5 hg).mpr rfl, fun o ho => by rw [(h0_5 hg).mp ho]; decide⟩
  have lt : a < 365 := by
    unfold cstA at ha
    simp only [Bool.or_eq_true, Bool.and_eq_true, decide_eq_true_eq] at ha
    omega
  have := (h0_5 hg).mp ⟨by rw [h0_N]; exact lt, e⟩
  subst this
  exact absurd ha (by decide)
theorem h0_PsW : PsW D00 (H0 g) (fun i => i) [] := by
  refine ⟨⟨?_, by decide, fun j hj => ⟨hj, ?_⟩, fun i j _ _ e => e⟩, fun k hk => absurd hk (Nat.not_lt_zero _)⟩
  · rw [h0_IJ]; exact rF_C.2.2.2.2.2.2.1
  · rw [h0_RJ]; exact rF_160 j hj
end MXM6
