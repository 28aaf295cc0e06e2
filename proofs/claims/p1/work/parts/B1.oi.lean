/-! THE CLASS'S OPEN FILES: their counts, the free list -/
section MXOI
variable {h h' : mxH} {RS inh : List Nat} {sl i : Nat} {new : Option Nat}
def hcnt (f : Nat → Option Nat) (o : Nat) : Nat → Nat
  | 0 => 0
  | n + 1 => hcnt f o n + (if f n = some o then 1 else 0)
def rcnt (R : Nat → Nat → Option Nat) (o : Nat) : List Nat → Nat
  | [] => 0
  | a :: l => hcnt (R a) o 10 + rcnt R o l
theorem hcnt_le (f : Nat → Option Nat) (o : Nat) : ∀ n, hcnt f o n ≤ n
  | 0 => Nat.le_refl _
  | n + 1 => by
    have := hcnt_le f o n
    unfold hcnt
    split <;> omega
theorem rcnt_le (R : Nat → Nat → Option Nat) (o : Nat) : ∀ l : List Nat, rcnt R o l ≤ 10 * l.length
  | [] => Nat.le_refl _
  | a :: l => by
    have := rcnt_le R o l
    have h2 := hcnt_le (R a) o 10
    unfold rcnt
    rw [List.length_cons]
    omega
theorem hcnt_congr {f g : Nat → Option Nat} {o : Nat} : ∀ n, (∀ k, k < n → f k = g k) → hcnt f o n = hcnt g o n
  | 0, _ => rfl
  | n + 1, e => by
    unfold hcnt
    rw [hcnt_congr n (fun k hk => e k (by omega)), e n (by omega)]
theorem hcnt_up {f : Nat → Option Nat} {o i : Nat} {v : Option Nat} : ∀ n, hcnt (fup f i v) o n + (if i < n ∧ f i = some o then 1 else 0) = hcnt f o n + (if i < n ∧ v = some o then 1 else 0)
  | 0 => by
    rw [if_neg (fun e => absurd e.1 (Nat.not_lt_zero _)), if_neg (fun e => absurd e.1 (Nat.not_lt_zero _))]
    rfl
  | n + 1 => by
    have ih := hcnt_up (f := f) (o := o) (i := i) (v := v) n
    unfold hcnt
    by_cases c : n = i
    · subst c
      have e : hcnt (fup f n v) o n = hcnt f o n := hcnt_congr n fun k hk => fup_n (by omega)
      rw [e, fup_e]
      by_cases c1 : f n = some o <;> by_cases c2 : v = some o <;> simp [c1, c2] <;> omega
    · rw [fup_n c]
      have a : (i < n + 1 ∧ f i = some o) ↔ (i < n ∧ f i = some o) := by
        constructor
        · rintro ⟨x, y⟩; exact ⟨by omega, y⟩
        · rintro ⟨x, y⟩; exact ⟨by omega, y⟩
      have b : (i < n + 1 ∧ v = some o) ↔ (i < n ∧ v = some o) := by
        constructor
        · rintro ⟨x, y⟩; exact ⟨by omega, y⟩
        · rintro ⟨x, y⟩; exact ⟨by omega, y⟩
      simp only [a, b]
      omega
theorem rcnt_congr {R R' : Nat → Nat → Option Nat} {o : Nat} : ∀ l : List Nat, (∀ a ∈ l, ∀ k, k < 10 → R a k = R' a k) → rcnt R o l = rcnt R' o l
  | [], _ => rfl
  | a :: l, e => by
    unfold rcnt
    rw [hcnt_congr 10 (fun k hk => e a List.mem_cons_self k hk), rcnt_congr l (fun b hb => e b (List.mem_cons_of_mem _ hb))]
/-- one handle of one row changes -/
theorem rcnt_up {R R' : Nat → Nat → Option Nat} {o : Nat} (hi : i < 10) : ∀ l : List Nat, l.Nodup → sl ∈ l → (∀ a ∈ l, ∀ k, k < 10 → R' a k = if a = sl ∧ k = i then new else R a k) →
    rcnt R' o l + (if R sl i = some o then 1 else 0) = rcnt R o l + (if new = some o then 1 else 0)
  | [], _, hm, _ => absurd hm List.not_mem_nil
  | a :: l, nd, hm, e => by
    obtain ⟨n1, n2⟩ := List.nodup_cons.mp nd
    unfold rcnt
    by_cases c : a = sl
    · subst c
      have e1 : rcnt R' o l = rcnt R o l := rcnt_congr l fun b hb k hk => by
        exact (e b (List.mem_cons_of_mem _ hb) k hk).trans (if_neg fun q => n1 (by rw [← q.1]; exact hb))
      have e2 : hcnt (R' a) o 10 = hcnt (fup (R a) i new) o 10 := hcnt_congr 10 fun k hk => by
        rw [e a List.mem_cons_self k hk]
        by_cases ck : k = i
        · subst ck; rw [if_pos ⟨rfl, rfl⟩, fup_e]
        · rw [if_neg (fun q => ck q.2), fup_n ck]
      have u := hcnt_up (f := R a) (o := o) (i := i) (v := new) 10
      rw [e1, e2]
      simp only [hi, true_and] at u
      omega
    · have hm2 : sl ∈ l := (List.mem_cons.mp hm).resolve_left (fun e => c e.symm)
      have e2 : hcnt (R' a) o 10 = hcnt (R a) o 10 := hcnt_congr 10 fun k hk => by
        rw [e a List.mem_cons_self k hk, if_neg (fun q => c q.1)]
      have ih := rcnt_up (o := o) hi l n2 hm2 (fun b hb k hk => e b (List.mem_cons_of_mem _ hb) k hk)
      rw [e2]
      omega
theorem hcnt_pos {f : Nat → Option Nat} {o k : Nat} : ∀ n, k < n → f k = some o → 0 < hcnt f o n
  | 0, hk, _ => absurd hk (Nat.not_lt_zero _)
  | n + 1, hk, e => by
    unfold hcnt
    by_cases c : k = n
    · subst c; rw [if_pos e]; omega
    · have := hcnt_pos (f := f) (o := o) n (by omega) e
      omega
theorem rcnt_pos {R : Nat → Nat → Option Nat} {o a k : Nat} : ∀ l : List Nat, a ∈ l → k < 10 → R a k = some o → 0 < rcnt R o l
  | [], hm, _, _ => absurd hm List.not_mem_nil
  | b :: l, hm, hk, e => by
    unfold rcnt
    rcases List.mem_cons.mp hm with c | c
    · subst c
      have := hcnt_pos (f := R a) (o := o) 10 hk e
      omega
    · have := rcnt_pos l c hk e
      omega
/-- the free ones, from r on -/
def FLc (R : Nat → Nat → Option Nat) : Option Nat → List Nat → Prop
  | r, [] => r = none
  | r, o :: l => r = some o ∧ FLc R (R o 5) l
theorem FLc.congr {R R' : Nat → Nat → Option Nat} : ∀ (l : List Nat) (r : Option Nat), (∀ o ∈ l, R' o 5 = R o 5) → FLc R r l → FLc R' r l
  | [], r, _, f => f
  | o :: l, r, e, f => ⟨f.1, by rw [e o List.mem_cons_self]; exact FLc.congr l _ (fun q hq => e q (List.mem_cons_of_mem _ hq)) f.2⟩
/-- RS: the rows of handles; inh: open files in hand -/
def OI (h : mxH) (RS inh : List Nat) : Prop := RS.Nodup ∧ RS.length < 1000000 ∧ (∀ a ∈ RS, mx_kd h a 18 ∧ hpZ h a = 10 ∧ ∀ k, k < 10 → ∀ o, hpR h a k = some o → mx_kd h o 5) ∧ (∀ o, mx_kd h o 5 → hpI h o 4 = nI (rcnt (hpR h) o RS)) ∧
  (∀ o ∈ inh, mx_kd h o 5 ∧ rcnt (hpR h) o RS = 0) ∧ ∃ fl, FLc (hpR h) (hpR h 135 0) fl ∧ fl.Nodup ∧ ∀ o, o ∈ fl ↔ (mx_kd h o 5 ∧ rcnt (hpR h) o RS = 0 ∧ o ∉ inh)
/-- what the open files' accounts change -/
def FrO (h h' : mxH) : Prop := hpN h' = hpN h ∧ hpC h' = hpC h ∧ hpS h' = hpS h ∧ hpK h' = hpK h ∧ hpZ h' = hpZ h ∧ hpL h' = hpL h ∧ (∀ a k, (hpK h a ≠ 5 ∨ k ≠ 4) → hpI h' a k = hpI h a k) ∧
  ∀ a k, hpK h a ≠ 18 → (hpK h a ≠ 5 ∨ k ≠ 5) → (a ≠ 135 ∨ k ≠ 0) → hpR h' a k = hpR h a k
theorem FrO.rf : FrO h h := ⟨rfl, rfl, rfl, rfl, rfl, rfl, fun _ _ _ => rfl, fun _ _ _ _ _ => rfl⟩
theorem FrO.tr {h1 h2 : mxH} (a : FrO h h1) (b : FrO h1 h2) : FrO h h2 := by
  obtain ⟨a1, a2, a3, a4, a5, a6, a7, a8⟩ := a
  obtain ⟨b1, b2, b3, b4, b5, b6, b7, b8⟩ := b
  refine ⟨b1.trans a1, b2.trans a2, b3.trans a3, b4.trans a4, b5.trans a5, b6.trans a6, fun a k hk => (b7 a k (by rw [a4]; exact hk)).trans (a7 a k hk), fun a k h1 h2 h3 => (b8 a k (by rw [a4]; exact h1) (by rw [a4]; exact h2) h3).trans (a8 a k h1 h2 h3)⟩
theorem FrO.fp (a : FrO h h') (hc : hpK h 135 = 0) : FP h h' := by
  obtain ⟨a1, a2, a3, a4, a5, a6, a7, a8⟩ := a
  refine ⟨Nat.le_of_eq a1.symm, fun b hb => ⟨by rw [a4], by rw [a5], fun k hk => a8 b k (fun e => ?_) ?_ ?_⟩⟩
  · rw [e] at hk; exact absurd hk List.not_mem_nil
  · by_cases c : hpK h b = 5
    · rw [c] at hk; exact absurd hk List.not_mem_nil
    · exact Or.inl c
  · by_cases c : b = 135
    · subst c
      rw [hc] at hk
      right
      intro e
      subst e
      exact absurd hk (by decide)
    · exact Or.inl c
end MXOI
