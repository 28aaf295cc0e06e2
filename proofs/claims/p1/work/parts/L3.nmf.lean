/-! NAMES: a word of at most 12 letters and its value -/
section QZ3
variable {t : Nat → Int32} {z : Nat} {k : qzT}
def ltN (c : Int32) : Nat := (ltV c).toInt.toNat
theorem ltN_at {c : Int32} (h : isLt c = true) : (ltV c).toInt = (ltN c : Int) ∧ 1 ≤ ltN c ∧ ltN c ≤ 36 := by
  have := isLt_at h
  unfold ltN
  omega
/-- the value, as a number; the last letter counts least -/
def nmN (l : spL) : Nat := l.foldl (fun v c => 37 * v + ltN c) 0
theorem nmN_snoc {l : spL} {c : Int32} : nmN (l ++ [c]) = 37 * nmN l + ltN c := by unfold nmN; rw [List.foldl_append]; rfl
theorem p37_le {a b : Nat} (h : a ≤ b) : 37 ^ a ≤ 37 ^ b := Nat.pow_le_pow_right (by decide) h
theorem nm_val : ∀ l : spL, (∀ c ∈ l, isLt c = true) → l.length ≤ 12 → (nmV l).toInt = nmN l ∧ nmN l < 37 ^ l.length ∧ (l ≠ [] → 0 < nmN l) := by
  intro l
  generalize hn : l.length = n
  induction n generalizing l with
  | zero =>
    intro _ _
    obtain rfl := List.length_eq_zero_iff.mp hn
    exact ⟨rfl, by decide, fun c => absurd rfl c⟩
  | succ n ih =>
    intro hl h12
    have ne : l ≠ [] := fun c => by rw [c] at hn; cases hn
    obtain ⟨l0, c, rfl⟩ : ∃ l0 c, l = l0 ++ [c] := ⟨l.dropLast, l.getLast ne, (List.dropLast_concat_getLast ne).symm⟩
    rw [List.length_append] at hn
    have hn : l0.length = n := by simp only [List.length_cons, List.length_nil] at hn; omega
    obtain ⟨a1, a2, a3⟩ := ih l0 hn (fun x hx => hl x (List.mem_append_left _ hx)) (by omega)
    obtain ⟨c1, c2, c3⟩ := ltN_at (hl c (by simp))
    rw [nmV_snoc, nmN_snoc]
    have e37 : ((37 : Int64)).toInt = 37 := rfl
    have p := p37_le (show n ≤ 11 by omega)
    have p11 : 37 ^ 11 * 37 < 2 ^ 63 := by decide
    have m1 : (37 * nmV l0).toInt = 37 * (nmV l0).toInt := by
      have := i64_mul (a := 37) (b := nmV l0) (by rw [e37]; omega) (by rw [e37]; omega)
      rw [this, e37]
    have a := i64_add (a := 37 * nmV l0) (b := ltV c) (by rw [m1]; omega) (by rw [m1]; omega)
    refine ⟨by rw [a, m1, a1, c1]; omega, ?_, fun _ => by omega⟩
    rw [Nat.pow_succ]
    omega
theorem fit_lt : ∀ n (v : Int64), 0 < v.toInt → v.toInt < 37 ^ n → fitW n v
  | 0, v, h0, h1 => by
    have h1 : v.toInt < 1 := h1
    omega
  | n + 1, v, h0, h1 => by
    intro h
    have h := Int64.le_iff_toInt_le.mp h
    have e37 : ((37 : Int64)).toInt = 37 := rfl
    rw [e37] at h
    have lt := Int64.toInt_lt v
    have dv : (v / 37).toInt = v.toInt / 37 := by
      rw [Int64.toInt_div, e37, Int.tdiv_eq_ediv_of_nonneg (by omega)]
      exact Int.bmod_eq_of_le (by omega) (by omega)
    have h1 : v.toInt < 37 ^ n * 37 := h1
    refine fit_lt n (v / 37) ?_ ?_
    · rw [dv]; omega
    · rw [dv]; omega
theorem fit_up : ∀ n (v : Int64), fitW n v → fitW (n + 1) v
  | 0, v, h => h.elim
  | n + 1, v, h => fun q => fit_up n (v / 37) (h q)
/-- the letters of a word of the text -/
theorem skW_lt : ∀ n e i, e ≤ i → i < skW t z n e → i < z ∧ isLt (t i) = true
  | 0, e, i, h1, h2 => by have h2 : i < e := h2; omega
  | n + 1, e, i, h1, h2 => by
    unfold skW at h2
    split at h2
    · rename_i q
      by_cases c : i = e
      · rw [c]; exact q
      · exact skW_lt n (e + 1) i (by omega) h2
    · omega
theorem Tk.ltr (T : Tk t z k) (h : k.2.1 = 1) {i : Nat} (hi : i < k.2.2 - k.1) : isLt (t (k.1 + i)) = true := by
  obtain ⟨a, b, c, d⟩ := T.w h
  have e : k.2.2 = skW t z (z - k.1) k.1 := congrArg (fun q => q.2.2) c
  exact (skW_lt (z := z) (z - k.1) k.1 (k.1 + i) (by omega) (by omega)).2
theorem wdB_len : (wdB t k).length = k.2.2 - k.1 := by rw [wdB, List.length_map, List.length_range]
theorem wdB_at {i : Nat} (hi : i < (wdB t k).length) : (wdB t k)[i] = t (k.1 + i) := by
  simp only [wdB, List.getElem_map, List.getElem_range]
theorem Tk.nm (T : Tk t z k) (h : k.2.1 = 1) : (∀ c ∈ wdB t k, isLt c = true) ∧ (wdB t k).length ≤ 12 ∧ 1 ≤ (wdB t k).length ∧ 0 < wdN t k ∧ fitW 12 (wdN t k) := by
  obtain ⟨a, b, c, d⟩ := T.w h
  have lt := (T.lt (by rw [h]; decide)).1
  have l1 : ∀ c ∈ wdB t k, isLt c = true := fun c hc => by
    obtain ⟨i, hi, rfl⟩ := List.mem_iff_getElem.mp hc
    rw [wdB_at hi]
    rw [wdB_len] at hi
    exact T.ltr h hi
  have l2 : (wdB t k).length ≤ 12 := by rw [wdB_len]; exact d
  have l3 : 1 ≤ (wdB t k).length := by rw [wdB_len]; omega
  obtain ⟨v1, v2, v3⟩ := nm_val _ l1 l2
  have pos := v3 (fun c => by rw [c] at l3; exact absurd l3 (by decide))
  have e : (wdN t k).toInt = nmN (wdB t k) := v1
  have up := Nat.lt_of_lt_of_le v2 (p37_le l2)
  have p12 : (37 : Nat) ^ 12 = 6582952005840035281 := by decide
  have p12i : (37 : Int) ^ 12 = 6582952005840035281 := by decide
  exact ⟨l1, l2, l3, Int64.lt_iff_toInt_lt.mpr (by rw [e]; show (0 : Int) < _; omega), fit_lt 12 _ (by rw [e]; omega) (by rw [e, p12i]; omega)⟩
theorem ltV_n : ∀ a, a < 128 → ∀ b, b < 128 → isLt (nI a) = true → isLt (nI b) = true → ltN (nI a) = ltN (nI b) → nI a = nI b := by decide +kernel
theorem lt_nat {c : Int32} (h : isLt c = true) : ∃ n, n < 128 ∧ c = nI n := by
  unfold isLt at h
  rw [Bool.or_eq_true, Bool.and_eq_true, Bool.and_eq_true] at h
  have e1 : (97 : Int32).toInt = 97 := rfl
  have e2 : (122 : Int32).toInt = 122 := rfl
  have e3 : (48 : Int32).toInt = 48 := rfl
  have e4 : (57 : Int32).toInt = 57 := rfl
  have r : 0 ≤ c.toInt ∧ c.toInt < 128 := by
    rcases h with ⟨a, b⟩ | ⟨a, b⟩
    · have a := Int32.le_iff_toInt_le.mp (of_decide_eq_true a)
      have b := Int32.le_iff_toInt_le.mp (of_decide_eq_true b)
      omega
    · have a := Int32.le_iff_toInt_le.mp (of_decide_eq_true a)
      have b := Int32.le_iff_toInt_le.mp (of_decide_eq_true b)
      omega
  obtain ⟨n, e, e5⟩ := i32_nat (c := c) r.1
  exact ⟨n, by omega, e⟩
theorem lt_inj {a b : Int32} (ha : isLt a = true) (hb : isLt b = true) (e : ltN a = ltN b) : a = b := by
  obtain ⟨m, hm, rfl⟩ := lt_nat ha
  obtain ⟨n, hn, rfl⟩ := lt_nat hb
  exact ltV_n m hm n hn ha hb e
theorem nmN_inj : ∀ n (l m : spL), l.length = n → (∀ c ∈ l, isLt c = true) → (∀ c ∈ m, isLt c = true) → nmN l = nmN m → l = m := by
  intro n
  induction n with
  | zero =>
    intro l m hl _ hm e
    obtain rfl := List.length_eq_zero_iff.mp hl
    by_cases c : m = []
    · exact c.symm
    · obtain ⟨m0, b, rfl⟩ : ∃ l0 c, m = l0 ++ [c] := ⟨m.dropLast, m.getLast c, (List.dropLast_concat_getLast c).symm⟩
      rw [nmN_snoc] at e
      have := (ltN_at (hm b (by simp))).2.1
      have e0 : nmN [] = 0 := rfl
      omega
  | succ n ih =>
    intro l m hl hl2 hm e
    have ne : l ≠ [] := fun c => by rw [c] at hl; cases hl
    obtain ⟨l0, c, rfl⟩ : ∃ l0 c, l = l0 ++ [c] := ⟨l.dropLast, l.getLast ne, (List.dropLast_concat_getLast ne).symm⟩
    have q1 := ltN_at (hl2 c (by simp))
    rw [nmN_snoc] at e
    by_cases cm : m = []
    · rw [cm] at e
      have e0 : nmN [] = 0 := rfl
      omega
    · obtain ⟨m0, b, rfl⟩ : ∃ l0 c, m = l0 ++ [c] := ⟨m.dropLast, m.getLast cm, (List.dropLast_concat_getLast cm).symm⟩
      have q2 := ltN_at (hm b (by simp))
      rw [nmN_snoc] at e
      have : l0 = m0 := ih l0 m0 (by rw [List.length_append] at hl; simp only [List.length_cons, List.length_nil] at hl; omega) (fun x hx => hl2 x (List.mem_append_left _ hx)) (fun x hx => hm x (List.mem_append_left _ hx)) (by omega)
      rw [this, lt_inj (hl2 c (by simp)) (hm b (by simp)) (by omega)]
/-- a word of the text has a name's value just where it has its bytes -/
theorem Tk.isW (T : Tk t z k) (h : k.2.1 = 1) {m : spL} (hm : ∀ c ∈ m, isLt c = true) (h12 : m.length ≤ 12) : wdN t k = nmV m ↔ wdB t k = m := by
  obtain ⟨a, b, -⟩ := T.nm h
  refine ⟨fun e => ?_, fun e => by rw [wdN, e]⟩
  have v1 := (nm_val _ a b).1
  have v2 := (nm_val _ hm h12).1
  have e : nmV (wdB t k) = nmV m := e
  rw [e, v2] at v1
  exact nmN_inj _ _ _ rfl a hm (by omega)
end QZ3
