/-! ShellCore.letterValue, nameIn, numberIn; Commands.nameOfNumber -/
section MXNA
variable {h h1 : mxH} {d x : Nat} {l : spL}
theorem i32_nat {c : Int32} (h : 0 ≤ c.toInt) : ∃ n : Nat, c = nI n ∧ c.toInt = n := by
  obtain ⟨n, hn⟩ : ∃ n : Nat, c.toInt = n := ⟨c.toInt.toNat, by omega⟩
  have l := Int32.toInt_lt c
  refine ⟨n, ?_, hn⟩
  apply Int32.toInt_inj.mp
  have : (nI n).toInt = n := by
    unfold nI
    rw [Int32.toInt_ofNat']
    simp [Int.bmod]; omega
  rw [this, hn]
theorem lv_pos {c a b : Nat} (h : a ≤ c) (hb : 0 < b) (hc : c < 1000) (hb2 : b < 1000) : (nI c - nI a) + nI b ≠ 0 := by
  rw [nI_sb h, nI_add]
  intro e
  have := (nI_eq (b := 0) (by omega) (by omega)).mp e
  omega
theorem k_X11_letterValue {c : Int32} : mx_SM mY_X11_letterValue d [.int c] h (fun r h1 => h1 = h ∧ ∃ v, r = .inl (some (.int v)) ∧ ((isLt c = true ∧ v ≠ 0 ∧ v.toInt64 = ltV c) ∨ (isLt c = false ∧ v = 0))) := by
  have t : (¬ (97 : Int32) ≤ c ∨ ¬ c ≤ 122) → mx_SX mY_X11_letterValue d 19 [(0, .int c)] [] h (fun r h1 => h1 = h ∧ ∃ v, r = .inl (some (.int v)) ∧ ((isLt c = true ∧ v ≠ 0 ∧ v.toInt64 = ltV c) ∨ (isLt c = false ∧ v = 0))) := by
    intro q
    have f1 : (decide ((97 : Int32) ≤ c) && decide (c ≤ 122)) = false := by
      rcases q with q | q
      · rw [decide_eq_false q]; rfl
      · rw [decide_eq_false q, Bool.and_false]
    refine b_X11_letterValue_19 c ⟨fun g => ⟨rfl, 0, rfl, Or.inr ⟨?_, rfl⟩⟩, fun g => ⟨fun g2 => ⟨rfl, 0, rfl, Or.inr ⟨?_, rfl⟩⟩, fun g2 => ⟨rfl, _, rfl, Or.inl ⟨?_, ?_, ?_⟩⟩⟩⟩
    · rw [isLt, f1, decide_eq_false (Int32.not_le.mpr g)]; rfl
    · rw [isLt, f1, decide_eq_false (Int32.not_le.mpr g2), Bool.and_false]; rfl
    · rw [isLt, f1, decide_eq_true (Int32.not_lt.mp g), decide_eq_true (Int32.not_lt.mp g2)]; rfl
    · have g1 := Int32.le_iff_toInt_le.mp (Int32.not_lt.mp g)
      have g3 := Int32.le_iff_toInt_le.mp (Int32.not_lt.mp g2)
      have e1 : (48 : Int32).toInt = 48 := by decide
      have e2 : (57 : Int32).toInt = 57 := by decide
      rw [e1] at g1
      rw [e2] at g3
      obtain ⟨n, en, tn⟩ := i32_nat (c := c) (by omega)
      rw [en]
      exact lv_pos (a := 48) (b := 27) (by omega) (by omega) (by omega) (by omega)
    · have n97 : ¬ (97 : Int32) ≤ c := fun c1 => by
        have h1 := Int32.le_iff_toInt_le.mp c1
        have h2 := Int32.le_iff_toInt_le.mp (Int32.not_lt.mp g2)
        have e1 : (97 : Int32).toInt = 97 := by decide
        have e2 : (57 : Int32).toInt = 57 := by decide
        omega
      rw [ltV, if_neg n97]
  refine b_X11_letterValue c ⟨fun g => t (Or.inl (Int32.not_le.mpr g)), fun g => ⟨fun g2 => t (Or.inr (Int32.not_le.mpr g2)), fun g2 => ⟨rfl, _, rfl, Or.inl ⟨?_, ?_, ?_⟩⟩⟩⟩
  · rw [isLt, decide_eq_true (Int32.not_lt.mp g), decide_eq_true (Int32.not_lt.mp g2)]; rfl
  · have g1 := Int32.le_iff_toInt_le.mp (Int32.not_lt.mp g)
    have g3 := Int32.le_iff_toInt_le.mp (Int32.not_lt.mp g2)
    have e1 : (97 : Int32).toInt = 97 := by decide
    have e2 : (122 : Int32).toInt = 122 := by decide
    rw [e1] at g1
    rw [e2] at g3
    obtain ⟨n, en, tn⟩ := i32_nat (c := c) (by omega)
    rw [en]
    exact lv_pos (a := 97) (b := 1) (by omega) (by omega) (by omega) (by omega)
  · rw [ltV, if_pos (Int32.not_lt.mp g)]
theorem all_bad {p : Int32 → Bool} {i : Nat} (hi : i < l.length) (e : p l[i] = false) : l.all p = false := by
  cases q : l.all p with
  | false => rfl
  | true =>
    have := List.all_eq_true.mp q l[i] (List.getElem_mem _)
    rw [e] at this; cases this
theorem k_X11_nameIn_24 (hd : 1 ≤ d) (hx : hpK h x = 13) (hz : l.length ≤ hpZ h x) (hz2 : hpZ h x < 2 ^ 31) (hl : ∀ k (hk : k < l.length), hpI h x k = l[k]) (l0 : l.length ≤ 12) (l1 : 1 ≤ l.length) : ∀ m i, i + m = l.length → (l.take i).all isLt = true →
    mx_SX mY_X11_nameIn d 24 [(0, .ref x), (1, .int (nI l.length)), (2, .long (nmV (l.take i))), (4, .int (nI i))] [] h (mx_xct (.inl (some (.long (nmL l)))) h) := by
  intro m
  induction m with
  | zero =>
    intro i hi ha
    have e : l.take i = l := List.take_of_length_le (by omega)
    rw [e] at ha ⊢
    refine b_X11_nameIn_24 x _ _ _ ⟨fun _ => ⟨?_, rfl⟩, fun c => absurd (nI_le (by omega) (by omega)) c⟩
    rw [nmL, if_pos ⟨l1, l0, ha⟩]
  | succ m ih =>
    intro i hi ha
    have il : i < l.length := by omega
    refine b_X11_nameIn_24 x _ _ _ ⟨fun c => absurd c (nI_ge il (by omega)), fun _ => ⟨hx, vp_in_nI (by omega) hz2, hd, ?_⟩⟩
    rw [nI_clamp (by omega), hl i il, nI_1]
    refine k_X11_letterValue.mono ?_
    rintro r _ ⟨rfl, v, rfl, q⟩
    refine Or.inl ⟨v, rfl, fun c => ?_, fun c => ?_⟩
    · rcases q with ⟨q1, -, q3⟩ | ⟨-, q2⟩
      · have t := List.take_succ_eq_append_getElem (l := l) (i := i) il
        have := ih (i + 1) (by omega) (by rw [t, List.all_append, ha]; simp [q1])
        rw [t, nmV_snoc, ← q3] at this
        exact this
      · exact absurd q2 c
    · rcases q with ⟨-, q2, -⟩ | ⟨q1, -⟩
      · exact absurd c q2
      · rw [nmL, if_neg (fun g => by rw [all_bad il q1] at g; cases g.2.2)]
        exact ⟨rfl, rfl⟩
theorem k_X11_nameIn (hd : 1 ≤ d) (hx : hpK h x = 13) (hz : l.length ≤ hpZ h x) (hz2 : hpZ h x < 2 ^ 31) (hl : ∀ k (hk : k < l.length), hpI h x k = l[k]) : mx_SM mY_X11_nameIn d [.ref x, .int (nI l.length)] h (mx_xct (.inl (some (.long (nmL l)))) h) := by
  refine b_X11_nameIn x _ ⟨fun c => ?_, fun c => ⟨fun c2 => ?_, fun c2 => ⟨hx, fun _ => ?_, fun c => absurd (nI_le hz hz2) c⟩⟩⟩
  · have := (nI_ltI (b := 1) (by omega) (by omega)).mp c
    rw [nmL, if_neg (fun g => by omega)]
    exact ⟨rfl, rfl⟩
  · have := (nI_ltI (a := 12) (by omega) (by omega)).mp c2
    rw [nmL, if_neg (fun g => by omega)]
    exact ⟨rfl, rfl⟩
  · have l1 : 1 ≤ l.length := Nat.le_of_not_lt fun g => c (nI_lt (b := 1) g (by omega))
    have l2 : l.length ≤ 12 := Nat.le_of_not_lt fun g => c2 (nI_lt (a := 12) g (by omega))
    exact k_X11_nameIn_24 hd hx hz hz2 hl l2 l1 _ 0 (Nat.zero_add _) rfl
theorem isB_rng {c : Int32} (h : isB c) : -128 ≤ c.toInt ∧ c.toInt < 128 := by
  have e : c.toInt = c.toInt8.toInt := by
    conv => lhs; rw [← h]
    exact Int8.toInt_toInt32 _
  have h1 := Int8.toInt_lt c.toInt8
  have h2 := Int8.le_toInt c.toInt8
  omega
theorem sub48 {c : Int32} (h : isB c) : (c - 48).toInt = c.toInt - 48 := by
  have := isB_rng h
  rw [Int32.toInt_sub, show (48 : Int32).toInt = 48 from by decide]
  simp only [Int.bmod]
  omega
theorem k_X11_numberIn_22 (hx : hpK h x = 13) (hz : l.length ≤ hpZ h x) (hz2 : hpZ h x < 2 ^ 31) (hl : ∀ k (hk : k < l.length), hpI h x k = l[k] ∧ isB l[k]) (l0 : l.length ≤ 5) (l1 : 1 ≤ l.length) : ∀ m i, i + m = l.length → (l.take i).all isDg = true →
    mx_SX mY_X11_numberIn d 22 [(0, .ref x), (1, .int (nI l.length)), (2, .int (nuV (l.take i))), (3, .int (nI i))] [] h (mx_xct (.inl (some (.int (nuL l)))) h) := by
  have en : nuL l = if 1 ≤ l.length ∧ l.length ≤ 5 ∧ l.all isDg = true then nuV l else -1 := rfl
  intro m
  induction m with
  | zero =>
    intro i hi ha
    have e : l.take i = l := List.take_of_length_le (by omega)
    rw [e] at ha ⊢
    refine b_X11_numberIn_22 x _ _ _ ⟨fun _ => ⟨?_, rfl⟩, fun c => absurd (nI_le (by omega) (by omega)) c⟩
    rw [en, if_pos ⟨l1, l0, ha⟩]
  | succ m ih =>
    intro i hi ha
    have il : i < l.length := by omega
    obtain ⟨e1, e2⟩ := hl i il
    have s48 := sub48 e2
    have z0 : (0 : Int32).toInt = 0 := by decide
    have z9 : (9 : Int32).toInt = 9 := by decide
    have z48 : (48 : Int32).toInt = 48 := by decide
    have z57 : (57 : Int32).toInt = 57 := by decide
    have bad : isDg l[i] = false → mx_xct (.inl (some (.int (nuL l)))) h (.inl (some (.int (-1)))) h := fun q => by
      rw [en, if_neg (fun g => by rw [all_bad il q] at g; cases g.2.2)]
      exact ⟨rfl, rfl⟩
    refine b_X11_numberIn_22 x _ _ _ ⟨fun c => absurd c (nI_ge il (by omega)), fun _ => ⟨hx, vp_in_nI (by omega) hz2, ?_⟩⟩
    rw [nI_clamp (by omega), e1, nI_1]
    refine ⟨fun c => bad ?_, fun c => ⟨fun c2 => ?_, fun c2 => bad ?_⟩⟩
    · rw [isDg, decide_eq_false (fun g => by have := Int32.le_iff_toInt_le.mp g; have := Int32.lt_iff_toInt_lt.mp c; omega)]; rfl
    · have d1 : (48 : Int32) ≤ l[i] := Int32.le_iff_toInt_le.mpr (by have := Int32.le_iff_toInt_le.mp (Int32.not_lt.mp c); omega)
      have d2 : l[i] ≤ (57 : Int32) := Int32.le_iff_toInt_le.mpr (by have := Int32.le_iff_toInt_le.mp c2; omega)
      have q1 : isDg l[i] = true := by rw [isDg, decide_eq_true d1, decide_eq_true d2]; rfl
      have t := List.take_succ_eq_append_getElem (l := l) (i := i) il
      have := ih (i + 1) (by omega) (by rw [t, List.all_append, ha]; simp [q1])
      rw [t, nuV_snoc] at this
      rw [show 10 * nuV (l.take i) + (l[i] - 48) = 10 * nuV (l.take i) + l[i] - 48 by rw [Int32.sub_eq_add_neg, Int32.sub_eq_add_neg, Int32.add_assoc]]
      exact this
    · rw [isDg, decide_eq_false (p := l[i] ≤ 57) (fun g => c2 (Int32.le_iff_toInt_le.mpr (by have := Int32.le_iff_toInt_le.mp g; omega))), Bool.and_false]
theorem k_X11_numberIn (hx : hpK h x = 13) (hz : l.length ≤ hpZ h x) (hz2 : hpZ h x < 2 ^ 31) (hl : ∀ k (hk : k < l.length), hpI h x k = l[k] ∧ isB l[k]) : mx_SM mY_X11_numberIn d [.ref x, .int (nI l.length)] h (mx_xct (.inl (some (.int (nuL l)))) h) := by
  have en : nuL l = if 1 ≤ l.length ∧ l.length ≤ 5 ∧ l.all isDg = true then nuV l else -1 := rfl
  refine b_X11_numberIn x _ ⟨fun c => ?_, fun c => ⟨fun c2 => ?_, fun c2 => ⟨hx, fun _ => ?_, fun c => absurd (nI_le hz hz2) c⟩⟩⟩
  · have := (nI_ltI (b := 1) (by omega) (by omega)).mp c
    rw [en, if_neg (fun g => by omega)]
    exact ⟨rfl, rfl⟩
  · have := (nI_ltI (a := 5) (by omega) (by omega)).mp c2
    rw [en, if_neg (fun g => by omega)]
    exact ⟨rfl, rfl⟩
  · have l1 : 1 ≤ l.length := Nat.le_of_not_lt fun g => c (nI_lt (b := 1) g (by omega))
    have l2 : l.length ≤ 5 := Nat.le_of_not_lt fun g => c2 (nI_lt (a := 5) g (by omega))
    exact k_X11_numberIn_22 hx hz hz2 hl l2 l1 _ 0 (Nat.zero_add _) rfl
/-- the name that has a status's digits -/
def nmO (x : Int32) : Int64 :=
  let a : Int64 := if x < 100 then 0 else (27 : Int64) + (((x / (100 : Int32)) - (x / (100 : Int32)) / (10 : Int32) * (10 : Int32)).toInt64)
  let b : Int64 := if x < 10 then a else (((37 : Int64) * a) + (27 : Int64)) + (((x / (10 : Int32)) - (x / (10 : Int32)) / (10 : Int32) * (10 : Int32)).toInt64)
  (((37 : Int64) * b) + (27 : Int64)) + ((x - x / (10 : Int32) * (10 : Int32)).toInt64)
theorem k_X1_nameOfNumber {c : Int32} : mx_SM mY_X1_nameOfNumber d [.int c] h (mx_xct (.inl (some (.long (nmO c)))) h) := by
  have t : ∀ a : Int64, a = (if c < 100 then 0 else (27 : Int64) + (((c / (100 : Int32)) - (c / (100 : Int32)) / (10 : Int32) * (10 : Int32)).toInt64)) → mx_SX mY_X1_nameOfNumber d 21 [(0, .int c), (1, .long a)] [] h (mx_xct (.inl (some (.long (nmO c)))) h) := fun a ea => by
    refine b_X1_nameOfNumber_21 c a ⟨fun g => b_X1_nameOfNumber_46 c _ ⟨?_, rfl⟩, fun g => b_X1_nameOfNumber_46 c _ ⟨?_, rfl⟩⟩
    · rw [nmO]
      simp only [if_pos g, ← ea]
    · rw [nmO]
      simp only [if_neg g, ← ea]
  exact b_X1_nameOfNumber c ⟨fun g => t _ (by rw [if_pos g]), fun g => t _ (by rw [if_neg g])⟩
end MXNA
