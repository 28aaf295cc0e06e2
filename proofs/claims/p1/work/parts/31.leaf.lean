/-! LEAVES: names of the reference's words, tables of the class -/
section MXLF
variable {d : Nat} {h : mxH}
theorem mx_xKL {Y : mxY} {As : List Value} {h' : mxH} {v : Int64} {r : mxRes} (k : mx_SM Y d As h (mx_xct (.inl (some (.long v))) h')) {P : Int64 → mxH → Prop} {X : String → mxH → Prop} (hp : P v h') : mx_SM Y d As h (mx_KL P X) :=
  k.mono fun r1 h1 q => Or.inl ⟨v, q.1, by rw [q.2]; exact hp⟩
def vOf (x : Int32) : Int64 := if x < 97 then ((x - 48) + 27).toInt64 else ((x - 97) + 1).toInt64
theorem k_X12_valueOf {x : Int32} : mx_SM mY_X12_valueOf d [.int x] h (mx_xct (.inl (some (.long (vOf x)))) h) :=
  b_X12_valueOf x ⟨fun c => ⟨by rw [vOf, if_pos c], rfl⟩, fun c => ⟨by rw [vOf, if_neg c], rfl⟩⟩
def nmf (i : Nat) : Nat → Int64
  | 0 => 0
  | j + 1 => 37 * nmf i j + vOf (mx_chr i j)
theorem k_X12_named_4 (hd : 4 ≤ d) {i : Nat} (hi : i < 36) : ∀ m j, j + m = mx_slen.getD i 0 → mx_SX mY_X12_named d 4 [(0, .ref (3 + i)), (1, .long (nmf i j)), (3, .int (nI j))] [] h (mx_xct (.inl (some (.long (nmf i (mx_slen.getD i 0))))) h) := by
  have hl := mx_slen_lt i hi
  intro m
  induction m with
  | zero =>
    intro j hj
    refine b_X12_named_4 (3 + i) (nmf i j) (nI j) ⟨i, hi, rfl, by omega, mx_xKI (r := .inl none) (s_length (by omega) hi) ⟨fun _ => ?_, fun c => absurd (nI_le (by omega) (by omega)) c⟩⟩
    have e : j = mx_slen.getD i 0 := by omega
    rw [e]
    exact ⟨rfl, rfl⟩
  | succ m ih =>
    intro j hj
    refine b_X12_named_4 (3 + i) (nmf i j) (nI j) ⟨i, hi, rfl, by omega, mx_xKI (r := .inl none) (s_length (by omega) hi) ⟨fun c => absurd c (nI_ge (by omega) (by omega)), fun _ => ?_⟩⟩
    refine mx_xKI (r := .inl none) (s_charAt (by omega) hi (by omega)) ?_
    refine mx_xKL (r := .inl none) k_X12_valueOf ?_
    rw [nI_1]
    exact ih (j + 1) (by omega)
/-- ShellCoreModel.named of a text -/
theorem k_X12_named (hd : 4 ≤ d) {i : Nat} (hi : i < 36) : mx_SM mY_X12_named d [.ref (3 + i)] h (mx_xct (.inl (some (.long (nmf i (mx_slen.getD i 0))))) h) :=
  b_X12_named (3 + i) (k_X12_named_4 hd hi _ 0 (Nat.zero_add _))
/-- the first place from j on, of m, that holds k; else -1 -/
def mx_ix (f : Nat → Int64) (k : Int64) : Nat → Nat → Int32
  | 0, _ => -1
  | m + 1, j => if f j = k then nI j else mx_ix f k m (j + 1)
theorem k_X9_find_2 {t b n : Nat} {k : Int64} (ht : hpK h t = 9) (hr : hpR h t 0 = some b) (hb : hpK h b = 15) (hn : hpI h t 2 = nI n) (hz : n ≤ hpZ h b) (hz2 : hpZ h b < 2 ^ 31) : ∀ m j, j + m = n → mx_SX mY_X9_find d 2 [(0, .ref t), (1, .long k), (3, .int (nI j))] [] h (mx_xct (.inl (some (.int (mx_ix (hpL h b) k m j)))) h) := by
  intro m
  induction m with
  | zero =>
    intro j hj
    refine b_X9_find_2 t k (nI j) ⟨ht, fun _ => ⟨rfl, rfl⟩, fun c => absurd ?_ c⟩
    rw [hn]; exact nI_le (by omega) (by omega)
  | succ m ih =>
    intro j hj
    refine b_X9_find_2 t k (nI j) ⟨ht, fun c => absurd c ?_, fun _ => ⟨b, hr, hb, fun c => absurd c (nI_ge (by omega) hz2), fun _ => ⟨vp_in_nI (by omega) hz2, ?_, ?_⟩⟩⟩
    · rw [hn]; exact nI_ge (by omega) (by omega)
    · intro c
      rw [nI_clamp (by omega), lg_cmp_eq] at c
      rw [nI_1, mx_ix, if_neg c]
      exact ih (j + 1) (by omega)
    · intro c
      rw [nI_clamp (by omega), lg_cmp_eq] at c
      rw [mx_ix, if_pos c]
      exact ⟨rfl, rfl⟩
/-- Table.find -/
theorem k_X9_find {t b n : Nat} {k : Int64} (ht : hpK h t = 9) (hr : hpR h t 0 = some b) (hb : hpK h b = 15) (hn : hpI h t 2 = nI n) (hz : n ≤ hpZ h b) (hz2 : hpZ h b < 2 ^ 31) : mx_SM mY_X9_find d [.ref t, .long k] h (mx_xct (.inl (some (.int (mx_ix (hpL h b) k n 0)))) h) :=
  b_X9_find t k (k_X9_find_2 ht hr hb hn hz hz2 n 0 (Nat.zero_add n))
theorem mx_ix_spec (f : Nat → Int64) (k : Int64) : ∀ m j, (∃ i, j ≤ i ∧ i < j + m ∧ f i = k ∧ (∀ q, j ≤ q → q < i → f q ≠ k) ∧ mx_ix f k m j = nI i) ∨ ((∀ q, j ≤ q → q < j + m → f q ≠ k) ∧ mx_ix f k m j = -1)
  | 0, j => Or.inr ⟨fun q h1 h2 => absurd h2 (by omega), rfl⟩
  | m + 1, j => by
    by_cases c : f j = k
    · exact Or.inl ⟨j, Nat.le_refl _, by omega, c, fun q h1 h2 => absurd h2 (by omega), by rw [mx_ix, if_pos c]⟩
    · rcases mx_ix_spec f k m (j + 1) with ⟨i, h1, h2, h3, h4, h5⟩ | ⟨h1, h2⟩
      · refine Or.inl ⟨i, by omega, by omega, h3, fun q q1 q2 => ?_, by rw [mx_ix, if_neg c]; exact h5⟩
        by_cases e : q = j
        · rw [e]; exact c
        · exact h4 q (by omega) q2
      · refine Or.inr ⟨fun q q1 q2 => ?_, by rw [mx_ix, if_neg c]; exact h2⟩
        by_cases e : q = j
        · rw [e]; exact c
        · exact h1 q (by omega) (by omega)
/-- Table.valueAt of a place that it has -/
theorem k_X9_valueAt {t b i : Nat} (ht : hpK h t = 9) (hr : hpR h t 1 = some b) (hb : hpK h b = 14) (hi : i < hpZ h b) (hz2 : hpZ h b < 2 ^ 31) : mx_SM mY_X9_valueAt d [.ref t, .int (nI i)] h (mx_xct (.inl (some (.int (hpI h b i)))) h) := by
  refine b_X9_valueAt t (nI i) ⟨fun c => absurd c (nI_pos (by omega)), fun _ => ⟨ht, b, hr, hb, fun c => absurd c (nI_ge hi hz2), fun _ => ⟨vp_in_nI hi hz2, ?_⟩⟩⟩
  rw [nI_clamp (by omega)]
  exact ⟨rfl, rfl⟩
end MXLF
