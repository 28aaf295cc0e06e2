/-! THE REFERENCE: words and numbers as texts -/
section MXAR
variable {d : Nat} {h0 h h' : mxH} {w : spW} {G : List spE} {V : List (Option (Option Nat))} {P : List spX} {N : spN} {n m xs : Nat} {Q : mxRes → mxH → Prop}
theorem byte2 (x : Int32) : isB x.toInt8.toInt32 := by
  show (x.toInt8.toInt32).toInt8.toInt32 = x.toInt8.toInt32
  rw [Int8.toInt8_toInt32]
/-- rows of the arguments alone differ -/
def Sa (h h' : mxH) : Prop := (hpN h' = hpN h ∧ hpC h' = hpC h ∧ hpS h' = hpS h ∧ hpK h' = hpK h ∧ hpZ h' = hpZ h ∧ hpR h' = hpR h ∧ hpL h' = hpL h) ∧
  (∀ a, a ≠ 320 → a ≠ 357 → a ≠ 358 → a ≠ 359 → a ≠ 360 → hpI h' a = hpI h a) ∧ ∀ k, k ≠ 77 → k ≠ 78 → hpI h' 320 k = hpI h 320 k
theorem Sa.rf : Sa h h := ⟨⟨rfl, rfl, rfl, rfl, rfl, rfl, rfl⟩, fun _ _ _ _ _ _ => rfl, fun _ _ _ => rfl⟩
theorem Sa.tr {h1 h2 : mxH} (a : Sa h h1) (b : Sa h1 h2) : Sa h h2 := by
  obtain ⟨⟨a1, a2, a3, a4, a5, a6, a7⟩, a8, a9⟩ := a
  obtain ⟨⟨b1, b2, b3, b4, b5, b6, b7⟩, b8, b9⟩ := b
  exact ⟨⟨b1.trans a1, b2.trans a2, b3.trans a3, b4.trans a4, b5.trans a5, b6.trans a6, b7.trans a7⟩, fun a h1 h2 h3 h4 h5 => (b8 a h1 h2 h3 h4 h5).trans (a8 a h1 h2 h3 h4 h5), fun k h1 h2 => (b9 k h1 h2).trans (a9 k h1 h2)⟩
theorem Sa.sI {a k : Nat} {v : Int32} (ha : a = 357 ∨ a = 358 ∨ a = 359 ∨ a = 360) : Sa h (hsI h a k v) :=
  ⟨⟨rfl, rfl, rfl, rfl, rfl, rfl, rfl⟩, fun b h1 h2 h3 h4 h5 => hpI_sIo (by omega), fun j _ _ => by rw [hpI_sIo (by omega)]⟩
theorem Sa.sF {k : Nat} {v : Int32} (hk : k = 77 ∨ k = 78) : Sa h (hsI h 320 k v) :=
  ⟨⟨rfl, rfl, rfl, rfl, rfl, rfl, rfl⟩, fun b h1 h2 h3 h4 h5 => hpI_sIo h1, fun j h1 h2 => by rw [hpI_sIs, fup_n (by omega)]⟩
theorem Sa.sr (q : Sa h h') (s : SR h) : SR h' := by
  obtain ⟨⟨a1, a2, a3, a4, a5, a6, a7⟩, -⟩ := q
  unfold SR at s ⊢
  rw [a4, a5, a6, a7]; exact s
theorem RG.sa (r : RG h0 h w G V P N n m xs) (q : Sa h h') : RG h0 h' w G V P N n m xs := by
  obtain ⟨A, B, Qs, fr, sr, hw, ht, ho, hp, he, hv, hk, hc, hd, hz, hN⟩ := r
  have sr' := q.sr sr
  obtain ⟨⟨a1, a2, a3, a4, a5, a6, a7⟩, a8, a9⟩ := q
  have I : ∀ a, a ≠ 320 → a ≠ 357 → a ≠ 358 → a ≠ 359 → a ≠ 360 → hpI h' a = hpI h a := a8
  have rl : RLn h' = RLn h := by
    show RLr (hpI h' 339) (hpI h' 340) (hpI h' 341) = _
    rw [I 339 (by decide) (by decide) (by decide) (by decide) (by decide), I 340 (by decide) (by decide) (by decide) (by decide) (by decide), I 341 (by decide) (by decide) (by decide) (by decide) (by decide)]
  refine ⟨A, B, Qs, ?_, sr', ?_⟩
  · obtain ⟨⟨f1, f2, f3, f4, f5, f6⟩, f7, f8, f9⟩ := fr
    refine ⟨⟨a1.trans f1, a2.trans f2, a3.trans f3, a4.trans f4, a5.trans f5, a6.trans f6⟩, fun a h1 h2 => ?_, fun a h1 => by rw [a7]; exact f8 a h1, fun k hk => ?_⟩
    · have n1 : a ≠ 357 := fun e => by rw [e] at h2; cases h2
      have n2 : a ≠ 358 := fun e => by rw [e] at h2; cases h2
      have n3 : a ≠ 359 := fun e => by rw [e] at h2; cases h2
      have n4 : a ≠ 360 := fun e => by rw [e] at h2; cases h2
      rw [I a h1 n1 n2 n3 n4]; exact f7 a h1 h2
    · have n1 : k ≠ 77 := fun e => by rw [e] at hk; cases hk
      have n2 : k ≠ 78 := fun e => by rw [e] at hk; cases hk
      rw [a9 k n1 n2]; exact f9 k hk
  · rw [rl, a7, a9 55 (by decide) (by decide), a9 66 (by decide) (by decide), a9 67 (by decide) (by decide), a9 69 (by decide) (by decide), a9 82 (by decide) (by decide)]
    rw [I 342 (by decide) (by decide) (by decide) (by decide) (by decide), I 356 (by decide) (by decide) (by decide) (by decide) (by decide), I 344 (by decide) (by decide) (by decide) (by decide) (by decide), I 345 (by decide) (by decide) (by decide) (by decide) (by decide), I 346 (by decide) (by decide) (by decide) (by decide) (by decide), I 347 (by decide) (by decide) (by decide) (by decide) (by decide), I 348 (by decide) (by decide) (by decide) (by decide) (by decide), I 349 (by decide) (by decide) (by decide) (by decide) (by decide), I 350 (by decide) (by decide) (by decide) (by decide) (by decide), I 351 (by decide) (by decide) (by decide) (by decide) (by decide), I 354 (by decide) (by decide) (by decide) (by decide) (by decide), I 352 (by decide) (by decide) (by decide) (by decide) (by decide), I 361 (by decide) (by decide) (by decide) (by decide) (by decide)]
    exact ⟨hw, ht, ho, hp, he, hv, hk, hc, hd, hz, hN⟩
/-- a text comes behind the texts of the arguments -/
def Say (h : mxH) (e : Nat) (l : spL) (h' : mxH) : Prop := Sa h h' ∧ (∀ j, j < e → hpI h' 357 j = hpI h 357 j) ∧ (∀ i (hi : i < l.length), hpI h' 357 (e + i) = l[i] ∧ isB l[i]) ∧ hpI h' 320 78 = nI (e + l.length) ∧ hpI h' 358 = hpI h 358 ∧ hpI h' 359 = hpI h 359 ∧ hpI h' 320 77 = hpI h 320 77
theorem Say.tr {e : Nat} {l l2 : spL} {h1 h2 : mxH} (a : Say h e l h1) (b : Say h1 (e + l.length) l2 h2) : Say h e (l ++ l2) h2 := by
  obtain ⟨a1, a2, a3, a4, a5, a6, a7⟩ := a
  obtain ⟨b1, b2, b3, b4, b5, b6, b7⟩ := b
  refine ⟨a1.tr b1, fun j hj => (b2 j (by omega)).trans (a2 j hj), fun i hi => ?_, by rw [b4, List.length_append]; congr 1; omega, b5.trans a5, b6.trans a6, b7.trans a7⟩
  by_cases c : i < l.length
  · rw [List.getElem_append_left c, b2 _ (by omega)]; exact a3 i c
  · rw [List.length_append] at hi
    rw [List.getElem_append_right (by omega)]
    have := b3 (i - l.length) (by omega)
    rw [show e + l.length + (i - l.length) = e + i by omega] at this
    exact this
theorem Say.one (s : SR h) {e : Nat} {c : Int32} (hc : isB c) : Say h e [c] (hsI (hsI h 357 e c) 320 78 (nI (e + 1))) := by
  refine ⟨(Sa.sI (Or.inl rfl)).tr (Sa.sF (Or.inr rfl)), fun j hj => by rw [hpI_sIo (by decide), hpI_sIs, fup_n (by omega)], fun i hi => ?_, by rw [hpI_sIs, fup_e]; rfl, by rw [hpI_sIo (by decide), hpI_sIo (by decide)], by rw [hpI_sIo (by decide), hpI_sIo (by decide)], by rw [hpI_sIs, fup_n (by decide), hpI_sIo (by decide)]⟩
  have e0 : i = 0 := by simpa using hi
  subst e0
  refine ⟨?_, hc⟩
  rw [hpI_sIo (by decide), hpI_sIs, Nat.add_zero, fup_e]; rfl
theorem sw_17 (s : SR h) {e : Nat} {v : Int64} (he : hpI h 320 78 = nI e) (he2 : e < 30000) (K : ∀ h1, Say h e [chrV (v - v / 37 * 37).toInt32] h1 → Q (.inl none) h1) : mx_SX mY_X12_saysWord d 17 [(0, .ref 320), (1, .long v)] [] h Q := by
  refine b_X12_saysWord_17 320 _ ⟨sr_k s, 357, sr_r74 s, fun c => ?_, fun c => ?_⟩
  · rw [he, nI_clamp (by omega), byte2]
    refine ⟨sr_k357 s, by rw [sr_z357 s]; exact vp_in_nI he2 (by omega), ?_⟩
    rintro _ rfl
    rw [hpI_sIo (by decide), he, nI_1]
    rintro _ rfl
    have := K _ (Say.one s (e := e) (c := chrV (v - v / 37 * 37).toInt32) (byte2 _))
    rw [chrV, if_pos c] at this
    exact this
  · rw [he, nI_clamp (by omega), byte2]
    refine ⟨sr_k357 s, by rw [sr_z357 s]; exact vp_in_nI he2 (by omega), ?_⟩
    rintro _ rfl
    rw [hpI_sIo (by decide), he, nI_1]
    rintro _ rfl
    have := K _ (Say.one s (e := e) (c := chrV (v - v / 37 * 37).toInt32) (byte2 _))
    rw [chrV, if_neg c] at this
    exact this
/-- a name that has at most n digits -/
def fitW : Nat → Int64 → Prop
  | 0, _ => False
  | n + 1, v => 37 ≤ v → fitW n (v / 37)
theorem spell_len : ∀ n v, (spell n v).length ≤ n
  | 0, _ => Nat.le_refl _
  | n + 1, v => by
    unfold spell
    rw [List.length_append]
    split
    · have := spell_len n (v / 37); simp; omega
    · simp
theorem k_X12_saysWord : ∀ n (h : mxH) (d e : Nat) (v : Int64), SR h → n ≤ d → fitW n v → hpI h 320 78 = nI e → e + n ≤ 30000 → mx_SM mY_X12_saysWord d [.ref 320, .long v] h (mx_KV (Say h e (spell n v)) fun _ _ => False) := by
  intro n
  induction n with
  | zero => intro h d e v s hd hf; exact hf.elim
  | succ n ih =>
    intro h d e v s hd hf he he2
    refine b_X12_saysWord 320 _ ⟨fun c => ?_, fun c => ⟨by omega, sr_k s, ?_⟩⟩
    · rw [lg_cmp_lt] at c
      refine sw_17 s he (by omega) fun h1 r => Or.inl ⟨rfl, ?_⟩
      unfold spell
      rw [if_neg (fun q => by exact absurd c (Int64.not_lt.mpr q))]
      exact r
    · rw [lg_cmp_lt] at c
      have ge : 37 ≤ v := Int64.not_lt.mp c
      refine mx_uV (ih h (d - 1) e (v / 37) s (by omega) (hf ge) he (by omega)) fun h1 r1 => ?_
      have := spell_len n (v / 37)
      refine sw_17 (r1.1.sr s) r1.2.2.2.1 (by omega) fun h2 r2 => Or.inl ⟨rfl, ?_⟩
      unfold spell
      rw [if_pos ge]
      exact r1.tr r2
theorem nI_byte : ∀ k, k < 128 → (nI k).toInt8.toInt32 = nI k := by decide +kernel
theorem sn_14 (s : SR h) {e v : Nat} (hv : v < 2 ^ 31) (he : hpI h 320 78 = nI e) (he2 : e < 30000) (K : ∀ h1, Say h e [nI (48 + v % 10)] h1 → Q (.inl none) h1) : mx_SX mY_X12_saysNumber d 14 [(0, .ref 320), (1, .int (nI v))] [] h Q := by
  refine b_X12_saysNumber_14 320 _ ⟨sr_k s, 357, sr_r74 s, sr_k357 s, ?_⟩
  have e1 : nI v - nI v / 10 * 10 = nI (v % 10) := pk_rem (d := 10) hv (by omega) (by omega)
  have e2 : (48 : Int32) + nI (v % 10) = nI (48 + v % 10) := nI_add 48 _
  rw [he, nI_clamp (by omega), e1, e2, nI_byte _ (by omega), nI_byte _ (by omega)]
  refine ⟨by rw [sr_z357 s]; exact vp_in_nI he2 (by omega), ?_⟩
  rintro _ rfl
  rw [hpI_sIo (by decide), he, nI_1]
  rintro _ rfl
  exact K _ (Say.one s (nI_byte _ (by omega)))
theorem digits_len : ∀ n v, (digits n v).length ≤ n
  | 0, _ => Nat.le_refl _
  | n + 1, v => by
    unfold digits
    rw [List.length_append]
    split
    · have := digits_len n (v / 10); simp; omega
    · simp
theorem k_X12_saysNumber : ∀ n (h : mxH) (d e : Nat) (v : Nat), SR h → n ≤ d → v < 10 ^ n → v < 2 ^ 31 → 0 < n → hpI h 320 78 = nI e → e + n ≤ 30000 → mx_SM mY_X12_saysNumber d [.ref 320, .int (nI v)] h (mx_KV (Say h e (digits n v)) fun _ _ => False) := by
  intro n
  induction n with
  | zero => intro h d e v s hd hf _ h0; exact absurd h0 (Nat.lt_irrefl _)
  | succ n ih =>
    intro h d e v s hd hf hv _ he he2
    refine b_X12_saysNumber 320 _ ⟨fun c => ?_, fun c => ⟨by omega, sr_k s, ?_⟩⟩
    · have c' : v ≤ 9 := (nI_leI (b := 9) hv (by omega)).mp c
      refine sn_14 s hv he (by omega) fun h1 r => Or.inl ⟨rfl, ?_⟩
      unfold digits
      rw [if_neg (by omega)]
      exact r
    · have c' : 9 < v := by
        rcases Nat.lt_or_ge 9 v with g | g
        · exact g
        · exact absurd (nI_le (b := 9) g (by omega)) c
      have ed : nI v / 10 = nI (v / 10) := pk_div (d := 10) hv (by omega) (by omega)
      rw [ed]
      have h10 : v / 10 < 10 ^ n := by rw [Nat.pow_succ] at hf; omega
      have n0 : 0 < n := by
        rcases Nat.eq_zero_or_pos n with e | e
        · subst e; simp at h10; omega
        · exact e
      refine mx_uV (ih h (d - 1) e (v / 10) s (by omega) h10 (by omega) n0 he (by omega)) fun h1 r1 => ?_
      have := digits_len n (v / 10)
      refine sn_14 (r1.1.sr s) hv r1.2.2.2.1 (by omega) fun h2 r2 => Or.inl ⟨rfl, ?_⟩
      unfold digits
      rw [if_pos c']
      exact r1.tr r2
end MXAR
