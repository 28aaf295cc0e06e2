/-! THE REFERENCE: an argument as a name, as a number, as a signal -/
section MXNA
variable {d : Nat} {h0 h : mxH} {w : spW} {G : List spE} {V : List (Option (Option Nat))} {P : List spX} {N : spN} {n m xs : Nat} {Q : mxRes → mxH → Prop}
theorem k_X12_in {x a b : Int32} : mx_SM mY_X12_in d [.int x, .int a, .int b] h (mx_xct (.inl (some (.int (if a ≤ x ∧ x ≤ b then 1 else 0)))) h) :=
  b_X12_in x a b ⟨fun c => ⟨by rw [if_neg (fun q => absurd c (Int32.not_lt.mpr q.1))], rfl⟩, fun c => ⟨fun c2 => ⟨by rw [if_neg (fun q => absurd c2 (Int32.not_lt.mpr q.2))], rfl⟩, fun c2 => ⟨by rw [if_pos ⟨Int32.not_lt.mp c, Int32.not_lt.mp c2⟩], rfl⟩⟩⟩
theorem k_X12_isLetter {c : Int32} : mx_SM mY_X12_isLetter d [.int c] h (mx_xct (.inl (some (.int (if isLt c = true then 1 else 0)))) h) := by
  have h12 : (decide (97 ≤ c) && decide (c ≤ 122)) = false → mx_SX mY_X12_isLetter d 12 [(0, .int c)] [] h (mx_xct (.inl (some (.int (if isLt c = true then 1 else 0)))) h) := fun hn => by
    refine b_X12_isLetter_12 c ⟨fun a => ?_, fun a => ⟨fun b => ?_, fun b => b_X12_isLetter_24 ?_⟩⟩
    · have e : isLt c = false := by rw [isLt, hn, decide_eq_false (Int32.not_le.mpr a)]; rfl
      rw [e]; exact ⟨rfl, rfl⟩
    · have e : isLt c = false := by rw [isLt, hn, decide_eq_false (Int32.not_le.mpr b), Bool.and_false]; rfl
      rw [e]; exact ⟨rfl, rfl⟩
    · have e : isLt c = true := by rw [isLt, hn, decide_eq_true (Int32.not_lt.mp a), decide_eq_true (Int32.not_lt.mp b)]; rfl
      rw [e]; exact ⟨rfl, rfl⟩
  refine b_X12_isLetter c ⟨fun a => h12 ?_, fun a => ⟨fun b => b_X12_isLetter_24 ?_, fun b => h12 ?_⟩⟩
  · rw [decide_eq_false (Int32.not_le.mpr a)]; rfl
  · have e : isLt c = true := by rw [isLt, decide_eq_true (Int32.not_lt.mp a), decide_eq_true b]; rfl
    rw [e]; exact ⟨rfl, rfl⟩
  · rw [decide_eq_false b, Bool.and_false]
theorem vOf_ltV {c : Int32} : vOf c = ltV c := by
  unfold vOf ltV
  by_cases q : c < 97
  · rw [if_pos q, if_neg (Int32.not_le.mpr q)]
  · rw [if_neg q, if_pos (Int32.not_lt.mp q)]
/-- the rows of an argument -/
def RA1 (h : mxH) (k b : Nat) (l : spL) : Prop := k < 400 ∧ hpI h 359 k = nI l.length ∧ hpI h 358 k = nI b ∧ b + l.length ≤ 30000 ∧ ∀ i (hi : i < l.length), hpI h 357 (b + i) = l[i] ∧ isB l[i]
theorem RA.at {as : List spL} (ra : RA h as) (h30 : as.flatten.length ≤ 30000) (hl : as.length ≤ 400) {k : Nat} (hk : k < as.length) : ∃ b, RA1 h k b as[k] := by
  obtain ⟨a1, a2, a3, a4⟩ := ra
  have e : as.flatten = (as.take k).flatten ++ (as[k] ++ (as.drop (k + 1)).flatten) := by
    rw [← List.flatten_cons, ← List.flatten_append, ← List.drop_eq_getElem_cons hk, List.take_append_drop]
  have lb : (as.take k).flatten.length + as[k].length ≤ as.flatten.length := by rw [e, List.length_append, List.length_append]; omega
  refine ⟨(as.take k).flatten.length, by omega, (a4 k hk).2, (a4 k hk).1, by omega, fun i hi => ?_⟩
  have : ∀ L : spL, as.flatten = L → L = (as.take k).flatten ++ (as[k] ++ (as.drop (k + 1)).flatten) → hpI h 357 ((as.take k).flatten.length + i) = as[k][i] ∧ isB as[k][i] := by
    intro L e1 e2
    have q := a3 ((as.take k).flatten.length + i) (by omega)
    have : as.flatten[(as.take k).flatten.length + i]'(by omega) = ((as.take k).flatten ++ (as[k] ++ (as.drop (k + 1)).flatten))[(as.take k).flatten.length + i]'(by rw [List.length_append, List.length_append]; omega) := by congr 1
    have e3 : as.flatten[(as.take k).flatten.length + i]'(by omega) = as[k][i] := by
      rw [this, List.getElem_append_right (by omega), List.getElem_append_left (by omega)]
      congr 1; omega
    rw [e3] at q
    exact q
  exact this _ rfl e
theorem nmV_snoc {l : spL} {c : Int32} : nmV (l ++ [c]) = 37 * nmV l + ltV c := by unfold nmV; rw [List.foldl_append]; rfl
theorem na_0 (s : SR h) {k b i : Nat} {l : spL} (ra : RA1 h k b l) {v : Int64} (K : Q (.inl (some (.long 0))) h) : mx_SX mY_X12_nameAt d 19 [(0, .ref 320), (1, .int (nI k)), (2, .long v), (4, .int 0), (5, .int (nI i))] [] h Q := by
  have K2 : mx_SX mY_X12_nameAt d 85 [(2, .long v), (4, .int 0)] [] h Q := b_X12_nameAt_85 _ _ ⟨fun _ => K, fun c => absurd rfl c⟩
  exact b_X12_nameAt_19 320 _ _ _ _ ⟨sr_k s, 359, sr_r76 s, sr_k359 s, by rw [sr_z359 s]; exact vp_in_nI ra.1 (by omega), fun _ => K2, fun _ => ⟨fun _ => K2, fun c => absurd rfl c⟩⟩
theorem na_1 (hd : 1 ≤ d) (s : SR h) {k b : Nat} {l : spL} (ra : RA1 h k b l) (K0 : l.all isLt = false → Q (.inl (some (.long 0))) h) (K1 : l.all isLt = true → Q (.inl (some (.long (nmV l)))) h) : ∀ m i, i + m = l.length → (l.take i).all isLt = true →
    mx_SX mY_X12_nameAt d 19 [(0, .ref 320), (1, .int (nI k)), (2, .long (nmV (l.take i))), (4, .int 1), (5, .int (nI i))] [] h Q := by
  obtain ⟨r1, r2, r3, r4, r5⟩ := id ra
  intro m
  induction m with
  | zero =>
    intro i hi ha
    have e : l.take i = l := List.take_of_length_le (by omega)
    rw [e] at ha ⊢
    refine b_X12_nameAt_19 320 _ _ _ _ ⟨sr_k s, 359, sr_r76 s, sr_k359 s, by rw [sr_z359 s]; exact vp_in_nI r1 (by omega), ?_⟩
    rw [nI_clamp (by omega), r2]
    exact ⟨fun _ => b_X12_nameAt_85 _ _ ⟨fun c => absurd c (by decide), fun _ => K1 ha⟩, fun c => absurd (nI_le (by omega) (by omega)) c⟩
  | succ m ih =>
    intro i hi ha
    refine b_X12_nameAt_19 320 _ _ _ _ ⟨sr_k s, 359, sr_r76 s, sr_k359 s, by rw [sr_z359 s]; exact vp_in_nI r1 (by omega), ?_⟩
    rw [nI_clamp (n := k) (by omega), r2]
    refine ⟨fun c => absurd c (nI_ge (by omega) (by omega)), fun _ => ⟨fun c => absurd c (by decide), fun _ => ⟨357, sr_r74 s, 358, sr_r75 s, sr_k358 s, by rw [sr_z358 s]; exact vp_in_nI r1 (by omega), sr_k357 s, ?_⟩⟩⟩
    rw [r3, nI_add, nI_clamp (n := b + i) (by omega), (r5 i (by omega)).1]
    refine ⟨by rw [sr_z357 s]; exact vp_in_nI (by omega) (by omega), hd, mx_xKI2 k_X12_isLetter ?_⟩
    rw [nI_1]
    cases e : isLt (l[i]'(by omega)) with
    | false =>
      have al : l.all isLt = false := by
        cases q : l.all isLt with
        | false => rfl
        | true =>
          have := List.all_eq_true.mp q (l[i]'(by omega)) (List.getElem_mem _)
          rw [e] at this; cases this
      refine ⟨fun _ => ?_, fun c => absurd rfl c⟩
      exact na_0 s ra (K0 al)
    | true =>
      refine ⟨fun c => absurd c (by decide), fun _ => mx_xKL2 k_X12_valueOf ?_⟩
      have t := List.take_succ_eq_append_getElem (l := l) (i := i) (by omega)
      have := ih (i + 1) (by omega) (by rw [t, List.all_append, ha]; simp [e])
      rw [t, nmV_snoc, ← vOf_ltV] at this
      exact this
/-- nameAt -/
theorem k_X12_nameAt (hd : 1 ≤ d) (s : SR h) {k b : Nat} {l : spL} (ra : RA1 h k b l) : mx_SM mY_X12_nameAt d [.ref 320, .int (nI k)] h (mx_xct (.inl (some (.long (nmL l)))) h) := by
  obtain ⟨r1, r2, r3, r4, r5⟩ := id ra
  refine b_X12_nameAt 320 _ ⟨sr_k s, 359, sr_r76 s, sr_k359 s, by rw [sr_z359 s]; exact vp_in_nI r1 (by omega), hd, mx_xKI2 k_X12_in ?_⟩
  rw [nI_clamp (by omega), r2]
  unfold nmL
  by_cases c : 1 ≤ l.length ∧ l.length ≤ 12
  · rw [if_pos ⟨nI_le (a := 1) c.1 (by omega), nI_le (b := 12) c.2 (by omega)⟩]
    exact na_1 hd s ra (fun q => ⟨by rw [if_neg (fun g => by rw [g.2.2] at q; cases q)], rfl⟩) (fun q => ⟨by rw [if_pos ⟨c.1, c.2, q⟩], rfl⟩) _ 0 (Nat.zero_add _) rfl
  · rw [if_neg (fun q => c ⟨(nI_leI (a := 1) (by omega) (by omega)).mp q.1, (nI_leI (b := 12) (by omega) (by omega)).mp q.2⟩)]
    exact na_0 (i := 0) s ra ⟨by rw [if_neg (fun g => c ⟨g.1, g.2.1⟩)], rfl⟩
def isDg (c : Int32) : Bool := decide (48 ≤ c) && decide (c ≤ 57)
def nuV (l : spL) : Int32 := l.foldl (fun v c => 10 * v + c - 48) 0
theorem nuV_snoc {l : spL} {c : Int32} : nuV (l ++ [c]) = 10 * nuV l + c - 48 := by unfold nuV; rw [List.foldl_append]; rfl
theorem nu_0 (s : SR h) {k b i : Nat} {l : spL} (ra : RA1 h k b l) {v : Int32} (K : Q (.inl (some (.int (-1)))) h) : mx_SX mY_X12_numberAt d 17 [(0, .ref 320), (1, .int (nI k)), (2, .int v), (3, .int 0), (4, .int (nI i))] [] h Q := by
  have K2 : mx_SX mY_X12_numberAt d 85 [(2, .int v), (3, .int 0)] [] h Q := b_X12_numberAt_85 _ _ ⟨fun _ => K, fun c => absurd rfl c⟩
  exact b_X12_numberAt_17 320 _ _ _ _ ⟨sr_k s, 359, sr_r76 s, sr_k359 s, by rw [sr_z359 s]; exact vp_in_nI ra.1 (by omega), fun _ => K2, fun _ => ⟨fun _ => K2, fun c => absurd rfl c⟩⟩
theorem nu_1 (s : SR h) {k b : Nat} {l : spL} (ra : RA1 h k b l) (K0 : l.all isDg = false → Q (.inl (some (.int (-1)))) h) (K1 : l.all isDg = true → Q (.inl (some (.int (nuV l)))) h) : ∀ m i, i + m = l.length → (l.take i).all isDg = true →
    mx_SX mY_X12_numberAt d 17 [(0, .ref 320), (1, .int (nI k)), (2, .int (nuV (l.take i))), (3, .int 1), (4, .int (nI i))] [] h Q := by
  obtain ⟨r1, r2, r3, r4, r5⟩ := id ra
  intro m
  induction m with
  | zero =>
    intro i hi ha
    have e : l.take i = l := List.take_of_length_le (by omega)
    rw [e] at ha ⊢
    refine b_X12_numberAt_17 320 _ _ _ _ ⟨sr_k s, 359, sr_r76 s, sr_k359 s, by rw [sr_z359 s]; exact vp_in_nI r1 (by omega), ?_⟩
    rw [nI_clamp (by omega), r2]
    exact ⟨fun _ => b_X12_numberAt_85 _ _ ⟨fun c => absurd c (by decide), fun _ => K1 ha⟩, fun c => absurd (nI_le (by omega) (by omega)) c⟩
  | succ m ih =>
    intro i hi ha
    refine b_X12_numberAt_17 320 _ _ _ _ ⟨sr_k s, 359, sr_r76 s, sr_k359 s, by rw [sr_z359 s]; exact vp_in_nI r1 (by omega), ?_⟩
    rw [nI_clamp (n := k) (by omega), r2]
    have bad : isDg (l[i]'(by omega)) = false → mx_SX mY_X12_numberAt d 66 [(0, .ref 320), (1, .int (nI k)), (2, .int (nuV (l.take i))), (4, .int (nI i)), (5, .int (l[i]'(by omega)))] [] h Q := fun e => by
      have al : l.all isDg = false := by
        cases q : l.all isDg with
        | false => rfl
        | true =>
          have := List.all_eq_true.mp q (l[i]'(by omega)) (List.getElem_mem _)
          rw [e] at this; cases this
      refine b_X12_numberAt_66 320 _ _ _ _ ?_
      rw [nI_1]
      exact nu_0 s ra (K0 al)
    refine ⟨fun c => absurd c (nI_ge (by omega) (by omega)), fun _ => ⟨fun c => absurd c (by decide), fun _ => ⟨357, sr_r74 s, 358, sr_r75 s, sr_k358 s, by rw [sr_z358 s]; exact vp_in_nI r1 (by omega), sr_k357 s, ?_⟩⟩⟩
    rw [r3, nI_add, nI_clamp (n := b + i) (by omega), (r5 i (by omega)).1, nI_1]
    refine ⟨by rw [sr_z357 s]; exact vp_in_nI (by omega) (by omega), fun c => bad ?_, fun c => ⟨fun c2 => bad ?_, fun c2 => ?_⟩⟩
    · rw [isDg, decide_eq_false (Int32.not_le.mpr c)]; rfl
    · rw [isDg, decide_eq_false (Int32.not_le.mpr c2), Bool.and_false]
    · have e : isDg (l[i]'(by omega)) = true := by rw [isDg, decide_eq_true (Int32.not_lt.mp c), decide_eq_true (Int32.not_lt.mp c2)]; rfl
      have t := List.take_succ_eq_append_getElem (l := l) (i := i) (by omega)
      have := ih (i + 1) (by omega) (by rw [t, List.all_append, ha]; simp [e])
      rw [t, nuV_snoc] at this
      exact this
theorem k_X12_numberAt (hd : 1 ≤ d) (s : SR h) {k b : Nat} {l : spL} (ra : RA1 h k b l) : mx_SM mY_X12_numberAt d [.ref 320, .int (nI k)] h (mx_xct (.inl (some (.int (nuL l)))) h) := by
  obtain ⟨r1, r2, r3, r4, r5⟩ := id ra
  refine b_X12_numberAt 320 _ ⟨sr_k s, 359, sr_r76 s, sr_k359 s, by rw [sr_z359 s]; exact vp_in_nI r1 (by omega), hd, mx_xKI2 k_X12_in ?_⟩
  rw [nI_clamp (by omega), r2]
  have en : nuL l = if 1 ≤ l.length ∧ l.length ≤ 5 ∧ l.all isDg = true then nuV l else -1 := rfl
  rw [en]
  by_cases c : 1 ≤ l.length ∧ l.length ≤ 5
  · rw [if_pos ⟨nI_le (a := 1) c.1 (by omega), nI_le (b := 5) c.2 (by omega)⟩]
    exact nu_1 s ra (fun q => ⟨by rw [if_neg (fun g => by rw [g.2.2] at q; cases q)], rfl⟩) (fun q => ⟨by rw [if_pos ⟨c.1, c.2, q⟩], rfl⟩) _ 0 (Nat.zero_add _) rfl
  · rw [if_neg (fun q => c ⟨(nI_leI (a := 1) (by omega) (by omega)).mp q.1, (nI_leI (b := 5) (by omega) (by omega)).mp q.2⟩)]
    exact nu_0 (i := 0) s ra ⟨by rw [if_neg (fun g => c ⟨g.1, g.2.1⟩)], rfl⟩
theorem k_X12_signalAt (hd : 2 ≤ d) (s : SR h) {k b : Nat} {l : spL} (ra : RA1 h k b l) : mx_SM mY_X12_signalAt d [.ref 320, .int (nI k)] h (mx_xct (.inl (some (.int (ixI (sigK (nmL l)))))) h) := by
  refine b_X12_signalAt 320 _ ⟨by omega, sr_k s, mx_xKL2 (k_X12_nameAt (by omega) s ra) ⟨sr_k s, ?_⟩⟩
  rw [lg_cmp_eq, lg_cmp_eq, lg_cmp_eq, lg_cmp_eq, sr_l25 s, sr_l26 s, sr_l27 s, sr_l19 s]
  have e : ∀ v : Int64, sigK v = if v = 11745 then some 0 else if v = 12859 then some 1 else if v = 1020584 then some 2 else if v = 286474 then some 3 else none := fun v => by
    unfold sigK sigNames
    simp only [List.findIdx?_cons, List.findIdx?_nil, decide_eq_true_eq, eq_comm (b := v)]
    by_cases c1 : v = 11745
    · simp [c1]
    by_cases c2 : v = 12859
    · simp [c2]
    by_cases c3 : v = 1020584
    · simp [c3]
    by_cases c4 : v = 286474
    · simp [c4]
    simp [c1, c2, c3, c4]
  rw [e]
  refine ⟨fun c1 => ⟨fun c2 => ⟨fun c3 => ⟨fun c4 => ?_, fun c4 => ?_⟩, fun c3 => ?_⟩, fun c2 => ?_⟩, fun c1 => ?_⟩
  · rw [if_neg c1, if_neg c2, if_neg c3, if_neg c4]; exact ⟨rfl, rfl⟩
  · rw [if_neg c1, if_neg c2, if_neg c3, if_pos c4]; exact ⟨rfl, rfl⟩
  · rw [if_neg c1, if_neg c2, if_pos c3]; exact ⟨rfl, rfl⟩
  · rw [if_neg c1, if_pos c2]; exact ⟨rfl, rfl⟩
  · rw [if_pos c1]; exact ⟨rfl, rfl⟩
end MXNA
