/-! THE REFERENCE: cat, exit, trap, set, an assignment, a definition -/
section MXCT
variable {d : Nat} {h0 h : mxH} {w : spW} {G : List spE} {V : List (Option (Option Nat))} {P : List spX} {N : spN} {n m xs : Nat} {Q : mxRes → mxH → Prop} {Z : List (Int32 × Nat)} {s : Nat} {S : spS} {js : List Nat}
theorem sum_set {α : Type} (f : α → Nat) : ∀ (l : List α) (i : Nat) (x d : α), i < l.length → ((l.set i x).map f).sum + f (l.getD i d) = (l.map f).sum + f x
  | [], i, x, d, h => absurd h (Nat.not_lt_zero _)
  | a :: l, 0, x, d, h => by simp; omega
  | a :: l, i + 1, x, d, h => by
    have := sum_set f l i x d (Nat.lt_of_succ_lt_succ h)
    simp only [List.set_cons_succ, List.map_cons, List.sum_cons, List.getD_cons_succ]
    omega
theorem mod256 {j : Nat} (hj : j < 100000) : nI j % 256 = nI (j % 256) := by
  unfold nI
  apply Int32.toInt_inj.mp
  rw [Int32.toInt_mod]
  have e1 : (Int32.ofNat j).toInt = j := by
    rw [Int32.toInt_ofNat']
    simp [Int.bmod]; omega
  have e2 : (Int32.ofNat (j % 256)).toInt = (j % 256 : Nat) := by
    rw [Int32.toInt_ofNat']
    simp [Int.bmod]; omega
  have e3 : (256 : Int32).toInt = 256 := by decide
  rw [e1, e2, e3]
  rw [Int.tmod_eq_emod_of_nonneg (by omega)]
  omega
/-- how many lines can still be read -/
def pot (w : spW) (oh : Option Nat) : Nat := match oh with
  | none => 0
  | some o => if ((wO w).getD o (0, 0, 0)).1 = 1 then (wI w).length else if ((wO w).getD o (0, 0, 0)).1 = 2 then 40 - ((wO w).getD o (0, 0, 0)).2.2 else 0
theorem totU_set {p : Nat} {x : List spL} (hp : p < (wU w).length) : totU (uU w ((wU w).set p x)) + ((wU w).getD p []).length = totU w + x.length := sum_set (fun l : List spL => l.length) (wU w) p x [] hp
theorem gd_out {α : Type} {l : List α} {i : Nat} {d : α} (h : l.length ≤ i) : l.getD i d = d := by rw [List.getD_eq_getElem?_getD, List.getElem?_eq_none h]; rfl
theorem getD_lt {α : Type} {l : List α} {i : Nat} {d : α} (h : l.getD i d ≠ d) : i < l.length := by
  rcases Nat.lt_or_ge i l.length with g | g
  · exact g
  · exact absurd (gd_out g) h
theorem rd_pot {oh : Option Nat} {bg : Bool} (hF : ∀ i, (lnsOf w i).length ≤ 40) (h : (rdLine w oh bg).1.1 = 0) : totU (rdLine w oh bg).2 + pot (rdLine w oh bg).2 oh + 1 = totU w + pot w oh ∧ totU (rdLine w oh bg).2 ≤ totU w := by
  cases oh with
  | none => unfold rdLine at h; cases h
  | some o =>
    unfold rdLine at h ⊢
    simp only [] at h ⊢
    by_cases c1 : ((wO w).getD o (0, 0, 0)).1 = 1
    · rw [if_pos c1] at h ⊢
      cases bg with
      | true => rw [if_pos rfl] at h; cases h
      | false =>
        rw [if_neg (by decide)] at h ⊢
        cases e : wI w with
        | nil => rw [e] at h; cases h
        | cons l r =>
          simp only []
          unfold pot
          simp only []
          rw [if_pos c1, if_pos c1, e]
          exact ⟨rfl, Nat.le_refl _⟩
    · rw [if_neg c1] at h ⊢
      by_cases c2 : ((wO w).getD o (0, 0, 0)).1 = 2
      · rw [if_pos c2] at h ⊢
        cases e : ((wF w).getD ((wO w).getD o (0, 0, 0)).2.1 (0, [])).2[((wO w).getD o (0, 0, 0)).2.2]? with
        | none => rw [e] at h; cases h
        | some l =>
          simp only []
          have ho : o < (wO w).length := getD_lt (d := (0, 0, 0)) (fun q => by rw [q] at c2; cases c2)
          have lt := (List.getElem?_eq_some_iff.mp e).1
          have l40 := hF ((wO w).getD o (0, 0, 0)).2.1
          refine ⟨?_, Nat.le_refl _⟩
          have hp : ((wO w).getD o (0, 0, 0)).2.2 < 40 := Nat.lt_of_lt_of_le lt l40
          unfold pot
          simp only []
          rw [if_neg c1, if_pos c2, getD_set_self ho, if_neg (by rw [c2]; decide), if_pos c2]
          show totU w + (40 - (((wO w).getD o (0, 0, 0)).2.2 + 1)) + 1 = _
          omega
      · rw [if_neg c2] at h ⊢
        by_cases c5 : ((wO w).getD o (0, 0, 0)).1 = 5
        · rw [if_pos c5] at h ⊢
          cases e : (wU w).getD ((wO w).getD o (0, 0, 0)).2.1 [] with
          | nil => rw [e] at h; cases h
          | cons l r =>
            simp only []
            have hp : ((wO w).getD o (0, 0, 0)).2.1 < (wU w).length := getD_lt (d := []) (by rw [e]; exact List.cons_ne_nil _ _)
            have t := totU_set (x := r) hp
            rw [e, List.length_cons] at t
            unfold pot
            simp only []
            rw [if_neg c1, if_neg c2]
            omega
        · rw [if_neg c5] at h; cases h
theorem wr_pot {oh oh' : Option Nat} {l : spL} : totU (wrLine w oh' l).2 ≤ totU w + 1 ∧ pot (wrLine w oh' l).2 oh ≤ pot w oh := by
  have z : totU w ≤ totU w + 1 ∧ pot w oh ≤ pot w oh := ⟨by omega, Nat.le_refl _⟩
  cases oh' with
  | none => exact z
  | some o' =>
    unfold wrLine
    simp only []
    by_cases c1 : ((wO w).getD o' (0, 0, 0)).1 = 1
    · rw [if_pos c1]
      split
      · exact z
      · refine ⟨by show totU w ≤ _; omega, ?_⟩
        cases oh with
        | none => exact Nat.le_refl _
        | some o => exact Nat.le_refl _
    · rw [if_neg c1]
      by_cases c3 : ((wO w).getD o' (0, 0, 0)).1 = 3
      · rw [if_pos c3]
        split
        · exact z
        · refine ⟨by show totU w ≤ _; omega, ?_⟩
          cases oh with
          | none => exact Nat.le_refl _
          | some o =>
            have ho : o' < (wO w).length := getD_lt (d := (0, 0, 0)) (fun q => by rw [q] at c3; cases c3)
            unfold pot
            simp only []
            by_cases e : o' = o
            · subst e
              rw [getD_set_self ho, if_neg (by rw [c3]; decide), if_neg (by rw [c3]; decide)]
              exact Nat.zero_le _
            · rw [getD_set_ne e]; exact Nat.le_refl _
      · rw [if_neg c3]
        by_cases c4 : ((wO w).getD o' (0, 0, 0)).1 = 4
        · rw [if_pos c4]
          split
          · exact z
          · refine ⟨by show totU w ≤ _; omega, ?_⟩
            cases oh with
            | none => exact Nat.le_refl _
            | some o => exact Nat.le_refl _
        · rw [if_neg c4]
          by_cases c6 : ((wO w).getD o' (0, 0, 0)).1 = 6
          · rw [if_pos c6]
            refine ⟨?_, ?_⟩
            · by_cases hp : ((wO w).getD o' (0, 0, 0)).2.1 < (wU w).length
              · have t := totU_set (x := (wU w).getD ((wO w).getD o' (0, 0, 0)).2.1 [] ++ [l]) hp
                rw [List.length_append, List.length_singleton] at t
                simp only []
                omega
              · simp only []
                rw [List.set_eq_of_length_le (by omega)]
                show totU w ≤ _; omega
            · cases oh with
              | none => exact Nat.le_refl _
              | some o => exact Nat.le_refl _
          · rw [if_neg c6]; exact z
theorem RG.f40 (r : RG h0 h w G V P N n m xs) (i : Nat) : (lnsOf w i).length ≤ 40 := by
  by_cases c : i < (wF w).length
  · exact (r.rw1.at c).2.1
  · show ((wF w).getD i (0, [])).2.length ≤ 40
    rw [gd_out (by omega)]; decide
theorem cp_16 (hd : 5 ≤ d) (hxs : s ≠ xs) : ∀ k (w : spW) (h : mxH) (v : Int32), rdP h0 w G V P [] [] Z n m xs s S js (rdLine w (fH S.1 0) (fG S.1)) v h → totU w + pot w (fH S.1 0) < 13000 → (∀ i, (lnsOf w i).length ≤ 40) → ∀ r, catN k w S.1 = some r →
    mx_SX mY_X12_copies d 16 [(0, .ref 320), (1, .int (nI s)), (2, .int v)] [] h (mx_KI (RBr h0 G V P Z n m xs s S js (r.1, r.2, S.1)) fun _ _ => False) := by
  intro k
  induction k with
  | zero => intro w h v _ _ _ r hr; cases hr
  | succ k ih =>
    intro w h v q ht hF r hr
    unfold catN at hr
    simp only [] at hr
    have neg1 : (-1 : Int32) < 0 := by decide
    have neg2 : (-2 : Int32) < 0 := by decide
    rcases q with ⟨k1, ⟨i, rfl, ki⟩, k2⟩ | ⟨k1, rfl, k2⟩ | ⟨k1, rfl, k2⟩ | ⟨k1, rfl, k2⟩
    · rw [if_neg (by omega), if_neg (by omega), if_neg (by omega)] at hr
      obtain ⟨p1, p2⟩ := rd_pot (bg := fG S.1) hF k1
      obtain ⟨p3, p4⟩ := wr_pot (w := (rdLine w (fH S.1 0) (fG S.1)).2) (oh := fH S.1 0) (oh' := fH S.1 1) (l := (rdLine w (fH S.1 0) (fG S.1)).1.2)
      refine b_X12_copies_16 320 _ _ ⟨fun c => absurd c (nI_pos (by omega)), fun _ => ⟨by omega, sr_k k2.sr, mx_uI (k_X12_writes (by omega) k2 hxs List.mem_cons_self (by omega)) ?_⟩⟩
      rintro b h2 ⟨rfl, r3⟩
      have r4 : RG h0 h2 (wrLine (rdLine w (fH S.1 0) (fG S.1)).2 (fH S.1 1) (rdLine w (fH S.1 0) (fG S.1)).1.2).2 ((s, S, js) :: G) V P ([], [], Z) n m xs := r3.drop (fun _ h => absurd h List.not_mem_nil) (fun _ h => h) (fun _ h => h)
      cases e : (wrLine (rdLine w (fH S.1 0) (fG S.1)).2 (fH S.1 1) (rdLine w (fH S.1 0) (fG S.1)).1.2).1 with
      | true =>
        rw [if_pos e] at hr
        refine ⟨fun _ => ⟨sr_k r4.sr, mx_uI (k_X12_reads (by omega) r4 hxs) fun v2 h3 q3 => ?_⟩, fun c => absurd c (by decide)⟩
        exact ih _ h3 v2 q3 (by omega) r4.f40 r hr
      | false =>
        rw [if_neg (by rw [e]; decide)] at hr
        cases hr
        exact ⟨fun c => absurd rfl c, fun _ => Or.inl ⟨_, rfl, Or.inl ⟨by show (1 : Int32) ≠ -2; decide, rfl, r4⟩⟩⟩
    · rw [if_neg (by omega), if_neg (by omega), if_pos k1] at hr
      cases hr
      exact b_X12_copies_16 320 _ _ ⟨fun _ => ⟨fun c => absurd rfl c, fun _ => Or.inl ⟨_, rfl, Or.inl ⟨by show (0 : Int32) ≠ -2; decide, rfl, k2⟩⟩⟩, fun c => absurd neg1 c⟩
    · rw [if_neg (by omega), if_pos k1] at hr
      cases hr
      exact b_X12_copies_16 320 _ _ ⟨fun _ => ⟨fun _ => Or.inl ⟨_, rfl, Or.inl ⟨by show (1 : Int32) ≠ -2; decide, rfl, k2⟩⟩, fun c => absurd c (by decide)⟩, fun c => absurd neg2 c⟩
    · rw [if_pos k1] at hr
      cases hr
      exact b_X12_copies_16 320 _ _ ⟨fun _ => ⟨fun _ => Or.inl ⟨_, rfl, Or.inr ⟨rfl, rfl, k2⟩⟩, fun c => absurd c (by decide)⟩, fun c => absurd neg2 c⟩
theorem k_X12_copies (hd : 6 ≤ d) (hxs : s ≠ xs) {as : List spL} (ra : RA h as) (hl : as.length ≤ 400) (r : RG h0 h w ((s, S, js) :: G) V P ([], [], Z) n m xs) (ht : totU w + pot w (fH S.1 0) < 13000) {q : Int32 × spW} (hq : as.length = 0 → catN 12041 w S.1 = some q) :
    mx_SM mY_X12_copies d [.ref 320, .int (nI s)] h (mx_KI (RBr h0 G V P Z n m xs s S js (if as.length = 0 then (q.1, q.2, S.1) else (2, w, S.1))) fun _ _ => False) := by
  have sr := r.sr
  refine b_X12_copies 320 _ ⟨sr_k sr, ?_⟩
  rw [ra.1]
  by_cases c : as.length = 0
  · rw [if_pos c]
    refine ⟨fun _ => ⟨by omega, mx_uI (k_X12_reads (by omega) r hxs) fun v h1 g => ?_⟩, fun g => absurd (by rw [c]; decide) g⟩
    exact cp_16 (by omega) hxs 12041 w h1 v g ht r.f40 q (hq c)
  · rw [if_neg c]
    exact ⟨fun g => absurd g (nI_nle (by omega) (by omega)), fun _ => Or.inl ⟨_, rfl, Or.inl ⟨by show (2 : Int32) ≠ -2; decide, rfl, r⟩⟩⟩
theorem nuV_lt : ∀ (l : spL) (a : Nat), (l.all fun c => decide (48 ≤ c) && decide (c ≤ 57)) = true → ∀ k, l.length = k → a * 10 ^ k + 10 ^ k < 2 ^ 30 → ∃ j, j < a * 10 ^ k + 10 ^ k ∧ l.foldl (fun v c => 10 * v + c - 48) (nI a) = nI j
  | [], a, _, k, hk, hb => by
    have e : k = 0 := hk.symm
    subst e
    exact ⟨a, by omega, rfl⟩
  | c :: l, a, h, k, hk, hb => by
    rw [List.all_cons, Bool.and_eq_true, Bool.and_eq_true] at h
    obtain ⟨⟨h1, h2⟩, h3⟩ := h
    obtain ⟨j, hj, rfl⟩ := nI_of2 (M := 57) (n := 57) (by decide) (fun q => by
      have := of_decide_eq_true h1
      have w := Int32.lt_iff_toInt_lt.mp q
      have w2 := Int32.le_iff_toInt_le.mp this
      have w3 : (48 : Int32).toInt = 48 := by decide
      have w4 : (0 : Int32).toInt = 0 := by decide
      omega) (of_decide_eq_true h2)
    have j48 : 48 ≤ j := by
      have := of_decide_eq_true h1
      exact (nI_leI (a := 48) (by omega) (by omega)).mp this
    obtain ⟨k', rfl⟩ : ∃ k', k = k' + 1 := ⟨l.length, by rw [← hk]; rfl⟩
    have e : (10 : Int32) * nI a + nI j - 48 = nI (10 * a + (j - 48)) := by
      rw [show (10 : Int32) * nI a = nI (10 * a) from pk_mul 10 a, nI_add]
      have := pk_sub (a := 10 * a + j) (b := 48) (by omega)
      rw [show (48 : Int32) = nI 48 from rfl, this]
      congr 1; omega
    have e10 : (10 * a + (j - 48)) * 10 ^ k' + 10 ^ k' ≤ a * 10 ^ (k' + 1) + 10 ^ (k' + 1) := by
      rw [Nat.pow_succ]
      have : (10 * a + (j - 48) + 1) * 10 ^ k' ≤ (10 * a + 10) * 10 ^ k' := Nat.mul_le_mul_right _ (by omega)
      have e1 : (10 * a + (j - 48) + 1) * 10 ^ k' = (10 * a + (j - 48)) * 10 ^ k' + 10 ^ k' := by rw [Nat.add_mul]; omega
      have e2 : (10 * a + 10) * 10 ^ k' = a * (10 ^ k' * 10) + 10 ^ k' * 10 := by
        rw [Nat.add_mul, Nat.mul_comm 10 a, Nat.mul_assoc, Nat.mul_comm 10 (10 ^ k')]
      omega
    obtain ⟨i, i1, i2⟩ := nuV_lt l (10 * a + (j - 48)) h3 k' (by simpa using hk) (by omega)
    refine ⟨i, by omega, ?_⟩
    rw [List.foldl_cons, e]; exact i2
theorem nuL_nI (l : spL) : nuL l = -1 ∨ ∃ j, j < 100000 ∧ nuL l = nI j := by
  unfold nuL
  by_cases c : 1 ≤ l.length ∧ l.length ≤ 5 ∧ (l.all fun c => decide (48 ≤ c) && decide (c ≤ 57)) = true
  · rw [if_pos c]
    have p5 : 10 ^ l.length ≤ 10 ^ 5 := Nat.pow_le_pow_right (by omega) c.2.1
    obtain ⟨j, j1, j2⟩ := nuV_lt l 0 c.2.2 l.length rfl (by omega)
    exact Or.inr ⟨j, by omega, j2⟩
  · rw [if_neg c]; exact Or.inl rfl
theorem k_X12_exits (hd : 3 ≤ d) {as : List spL} (ra : RA h as) (h30 : as.flatten.length ≤ 30000) (hl : as.length ≤ 400) (r : RG h0 h w ((s, S, js) :: G) V P N n m xs) :
    mx_SM mY_X12_exits d [.ref 320, .int (nI s)] h (mx_KI (fun v h1 => match opExit as S.1 with
      | none => v = 2 ∧ RG h0 h1 w ((s, S, js) :: G) V P N n m xs
      | some st => RG h0 h1 w ((s, (vS S.1 st, true, S.2.2), js) :: G) V P N n m xs) fun _ _ => False) := by
  have sr := r.sr
  refine b_X12_exits 320 _ ⟨sr_k sr, ?_⟩
  rw [ra.1]
  rcases as with _ | ⟨a, _ | ⟨b, l⟩⟩
  · refine ⟨fun _ => ⟨fun c => absurd c (by decide), fun _ => ⟨fun _ => b_X12_exits_41 320 _ _ ⟨sr_k sr, ?_⟩, fun c => absurd c (by decide)⟩⟩, fun c => absurd c (by decide)⟩
    rw [ra.1]
    refine ⟨fun c => absurd rfl c, fun _ => ⟨by omega, mx_xKI2 (k_X12_statusOf (by omega) r) ⟨sr_k sr, mx_uV (k_X12_ends (by omega) r) fun h1 g => Or.inl ⟨_, rfl, g⟩⟩⟩⟩
  · obtain ⟨b, rb0⟩ := ra.at h30 hl (k := 0) (by simp)
    have rb : RA1 h 0 b a := rb0
    refine ⟨fun c => absurd rfl c, fun _ => ⟨by omega, mx_xKI2 (k_X12_numberAt (by omega) sr rb) ⟨sr_k sr, ?_⟩⟩⟩
    rw [ra.1]
    refine ⟨fun c => absurd c (show ¬ (1 : Int32) < nI 1 by decide), fun _ => ⟨fun c => absurd rfl c, fun _ => ⟨fun c => ?_, fun c => ?_⟩⟩⟩
    · refine b_X12_exits_41 320 _ _ ⟨sr_k sr, ?_⟩
      rw [ra.1]
      refine ⟨fun _ => ⟨by omega, mx_uV (k_X12_ends (by omega) r) fun h1 g => Or.inl ⟨_, rfl, ?_⟩⟩, fun c => absurd c (show ¬ nI 1 = (0 : Int32) by decide)⟩
      have e : opExit [a] S.1 = some (nuL a % 256) := by show (if nuL a = -1 then none else some (nuL a % 256)) = _; rw [if_neg c]
      rw [e]
      rcases nuL_nI a with q | ⟨j, j1, j2⟩
      · exact absurd q c
      · show RG h0 h1 w ((s, (vS S.1 (nuL a % 256), true, S.2.2), js) :: G) V P N n m xs
        have e2 : nuL a - nuL a / 256 * 256 = nuL a % 256 := by
          rw [j2, mod256 j1]; exact pk_rem (d := 256) (by omega) (by omega) (by omega)
        have g' : RG h0 h1 w ((s, (vS S.1 (nuL a - nuL a / 256 * 256), true, S.2.2), js) :: G) V P N n m xs := g
        rw [e2] at g'
        exact g'
    · have e : opExit [a] S.1 = none := by show (if nuL a = -1 then none else some (nuL a % 256)) = _; rw [if_pos c]
      rw [e]
      exact Or.inl ⟨_, rfl, rfl, r⟩
  · have l2 : 1 < (a :: b :: l).length := by simp
    refine ⟨fun _ => ⟨fun _ => Or.inl ⟨_, rfl, rfl, r⟩, fun c => absurd (nI_lt (a := 1) l2 (by omega)) c⟩, fun c => absurd ((nI_eq (b := 1) (by omega) (by omega)).mp c) (by omega)⟩
theorem RG.act (r : RG h0 h w ((s, S, js) :: G) V P N n m xs) {g : Nat} (hg : g < 4) {v : Int64} : RG h0 (hsL h 355 (34 * s + (30 + g)) v) w ((s, (vA S.1 (fup (fA S.1) g v), S.2), js) :: G) V P N n m xs := by
  have h82 : hpI h 354 (83 * s + 82) = 1 := by
    obtain ⟨A, B, Qs, -, -, -, -, -, -, he, -⟩ := r
    exact (he.1 _ List.mem_cons_self).2.1
  have := RG.row r (S' := (vA S.1 (fup (fA S.1) g v), S.2)) (js' := js) (f := hpI h 354) (g := fup (hpL h 355) (34 * s + (30 + g)) v) offS.rf (offN.rf.up (by omega)) h82 (fun ln A o => by
    rw [shN_up]
    exact ⟨o.1.act, o.2.1, o.2.2.1⟩) (fun L hL _ => hL) (fun _ L hL _ _ => hL)
  rw [hrI_self] at this
  exact this
theorem k_X12_traps (hd : 3 ≤ d) {as : List spL} (ra : RA h as) (h30 : as.flatten.length ≤ 30000) (hl : as.length ≤ 400) (r : RG h0 h w ((s, S, js) :: G) V P ([], [], Z) n m xs) :
    mx_SM mY_X12_traps d [.ref 320, .int (nI s)] h (mx_KI (RBr h0 G V P Z n m xs s S js (opTrap as w S.1)) fun _ _ => False) := by
  have sr := r.sr
  have hs := r.own.1
  have t2 : (2 : Int32) ≠ -2 := by decide
  have t0 : (0 : Int32) ≠ -2 := by decide
  refine b_X12_traps 320 _ ⟨sr_k sr, ?_⟩
  rw [ra.1]
  unfold opTrap
  by_cases c2 : as.length = 2
  · refine ⟨fun _ => ?_, fun c => absurd (by rw [c2]; rfl) c⟩
    obtain ⟨b0, rb0⟩ := ra.at h30 hl (k := 0) (by omega)
    obtain ⟨b1, rb1⟩ := ra.at h30 hl (k := 1) (by omega)
    have e0 : as.getD 0 [] = as[0]'(by omega) := gd_at (by omega)
    have e1 : as.getD 1 [] = as[1]'(by omega) := gd_at (by omega)
    rw [e0, e1]
    refine ⟨by omega, mx_xKL2 (k_X12_nameAt (by omega) sr rb0) ⟨sr_k sr, mx_xKI2 (k_X12_signalAt (by omega) sr rb1) ?_⟩⟩
    rw [lg_cmp_eq, lg_cmp_eq, lg_cmp_eq, sr_l28 sr, sr_l29 sr]
    generalize nmL (as[0]'(by omega)) = v0
    by_cases cz : v0 = 0
    · refine ⟨fun _ => Or.inl ⟨_, rfl, ?_⟩, fun c => absurd cz c⟩
      rw [if_pos (Or.inr cz)]
      exact Or.inl ⟨t2, rfl, r⟩
    · refine ⟨fun c => absurd c cz, fun _ => ?_⟩
      rw [if_neg (fun q => q.elim (fun g => g c2) cz)]
      have sg : ∀ g, sigK (nmL (as[1]'(by omega))) = some g → g < 4 := fun g hg => by
        have := (List.findIdx?_eq_some_iff_getElem.mp hg).1
        exact this
      cases eg : sigK (nmL (as[1]'(by omega))) with
      | none => exact ⟨fun c => absurd rfl c, fun _ => Or.inl ⟨_, rfl, Or.inl ⟨t2, rfl, r⟩⟩⟩
      | some g =>
        have g4 := sg g eg
        refine ⟨fun _ => ⟨sr_k sr, ?_⟩, fun c => absurd c (ixI_some (by omega))⟩
        rw [show (30 : Int32) + ixI (some g) = nI (30 + g) from nI_add 30 g]
        refine ⟨fun c3 => ⟨fun c4 => ?_, fun c4 => ?_⟩, fun c3 => ?_⟩
        · refine mx_xKV (k_X12_setsName sr (by omega)) (Or.inl ⟨_, rfl, Or.inl ⟨t0, rfl, ?_⟩⟩)
          simp only [if_neg c3, if_neg c4]
          exact r.act g4
        · refine mx_xKV (k_X12_setsName sr (by omega)) (Or.inl ⟨_, rfl, Or.inl ⟨t0, rfl, ?_⟩⟩)
          simp only [if_neg c3, if_pos c4]
          exact r.act g4
        · refine mx_xKV (k_X12_setsName sr (by omega)) (Or.inl ⟨_, rfl, Or.inl ⟨t0, rfl, ?_⟩⟩)
          simp only [if_pos c3]
          exact r.act g4
  · refine ⟨fun c => absurd ((nI_eq (b := 2) (by omega) (by omega)).mp c) c2, fun _ => Or.inl ⟨_, rfl, ?_⟩⟩
    rw [if_pos (Or.inl c2)]
    exact Or.inl ⟨t2, rfl, r⟩
theorem RG.pfl (r : RG h0 h w ((s, S, js) :: G) V P N n m xs) {b : Bool} : RG h0 (hsI h 354 (83 * s + 32) (if b = true then 1 else 0)) w ((s, (vP S.1 b, S.2), js) :: G) V P N n m xs :=
  r.place (S' := (vP S.1 b, S.2)) (by omega) (by omega) (by omega) rfl (fun _ _ _ q => q.pf) (fun _ q => q.other (by omega))
theorem k_X12_setsOption (hd : 2 ≤ d) {as : List spL} (ra : RA h as) (h30 : as.flatten.length ≤ 30000) (hl : as.length ≤ 400) (r : RG h0 h w ((s, S, js) :: G) V P ([], [], Z) n m xs) :
    mx_SM mY_X12_setsOption d [.ref 320, .int (nI s)] h (mx_KI (RBr h0 G V P Z n m xs s S js (opSet as w S.1)) fun _ _ => False) := by
  have sr := r.sr
  have hs := r.own.1
  have t2 : (2 : Int32) ≠ -2 := by decide
  have t0 : (0 : Int32) ≠ -2 := by decide
  refine b_X12_setsOption 320 _ ⟨sr_k sr, ?_⟩
  rw [ra.1]
  unfold opSet
  by_cases c2 : as.length = 2
  · refine ⟨fun c => absurd (by rw [c2]; rfl) c, fun _ => ?_⟩
    obtain ⟨b0, rb0⟩ := ra.at h30 hl (k := 0) (by omega)
    obtain ⟨b1, rb1⟩ := ra.at h30 hl (k := 1) (by omega)
    have e0 : as.getD 0 [] = as[0]'(by omega) := gd_at (by omega)
    have e1 : as.getD 1 [] = as[1]'(by omega) := gd_at (by omega)
    rw [e0, e1]
    refine ⟨by omega, mx_xKL2 (k_X12_nameAt (by omega) sr rb0) ⟨sr_k sr, ?_⟩⟩
    rw [lg_cmp_eq, sr_l30 sr]
    refine ⟨fun c3 => mx_xKL2 (k_X12_nameAt (by omega) sr rb1) ⟨sr_k sr, ?_⟩, fun c3 => Or.inl ⟨_, rfl, ?_⟩⟩
    · rw [lg_cmp_eq, lg_cmp_eq, sr_l31 sr, sr_l32 sr]
      generalize nmL (as[1]'(by omega)) = v1
      have nx : (v1 = 569 ∨ v1 = 20763) → mx_SX mY_X12_setsOption d 49 [(0, .ref 320), (1, .int (nI s)), (2, .long v1)] [] h (mx_KI (RBr h0 G V P Z n m xs s S js (if as.length ≠ 2 ∨ nmL (as[0]'(by omega)) ≠ 1543120751558 ∨ (v1 ≠ 569 ∧ v1 ≠ 20763) then (2, w, S.1) else (0, w, vP S.1 (decide (v1 = 569))))) fun _ _ => False) := fun hv => by
        rw [if_neg (fun q => by
          rcases q with q | q | q
          · exact q c2
          · exact q c3
          · exact hv.elim q.1 q.2)]
        refine b_X12_setsOption_49 320 _ _ ⟨sr_k sr, ?_⟩
        rw [lg_cmp_eq, sr_l31 sr]
        refine ⟨fun c => ⟨by omega, mx_xKV (k_X12_sets (j := 32) sr (by omega)) (Or.inl ⟨_, rfl, Or.inl ⟨t0, rfl, ?_⟩⟩)⟩, fun c => ⟨by omega, mx_xKV (k_X12_sets (j := 32) sr (by omega)) (Or.inl ⟨_, rfl, Or.inl ⟨t0, rfl, ?_⟩⟩)⟩⟩
        · rw [decide_eq_false c]; exact r.pfl (b := false)
        · rw [decide_eq_true c]; exact r.pfl (b := true)
      refine ⟨fun c => nx (Or.inl c), fun c => ⟨fun c4 => nx (Or.inr c4), fun c4 => Or.inl ⟨_, rfl, ?_⟩⟩⟩
      rw [if_pos (Or.inr (Or.inr ⟨c, c4⟩))]
      exact Or.inl ⟨t2, rfl, r⟩
    · rw [if_pos (Or.inr (Or.inl c3))]
      exact Or.inl ⟨t2, rfl, r⟩
  · refine ⟨fun _ => Or.inl ⟨_, rfl, ?_⟩, fun c => absurd ((nI_eq (b := 2) (by omega) (by omega)).mp c) c2⟩
    rw [if_pos (Or.inl c2)]
    exact Or.inl ⟨t2, rfl, r⟩
end MXCT
