/-! THE REFERENCE: reads, appends, writesAt, writes -/
section MXRE
variable {d : Nat} {h0 h : mxH} {w : spW} {G : List spE} {V : List (Option (Option Nat))} {P : List spX} {n m xs : Nat} {Q : mxRes → mxH → Prop}
theorem RG.back {X X' : List (Int32 × spL)} {Y Y' Z Z' : List (Int32 × Nat)} (r : RG h0 h w G V P (X', Y', Z') n m xs) (h1 : ∀ q ∈ X, q ∈ X') (h2 : ∀ q ∈ Y, q ∈ Y') (h3 : ∀ q ∈ Z, q ∈ Z') : RG h0 h w G V P (X, Y, Z) n m xs := r.drop h1 h2 h3
theorem cons_sub {α : Type} {a : α} {l l' : List α} (h : ∀ x ∈ l, x ∈ l') : ∀ x ∈ a :: l, x ∈ a :: l' := fun x hx => by
  rcases List.mem_cons.mp hx with rfl | hx
  · exact List.mem_cons_self
  · exact List.mem_cons_of_mem _ (h x hx)
theorem rdP.back {s : Nat} {S : spS} {js : List Nat} {X X' : List (Int32 × spL)} {Y Y' Z Z' : List (Int32 × Nat)} {q : (Nat × spL) × spW} {v : Int32} {h1 : mxH} (r : rdP h0 w G V P X' Y' Z' n m xs s S js q v h1) (g1 : ∀ q ∈ X, q ∈ X') (g2 : ∀ q ∈ Y, q ∈ Y') (g3 : ∀ q ∈ Z, q ∈ Z') : rdP h0 w G V P X Y Z n m xs s S js q v h1 := by
  rcases r with ⟨a, b, c⟩ | ⟨a, b, c⟩ | ⟨a, b, c⟩ | ⟨a, b, c⟩
  · exact Or.inl ⟨a, b, c.back (cons_sub g1) g2 g3⟩
  · exact Or.inr (Or.inl ⟨a, b, c.back g1 g2 g3⟩)
  · exact Or.inr (Or.inr (Or.inl ⟨a, b, c.back g1 g2 g3⟩))
  · exact Or.inr (Or.inr (Or.inr ⟨a, b, c.back g1 g2 g3⟩))
theorem getD_of {α : Type} {l : List α} {i : Nat} {x d : α} (h : l[i]? = some x) : l.getD i d = x := by rw [List.getD_eq_getElem?_getD, h]; rfl
theorem k_X12_reads (hd : 3 ≤ d) {X : List (Int32 × spL)} {Y Z : List (Int32 × Nat)} {s : Nat} {S : spS} {js : List Nat} (r : RG h0 h w ((s, S, js) :: G) V P (X, Y, Z) n m xs) (hxs : s ≠ xs) :
    mx_SM mY_X12_reads d [.ref 320, .int (nI s), .int 0] h (mx_KI (rdP h0 w G V P X Y Z n m xs s S js (rdLine w (fH S.1 0) (fG S.1))) fun _ _ => False) := by
  have hs := r.own.1
  have sr := r.sr
  refine b_X12_reads 320 _ _ ⟨by omega, sr_k sr, mx_xKI2 (k_X12_handle (j := 0) sr hs (by omega)) ?_⟩
  rcases r.handle hxs (k := 0) (by omega) with ⟨q1, q2⟩ | ⟨a, o, q, Z', q1, q2, q3, q4, q5, q6, q7, q8, q9, qa, qb, qc, r'⟩
  · rw [q2]
    refine ⟨fun c => absurd rfl c, fun _ => ?_⟩
    rw [q1]
    exact Or.inl ⟨_, rfl, Or.inr (Or.inr (Or.inl ⟨rfl, rfl, r⟩))⟩
  · rw [q2]
    refine ⟨fun _ => ⟨sr_k sr, 344, sr_r58 sr, sr_k344 sr, by rw [sr_z344 sr]; exact vp_in_nI q3 (by omega), ?_⟩, fun c => absurd ((nI_neg1 (by omega)).mp c) id⟩
    rw [nI_clamp (by omega), q5, nI_toInt (by omega), q1]
    have gd : (wO w).getD a (0, 0, 0) = q := getD_of q4
    have none2 : q.1 = 3 ∨ q.1 = 4 ∨ q.1 = 6 → rdLine w (some a) (fG S.1) = ((2, []), w) := fun c => by
      unfold rdLine
      simp only [gd]
      rw [if_neg (by omega), if_neg (by omega), if_neg (by omega)]
    have no : q.1 = 3 ∨ q.1 = 4 ∨ q.1 = 6 → mx_SX mY_X12_reads d 98 [] [] h (mx_KI (rdP h0 w G V P X Y Z n m xs s S js (rdLine w (some a) (fG S.1))) fun _ _ => False) := fun c => by
      rw [none2 c]
      exact b_X12_reads_98 (Or.inl ⟨_, rfl, Or.inr (Or.inr (Or.inl ⟨rfl, rfl, r⟩))⟩)
    refine ⟨fun c => no (by omega), fun c => ?_, fun c => ?_, fun c => no (by omega), fun c => no (by omega), fun c => ?_⟩
    · have e1 : q.1 = 1 := by omega
      refine b_X12_reads_62 320 _ ⟨by omega, sr_k sr, mx_uI (k_X12_readsTerminal (by omega) r) fun v h1 k => Or.inl ⟨_, rfl, ?_⟩⟩
      unfold rdLine
      simp only [gd]
      rw [if_pos e1]
      exact k
    · have e2 : q.1 = 2 := by omega
      obtain ⟨f1, f2⟩ := qa (Or.inl e2)
      refine b_X12_reads_56 320 _ ⟨by omega, sr_k sr, mx_uI (k_X12_readsFile (by omega) r' List.mem_cons_self q3 q4 f1 q8 f2 q9) fun v h1 k => Or.inl ⟨_, rfl, ?_⟩⟩
      unfold rdLine
      simp only [gd]
      rw [if_neg (by omega), if_pos e2]
      rcases k with ⟨l, k1, k2, k3⟩ | ⟨k1, k2, k3⟩
      · have k1' : ((wF w).getD q.2.1 (0, [])).2[q.2.2]? = some l := k1
        rw [k1']
        refine Or.inl ⟨rfl, k2, ?_⟩
        exact k3.back (fun _ h => h) (fun _ h => List.mem_cons_of_mem _ h) qc
      · have k1' : ((wF w).getD q.2.1 (0, [])).2[q.2.2]? = none := k1
        rw [k1']
        exact Or.inr (Or.inl ⟨rfl, k2, k3.back (fun _ h => h) (fun _ h => List.mem_cons_of_mem _ h) qc⟩)
    · have e5 : q.1 = 5 := by omega
      obtain ⟨b, b1, b2⟩ := qb (Or.inl e5)
      -- the pipe's own place
      obtain ⟨A, B, Qs, fr, sr', hw, ht, ho, ⟨frr, c1, c2, c3, c4, c5, c6, c7, c8, c9⟩, he, hv, hk, hc, hdd, hz, hN1, hN2, hN3⟩ := id r'
      obtain ⟨b', y1, y2⟩ := hN3 _ b2
      obtain ⟨z1, z2, z3, z4, z5⟩ := c6 _ b' y2
      have y1' : nI b = nI b' := y1
      refine b_X12_reads_68 320 _ ⟨sr_k sr, 347, sr_r61 sr, 345, sr_r59 sr, sr_k345 sr, by rw [sr_z345 sr]; exact vp_in_nI q3 (by omega), sr_k347 sr, ?_⟩
      rw [nI_clamp (by omega), b1, y1', nI_clamp (n := b') (by omega)]
      refine ⟨by rw [sr_z347 sr]; exact vp_in_nI z2 (by omega), fun c => ?_, fun c => ?_⟩
      · obtain ⟨l, ls, hl⟩ : ∃ l ls, (wU w).getD q.2.1 [] = l :: ls := by
          cases e : (wU w).getD q.2.1 [] with
          | nil =>
            rw [e] at z4
            have : Qs b' = [] := List.eq_nil_of_length_eq_zero z4
            have rq := (c2 b' z2).1
            rw [this] at rq
            exact absurd rq c
          | cons l ls => exact ⟨l, ls, rfl⟩
        rw [← y1']
        refine ⟨by omega, mx_uI (k_X12_takesFirst r' b2 hl) fun v h1 k => Or.inl ⟨_, rfl, ?_⟩⟩
        unfold rdLine
        simp only [gd]
        rw [if_neg (by omega), if_neg (by omega), if_pos e5, hl]
        have vv : ∃ i, v = nI i ∧ i < 4400 := by
          obtain ⟨A', B', Qs', -, -, -, -, -, -, -, -, -, -, -, -, hN1', -⟩ := id k
          obtain ⟨i, i1, i2, -⟩ := hN1' (v, l) List.mem_cons_self
          exact ⟨i, i1, i2⟩
        exact Or.inl ⟨rfl, vv, k.back (fun _ h => h) (fun _ h => List.mem_cons_of_mem _ h) qc⟩
      · have rq := (c2 b' z2).1
        have : Qs b' = [] := by
          cases e : Qs b' with
          | nil => rfl
          | cons x l => rw [e] at rq; obtain ⟨g1, g2, -⟩ := rq; rw [g1] at c; exact absurd ((nI_neg1 (by omega)).mp c) id
        rw [this] at z4
        have e0 : (wU w).getD q.2.1 [] = [] := List.eq_nil_of_length_eq_zero z4.symm
        refine Or.inl ⟨_, rfl, ?_⟩
        unfold rdLine
        simp only [gd]
        rw [if_neg (by omega), if_neg (by omega), if_pos e5, e0]
        exact Or.inr (Or.inl ⟨rfl, rfl, r⟩)
/-- a file's line is set, or comes behind the last one -/
theorem RG.fput {X : List (Int32 × spL)} {Y Z : List (Int32 × Nat)} (r : RG h0 h w G V P (X, Y, Z) n m xs) {i p : Nat} {v : Int32} {l : spL} (hi : i < (wF w).length) (hv : (v, l) ∈ X ∨ (v = 0 ∧ l = [])) (hp : p ≤ (lnsOf w i).length) (hp40 : p < 40) {c : Nat} (hc : c = if p = (lnsOf w i).length then p + 1 else (lnsOf w i).length) {f : Nat → Int32} (f1 : f (2 + 41 * i + p) = v) (f2 : f (1 + 41 * i) = nI c)
    (f3 : ∀ k, k ≠ 2 + 41 * i + p → k ≠ 1 + 41 * i → f k = hpI h 342 k) : RG h0 (hrI h 342 f) (setF w i (if p = (lnsOf w i).length then lnsOf w i ++ [l] else (lnsOf w i).set p l)) G V P (X, Y, Z) n m xs := by
  obtain ⟨a1, a2, a3, a4⟩ := r.rw1.at hi
  have hw1 := r.rw1
  have ll : (if p = (lnsOf w i).length then lnsOf w i ++ [l] else (lnsOf w i).set p l).length = c := by
    rw [hc]
    split
    · rename_i e; rw [List.length_append, e]; rfl
    · rw [List.length_set]
  have c40 : c ≤ 40 := by rw [hc]; split <;> omega
  have := r.world (w' := setF w i (if p = (lnsOf w i).length then lnsOf w i ++ [l] else (lnsOf w i).set p l)) (f := f) (g := hpL h 343) rfl rfl rfl rfl rfl rfl (by rw [List.length_set]; exact Nat.le_refl _) (fun ln hw hX h00 => by
    refine hw.file hi (by rw [ll]; exact f2) (by rw [ll]; exact c40) (fun k hk => ?_) (fun k hk => f3 k (by omega) (by omega))
    rw [ll] at hk
    have lv : ln v l := by
      rcases hv with g | ⟨g1, g2⟩
      · exact hX _ g
      · rw [g1, g2]; exact h00
    by_cases e : k = p
    · subst e
      rw [f1]
      by_cases e2 : k = (lnsOf w i).length
      · simp only [if_pos e2]
        rw [List.getElem_append_right (by omega)]
        simp only [e2, Nat.sub_self, List.getElem_cons_zero]
        exact lv
      · simp only [if_neg e2, List.getElem_set_self]
        exact lv
    · rw [f3 _ (by omega) (by omega)]
      have old := (RW.at hw hi).2.2.1
      by_cases e2 : p = (lnsOf w i).length
      · have kl : k < (lnsOf w i).length := by rw [hc, if_pos e2] at hk; omega
        simp only [if_pos e2]
        rw [List.getElem_append_left kl]
        exact old k kl
      · have kl : k < (lnsOf w i).length := by rw [hc, if_neg e2] at hk; omega
        simp only [if_neg e2]
        rw [List.getElem_set_ne (fun g => e g.symm)]
        exact old k kl) (fun L hL hX h00 => by
    obtain ⟨b1, b2, b3⟩ := hw1.cnt
    refine hL.file a4 f2 c40 (fun k hk => ?_) (fun k hk => f3 k (by omega) (by omega)) b1 b2 b3
    by_cases e : k = p
    · rw [e, f1]
      rcases hv with g | ⟨g1, g2⟩
      · exact hX _ g
      · rw [g1]; exact h00
    · rw [f3 _ (by omega) (by omega)]
      refine hL.1 i a4 k ?_
      rw [a1, nI_clamp (by omega)]
      rw [hc] at hk
      split at hk <;> omega)
  have e : hrL (hrI h 342 f) 343 (hpL h 343) = hrI h 342 f := hrL_self (h := hrI h 342 f)
  rw [e] at this
  exact this
theorem k_X12_appends (hd : 1 ≤ d) {X : List (Int32 × spL)} {Y Z : List (Int32 × Nat)} (r : RG h0 h w G V P (X, Y, Z) n m xs) {i : Nat} {v : Int32} {l : spL} (hi : i < (wF w).length) (hv : (v, l) ∈ X ∨ (v = 0 ∧ l = [])) :
    mx_SM mY_X12_appends d [.ref 320, .int (nI i), .int v] h (mx_KI (fun b h1 => (40 ≤ (lnsOf w i).length ∧ b = 0 ∧ h1 = h) ∨ ((lnsOf w i).length < 40 ∧ b = 1 ∧ (∀ a, a ≠ 342 → hpI h1 a = hpI h a) ∧ RG h0 h1 (setF w i (lnsOf w i ++ [l])) G V P (X, Y, Z) n m xs)) fun _ _ => False) := by
  have s := r.sr
  obtain ⟨a1, a2, a3, a4⟩ := r.rw1.at hi
  refine b_X12_appends 320 _ _ ⟨hd, sr_k s, mx_xKI2 (k_X12_linesOf s a4) ?_⟩
  rw [a1]
  refine ⟨fun c => ?_, fun c => ?_⟩
  · have lt : (lnsOf w i).length < 40 := by
      rcases Nat.lt_or_ge (lnsOf w i).length 40 with g | g
      · exact g
      · have : (lnsOf w i).length = 40 := by omega
        rw [this] at c; exact absurd rfl c
    refine ⟨sr_k s, mx_xKI2 (k_X12_linesOf s a4) ?_⟩
    rw [a1]
    refine ⟨sr_k s, mx_xKV (k_X12_setsLine s (by omega)) ⟨sr_k s, 342, sr_r56 s, sr_k342 s, ?_⟩⟩
    simp (disch := omega) only [nI_lit, pk_mul, nI_add, nI_clamp]
    refine ⟨by show vp_in _ (hpZ h 342); rw [sr_z342 s]; exact vp_in_nI (by omega) (by omega), ?_⟩
    rintro _ rfl
    have e1 : hpI (hsI h 342 (2 + 41 * i + (lnsOf w i).length) v) 342 (1 + 41 * i) = nI (lnsOf w i).length := by rw [hpI_sIs, fup_n (by omega)]; exact a1
    rw [e1, nI_add]
    refine Or.inl ⟨_, rfl, Or.inr ⟨lt, rfl, fun a ha => by rw [hpI_sIo ha, hpI_sIo ha], ?_⟩⟩
    have := r.fput (p := (lnsOf w i).length) (v := v) (l := l) (f := fup (fup (hpI h 342) (2 + 41 * i + (lnsOf w i).length) v) (1 + 41 * i) (nI ((lnsOf w i).length + 1))) hi hv (Nat.le_refl _) lt rfl (by rw [fup_n (by omega), fup_e]) (by rw [fup_e, if_pos rfl]) (fun k k1 k2 => by rw [fup_n k2, fup_n k1])
    rw [if_pos rfl] at this
    have e2 : hsI (hsI h 342 (2 + 41 * i + (lnsOf w i).length) v) 342 (1 + 41 * i) (nI ((lnsOf w i).length + 1)) = hrI h 342 (fup (fup (hpI h 342) (2 + 41 * i + (lnsOf w i).length) v) (1 + 41 * i) (nI ((lnsOf w i).length + 1))) := hsI_hrI
    rw [e2]
    exact this
  · have : (lnsOf w i).length = 40 := (nI_eq (b := 40) (by omega) (by omega)).mp c
    exact Or.inl ⟨_, rfl, Or.inl ⟨by omega, rfl, rfl⟩⟩
end MXRE
