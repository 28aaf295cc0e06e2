/-! THE REFERENCE: writing a line -/
section MXWR
variable {d : Nat} {h0 h : mxH} {w : spW} {G : List spE} {V : List (Option (Option Nat))} {P : List spX} {n m xs : Nat} {Q : mxRes → mxH → Prop}
theorem lnsOf_setF {i : Nat} {ls : List spL} (hi : i < (wF w).length) : lnsOf (setF w i ls) i = ls := by
  show (((wF w).set i _).getD i (0, [])).2 = ls
  rw [getD_set_self hi]
theorem setF_setF {i : Nat} {a b : List spL} (hi : i < (wF w).length) : setF (setF w i a) i b = setF w i b := by
  show uF (uF w _) (((wF w).set i _).set i ((((wF w).set i _).getD i (0, [])).1, b)) = _
  rw [getD_set_self hi, List.set_set]
theorem setF_same {i : Nat} (hi : i < (wF w).length) : setF w i (lnsOf w i) = w := by
  show uF w ((wF w).set i (((wF w).getD i (0, [])).1, ((wF w).getD i (0, [])).2)) = w
  have : (((wF w).getD i (0, [])).1, ((wF w).getD i (0, [])).2) = (wF w)[i] := by
    rw [List.getD_eq_getElem?_getD, List.getElem?_eq_getElem hi]; rfl
  rw [this, List.set_getElem_self]
/-- writesAt, where no line is wanting -/
theorem wa_end (hd : 1 ≤ d) {X : List (Int32 × spL)} {Y Z : List (Int32 × Nat)} (r : RG h0 h w G V P (X, Y, Z) n m xs) {o a : Nat} {q : spO} {v : Int32} {l : spL} (hy : (nI o, a) ∈ Y) (ho : o < 4000) (hq : (wO w)[a]? = some q)
    (h6 : hpI h 346 o = nI q.2.2) (hf : q.2.1 < (wF w).length) (hp : q.2.2 < 40) (hv : (v, l) ∈ X) (hle : q.2.2 ≤ (lnsOf w q.2.1).length)
    (K : ∀ h1, RG h0 h1 (uO (setF w q.2.1 (if q.2.2 = (lnsOf w q.2.1).length then lnsOf w q.2.1 ++ [l] else (lnsOf w q.2.1).set q.2.2 l)) ((wO w).set a (q.1, q.2.1, q.2.2 + 1))) G V P (X, Y, Z) n m xs → Q (.inl (some (.int 1))) h1) :
    mx_SX mY_X12_writesAt d 20 [(0, .ref 320), (1, .int (nI o)), (2, .int v), (3, .int (nI q.2.1))] [] h Q := by
  have s := r.sr
  obtain ⟨f1, f2, f3, f4⟩ := r.rw1.at hf
  refine b_X12_writesAt_20 320 _ _ _ ⟨hd, sr_k s, mx_xKI2 (k_X12_linesOf s f4) ⟨sr_k s, 346, sr_r60 s, sr_k346 s, by rw [sr_z346 s]; exact vp_in_nI ho (by omega), ?_⟩⟩
  rw [nI_clamp (by omega), h6, f1]
  refine ⟨fun _ => mx_xKI2 (k_X12_linesOf s f4) ?_, fun c => absurd (nI_le hle (by omega)) c⟩
  rw [f1]
  have fin : ∀ (f : Nat → Int32), f (1 + 41 * q.2.1) = nI (if q.2.2 = (lnsOf w q.2.1).length then q.2.2 + 1 else (lnsOf w q.2.1).length) → (∀ k, k ≠ 1 + 41 * q.2.1 → f k = hpI h 342 k) → mx_SX mY_X12_writesAt d 74 [(0, .ref 320), (1, .int (nI o)), (2, .int v), (3, .int (nI q.2.1))] [] (hrI h 342 f) Q := fun f g1 g2 => by
    have s2 : SR (hrI h 342 f) := s
    refine b_X12_writesAt_74 320 _ _ _ ⟨sr_k s, 346, sr_r60 s, sr_k346 s, by show vp_in _ (hpZ h 346); rw [sr_z346 s]; exact vp_in_nI ho (by omega), ?_⟩
    rw [nI_clamp (by omega), hpI_rI, if_neg (by decide), h6]
    refine ⟨hd, mx_xKV (k_X12_setsLine s2 (by omega)) ⟨sr_k s, 346, sr_r60 s, sr_k346 s, by show vp_in _ (hpZ h 346); rw [sr_z346 s]; exact vp_in_nI ho (by omega), ?_⟩⟩
    have e1 : hsI (hrI h 342 f) 342 (2 + 41 * q.2.1 + q.2.2) v = hrI h 342 (fup f (2 + 41 * q.2.1 + q.2.2) v) := hsI_hrI
    rw [e1, hpI_rI, if_neg (by decide), h6, nI_1]
    rintro _ rfl
    have r1 := r.fput (f := fup f (2 + 41 * q.2.1 + q.2.2) v) (v := v) (l := l) hf (Or.inl hv) hle hp rfl fup_e (by rw [fup_n (by omega)]; exact g1) (fun k k1 k2 => by rw [fup_n k1]; exact g2 k k2)
    have r2 := r1.pos (ps := q.2.2 + 1) hy ho (show (wO (setF w q.2.1 _))[a]? = some q from hq) (by omega)
    exact K _ r2
  refine ⟨fun c => ?_, fun c => ⟨sr_k s, 342, sr_r56 s, sr_k342 s, ?_⟩⟩
  · have ne : q.2.2 ≠ (lnsOf w q.2.1).length := fun e => c (by rw [e])
    have := fin (hpI h 342) (by rw [if_neg ne]; exact f1) (fun _ _ => rfl)
    rw [hrI_self] at this
    exact this
  · have eq : q.2.2 = (lnsOf w q.2.1).length := (nI_eq (by omega) (by omega)).mp c
    simp (disch := omega) only [nI_lit, pk_mul, nI_add, nI_clamp, sr_z342 s, vpT, true_and, f1, forall_eq]
    exact fin (fup (hpI h 342) (1 + 41 * q.2.1) (nI ((lnsOf w q.2.1).length + 1))) (by rw [fup_e, if_pos eq, eq]) (fun k hk => fup_n hk)
theorem wa_20 (hd : 2 ≤ d) {X : List (Int32 × spL)} {Y Z : List (Int32 × Nat)} {o a : Nat} {q : spO} {v : Int32} {l : spL} (hy : (nI o, a) ∈ Y) (ho : o < 4000) (hp : q.2.2 < 40) (hv : (v, l) ∈ X) : ∀ k (w : spW) (h : mxH), RG h0 h w G V P (X, Y, Z) n m xs → (wO w)[a]? = some q → hpI h 346 o = nI q.2.2 → q.2.1 < (wF w).length → q.2.2 - (lnsOf w q.2.1).length = k →
    (∀ h1, RG h0 h1 (uO (setF w q.2.1 (putAt (lnsOf w q.2.1) q.2.2 l)) ((wO w).set a (q.1, q.2.1, q.2.2 + 1))) G V P (X, Y, Z) n m xs → Q (.inl (some (.int 1))) h1) →
    mx_SX mY_X12_writesAt d 20 [(0, .ref 320), (1, .int (nI o)), (2, .int v), (3, .int (nI q.2.1))] [] h Q := by
  intro k
  induction k with
  | zero =>
    intro w h r hq h6 hf hk K
    refine wa_end (by omega) r hy ho hq h6 hf hp hv (by omega) fun h1 r1 => K h1 ?_
    have e : putAt (lnsOf w q.2.1) q.2.2 l = if q.2.2 = (lnsOf w q.2.1).length then lnsOf w q.2.1 ++ [l] else (lnsOf w q.2.1).set q.2.2 l := by
      unfold putAt
      by_cases c : q.2.2 = (lnsOf w q.2.1).length
      · rw [if_neg (by omega), if_pos c, show q.2.2 - (lnsOf w q.2.1).length = 0 by omega]; simp
      · rw [if_pos (by omega), if_neg c]
    rw [e]; exact r1
  | succ k ih =>
    intro w h r hq h6 hf hk K
    have s := r.sr
    obtain ⟨f1, f2, f3, f4⟩ := r.rw1.at hf
    refine b_X12_writesAt_20 320 _ _ _ ⟨by omega, sr_k s, mx_xKI2 (k_X12_linesOf s f4) ⟨sr_k s, 346, sr_r60 s, sr_k346 s, by rw [sr_z346 s]; exact vp_in_nI ho (by omega), ?_⟩⟩
    rw [nI_clamp (by omega), h6, f1]
    refine ⟨fun c => absurd c (nI_ge (by omega) (by omega)), fun _ => mx_uI (k_X12_appends (by omega) r (v := 0) (l := []) hf (Or.inr ⟨rfl, rfl⟩)) fun b h1 kk => ?_⟩
    rcases kk with ⟨c, -, -⟩ | ⟨c, -, same, r1⟩
    · omega
    · have hf' : q.2.1 < (wF (setF w q.2.1 (lnsOf w q.2.1 ++ [[]]))).length := by rw [List.length_set]; exact hf
      refine ih _ h1 r1 hq (by rw [same 346 (by decide)]; exact h6) hf' (by rw [lnsOf_setF hf, List.length_append]; simp; omega) fun h2 r2 => K h2 ?_
      rw [lnsOf_setF hf] at r2
      have e1 : setF (setF w q.2.1 (lnsOf w q.2.1 ++ [[]])) q.2.1 (putAt (lnsOf w q.2.1 ++ [[]]) q.2.2 l) = setF w q.2.1 (putAt (lnsOf w q.2.1) q.2.2 l) := by
        rw [setF_setF hf]
        congr 1
        unfold putAt
        rw [List.length_append, if_neg (by simp; omega), if_neg (by omega)]
        have : q.2.2 - (lnsOf w q.2.1).length = (q.2.2 - ((lnsOf w q.2.1).length + [([] : spL)].length)) + 1 := by simp; omega
        rw [this, List.replicate_succ]
        simp
      rw [e1] at r2
      exact r2
/-- one more output line -/
theorem RG.outp {X : List (Int32 × spL)} {Y Z : List (Int32 × Nat)} (r : RG h0 h w G V P (X, Y, Z) n m xs) {v : Int32} {l : spL} (hv : (v, l) ∈ X) (hl : (wP w).length < 100) :
    RG h0 (hsI (hsI h 342 370 (nI ((wP w).length + 1))) 342 (371 + (wP w).length) v) (uP w (wP w ++ [l])) G V P (X, Y, Z) n m xs := by
  have hw1 := r.rw1
  have p1 : hpI h 342 370 = nI (wP w).length := hw1.2.2.2.1
  have fk : ∀ k, k < 370 → fup (fup (hpI h 342) 370 (nI ((wP w).length + 1))) (371 + (wP w).length) v k = hpI h 342 k := fun k hk => by rw [fup_n (by omega), fup_n (by omega)]
  have fo : ∀ k, k < (wP w).length → fup (fup (hpI h 342) 370 (nI ((wP w).length + 1))) (371 + (wP w).length) v (371 + k) = hpI h 342 (371 + k) := fun k hk => by rw [fup_n (by omega), fup_n (by omega)]
  have f370 : fup (fup (hpI h 342) 370 (nI ((wP w).length + 1))) (371 + (wP w).length) v 370 = nI ((wP w).length + 1) := by rw [fup_n (by omega), fup_e]
  have := r.world (w' := uP w (wP w ++ [l])) (f := fup (fup (hpI h 342) 370 (nI ((wP w).length + 1))) (371 + (wP w).length) v) (g := hpL h 343) rfl rfl rfl rfl rfl rfl (Nat.le_refl _) (fun ln hw hX _ => by
    obtain ⟨⟨a1, a2, a3⟩, b, ⟨c1, c2, c3⟩, ⟨d1, d2, d3⟩⟩ := hw
    refine ⟨⟨by rw [fk 0 (by omega)]; exact a1, a2, fun i hi => ?_⟩, fun i i1 i2 => ?_, ⟨by rw [fk 329 (by omega)]; exact c1, c2, fun k hk => ?_⟩, ⟨by rw [f370]; show _ = nI (wP w ++ [l]).length; rw [List.length_append]; rfl, by show (wP w ++ [l]).length ≤ 100; rw [List.length_append]; simp; omega, fun k hk => ?_⟩⟩
    · have hi8 : i < 8 := by have : i < (wF w).length := hi; omega
      obtain ⟨e1, e2, e3, e4⟩ := a3 i hi
      refine ⟨e1, by rw [fk _ (by omega)]; exact e2, e3, fun k hk => ?_⟩
      have : k < 40 := Nat.lt_of_lt_of_le hk e3
      rw [fk _ (by omega)]; exact e4 k hk
    · obtain ⟨l2, e1, e2, e3⟩ := b i i1 i2
      exact ⟨l2, by rw [fk _ (by omega)]; exact e1, e2, fun k hk => by rw [fk _ (by omega)]; exact e3 k hk⟩
    · have : k < (wI w).length := hk
      rw [fk _ (by omega)]; exact c3 k hk
    · have hk' : k < (wP w ++ [l]).length := hk
      rw [List.length_append] at hk'
      have hk2 : k < (wP w).length + 1 := hk'
      show ln _ (wP w ++ [l])[k]
      by_cases e : k = (wP w).length
      · subst e
        rw [fup_e, List.getElem_append_right (Nat.le_refl _)]
        simp only [Nat.sub_self, List.getElem_cons_zero]
        exact hX _ hv
      · rw [fo k (by omega), List.getElem_append_left (by omega)]
        exact d3 k (by omega)) (fun L hL hX _ => by
    obtain ⟨b1, b2, b3⟩ := hw1.cnt
    obtain ⟨a, b, c'⟩ := hL
    refine ⟨fun j hj k hk => ?_, fun k hk => ?_, fun k hk => ?_⟩
    · obtain ⟨y, y1, y2⟩ := b1 j hj
      rw [fk _ (by omega)] at hk
      have hk2 : k < y := by rw [y1, nI_clamp (by omega)] at hk; exact hk
      rw [fk _ (by omega)]
      exact a j hj k hk
    · obtain ⟨y, y1, y2⟩ := b2
      rw [fk _ (by omega)] at hk
      have hk2 : k < y := by rw [y1, nI_clamp (by omega)] at hk; exact hk
      rw [fk _ (by omega)]; exact b k hk
    · rw [f370, nI_clamp (by omega)] at hk
      by_cases e : k = (wP w).length
      · rw [e, fup_e]; exact hX _ hv
      · rw [fo k (by omega)]
        exact c' k (by rw [p1, nI_clamp (by omega)]; omega))
  have e : hrL (hrI h 342 (fup (fup (hpI h 342) 370 (nI ((wP w).length + 1))) (371 + (wP w).length) v)) 343 (hpL h 343) = hsI (hsI h 342 370 (nI ((wP w).length + 1))) 342 (371 + (wP w).length) v := by
    have e1 : hpL h 343 = hpL (hrI h 342 (fup (fup (hpI h 342) 370 (nI ((wP w).length + 1))) (371 + (wP w).length) v)) 343 := rfl
    rw [e1, hrL_self]
    exact hsI_hrI.symm
  rw [e] at this
  exact this
theorem k_X12_writes (hd : 4 ≤ d) {X : List (Int32 × spL)} {Y Z : List (Int32 × Nat)} {s : Nat} {S : spS} {js : List Nat} (r : RG h0 h w ((s, S, js) :: G) V P (X, Y, Z) n m xs) (hxs : s ≠ xs) {v : Int32} {l : spL} (hv : (v, l) ∈ X) (htot : totU w < 13000) :
    mx_SM mY_X12_writes d [.ref 320, .int (nI s), .int 1, .int v] h (mx_KI (fun b h1 => b = (if (wrLine w (fH S.1 1) l).1 = true then 1 else 0) ∧ RG h0 h1 (wrLine w (fH S.1 1) l).2 ((s, S, js) :: G) V P (X, Y, Z) n m xs) fun _ _ => False) := by
  have hs := r.own.1
  have sr := r.sr
  refine b_X12_writes 320 _ _ _ ⟨by omega, sr_k sr, mx_xKI2 (k_X12_handle (j := 1) sr hs (by omega)) ?_⟩
  rcases r.handle hxs (k := 1) (by omega) with ⟨q1, q2⟩ | ⟨a, o, q, Z', q1, q2, q3, q4, q5, q6, q7, q8, q9, qa, qb, qc, r'⟩
  · rw [q2]
    refine ⟨fun c => absurd rfl c, fun _ => ?_⟩
    rw [q1]
    exact Or.inl ⟨_, rfl, rfl, r⟩
  · rw [q2]
    refine ⟨fun _ => ⟨sr_k sr, 344, sr_r58 sr, sr_k344 sr, by rw [sr_z344 sr]; exact vp_in_nI q3 (by omega), ?_⟩, fun c => absurd ((nI_neg1 (by omega)).mp c) id⟩
    rw [nI_clamp (by omega), q5, nI_toInt (by omega), q1]
    have gd : (wO w).getD a (0, 0, 0) = q := getD_of q4
    have no : q.1 = 2 ∨ q.1 = 5 → mx_SX mY_X12_writes d 142 [] [] h (mx_KI (fun b h1 => b = (if (wrLine w (some a) l).1 = true then 1 else 0) ∧ RG h0 h1 (wrLine w (some a) l).2 ((s, S, js) :: G) V P (X, Y, Z) n m xs) fun _ _ => False) := fun c => by
      have : wrLine w (some a) l = (false, w) := by
        unfold wrLine
        simp only [gd]
        rw [if_neg (by omega), if_neg (by omega), if_neg (by omega), if_neg (by omega)]
      rw [this]
      exact b_X12_writes_142 (Or.inl ⟨_, rfl, rfl, r⟩)
    refine ⟨fun c => absurd c (by omega), fun c => ?_, fun c => no (by omega), fun c => ?_, fun c => ?_, fun c => no (by omega), fun c => ?_⟩
    · have e1 : q.1 = 1 := by omega
      have p1 : hpI h 342 370 = nI (wP w).length := r.rw1.2.2.2.1
      have p2 := r.rw1.2.2.2.2.1
      have ew : wrLine w (some a) l = if 100 ≤ (wP w).length then (false, w) else (true, uP w (wP w ++ [l])) := by
        unfold wrLine
        simp only [gd]
        rw [if_pos e1]
      refine b_X12_writes_60 320 _ ⟨sr_k sr, 342, sr_r56 sr, sr_k342 sr, ?_⟩
      simp (disch := omega) only [nI_lit, sr_z342 sr, vpT, true_and, nI_clamp, p1, nI_add]
      refine ⟨fun c => ?_, fun c => ?_⟩
      · have ne : (wP w).length < 100 := by
          rcases Nat.lt_or_ge (wP w).length 100 with g | g
          · exact g
          · have : (wP w).length = 100 := by omega
            rw [this] at c; exact absurd rfl c
        have ew2 : wrLine w (some a) l = (true, uP w (wP w ++ [l])) := ew.trans (if_neg (by omega))
        rintro _ rfl
        refine ⟨342, sr_r56 sr, sr_k342 sr, by show vp_in _ (hpZ h 342); rw [sr_z342 sr]; exact vp_in_nI (by omega) (by omega), ?_⟩
        rw [hpI_sIs, fup_e, nI_add, nI_clamp (by omega)]
        refine ⟨by show vp_in _ (hpZ h 342); rw [sr_z342 sr]; exact vp_in_nI (by omega) (by omega), ?_⟩
        rintro _ rfl
        have := r.outp hv ne
        rw [show 370 + ((wP w).length + 1) = 371 + (wP w).length by omega, ew2]
        exact Or.inl ⟨_, rfl, rfl, this⟩
      · have : (wP w).length = 100 := (nI_eq (b := 100) (by omega) (by omega)).mp c
        have ew2 : wrLine w (some a) l = (false, w) := ew.trans (if_pos (by omega))
        rw [ew2]
        exact Or.inl ⟨_, rfl, rfl, r⟩
    · have e3 : q.1 = 3 := by omega
      obtain ⟨g1, g2⟩ := qa (Or.inr (Or.inl e3))
      have ew : wrLine w (some a) l = if 40 ≤ q.2.2 then (false, w) else (true, uO (setF w q.2.1 (putAt (lnsOf w q.2.1) q.2.2 l)) ((wO w).set a (q.1, q.2.1, q.2.2 + 1))) := by
        unfold wrLine
        simp only [gd]
        rw [if_neg (by omega), if_pos e3]
      refine b_X12_writes_107 320 _ _ ⟨by omega, sr_k sr, ?_⟩
      refine b_X12_writesAt 320 _ _ ⟨sr_k sr, 346, sr_r60 sr, sr_k346 sr, by rw [sr_z346 sr]; exact vp_in_nI q3 (by omega), ?_⟩
      rw [nI_clamp (by omega), q8]
      refine ⟨fun c => ?_, fun c => ?_⟩
      · have lt : q.2.2 < 40 := (nI_ltI (b := 40) (by omega) (by omega)).mp c
        rw [ew.trans (if_neg (by omega))]
        refine ⟨345, sr_r59 sr, sr_k345 sr, by rw [sr_z345 sr]; exact vp_in_nI q3 (by omega), ?_⟩
        rw [g1]
        refine wa_20 (by omega) List.mem_cons_self q3 lt hv _ w h r' q4 q8 g2 rfl fun h1 r1 => ?_
        exact Or.inl ⟨1, rfl, Or.inr rfl, Or.inl ⟨_, rfl, rfl, r1.back (fun _ h => h) (fun _ h => List.mem_cons_of_mem _ h) qc⟩⟩
      · have : 40 ≤ q.2.2 := Nat.le_of_not_lt fun g => c (nI_lt (b := 40) g (by omega))
        rw [ew.trans (if_pos this)]
        exact Or.inl ⟨0, rfl, Or.inl rfl, Or.inl ⟨_, rfl, rfl, r⟩⟩
    · have e4 : q.1 = 4 := by omega
      obtain ⟨g1, g2⟩ := qa (Or.inr (Or.inr e4))
      have ew : wrLine w (some a) l = if 40 ≤ (lnsOf w q.2.1).length then (false, w) else (true, setF w q.2.1 (lnsOf w q.2.1 ++ [l])) := by
        unfold wrLine
        simp only [gd]
        rw [if_neg (by omega), if_neg (by omega), if_pos e4]
      refine b_X12_writes_115 320 _ _ ⟨sr_k sr, 345, sr_r59 sr, sr_k345 sr, by rw [sr_z345 sr]; exact vp_in_nI q3 (by omega), by omega, ?_⟩
      rw [nI_clamp (by omega), g1]
      refine mx_uI (k_X12_appends (by omega) r g2 (Or.inl hv)) fun b h1 k => ?_
      rcases k with ⟨k1, k2, k3⟩ | ⟨k1, k2, -, k3⟩
      · rw [ew.trans (if_pos k1), k2, k3]
        exact ⟨Or.inl rfl, Or.inl ⟨_, rfl, rfl, r⟩⟩
      · rw [ew.trans (if_neg (by omega)), k2]
        exact ⟨Or.inr rfl, Or.inl ⟨_, rfl, rfl, k3⟩⟩
    · have e6 : q.1 = 6 := by omega
      obtain ⟨b, b1, b2⟩ := qb (Or.inr e6)
      have ew : wrLine w (some a) l = (true, uU w ((wU w).set q.2.1 ((wU w).getD q.2.1 [] ++ [l]))) := by
        unfold wrLine
        simp only [gd]
        rw [if_neg (by omega), if_neg (by omega), if_neg (by omega), if_pos e6]
      refine b_X12_writes_128 320 _ _ ⟨sr_k sr, 345, sr_r59 sr, sr_k345 sr, by rw [sr_z345 sr]; exact vp_in_nI q3 (by omega), by omega, ?_⟩
      rw [nI_clamp (by omega), b1]
      refine mx_uV (k_X12_addsTo r' b2 hv htot) fun h1 k => ?_
      rw [ew]
      exact Or.inl ⟨_, rfl, rfl, k.back (fun _ h => h) (fun _ h => List.mem_cons_of_mem _ h) qc⟩
end MXWR
