/-! THE REFERENCE: echo, read, exit, trap, set -/
section MXOP
variable {d : Nat} {h0 h : mxH} {w : spW} {G : List spE} {V : List (Option (Option Nat))} {P : List spX} {N : spN} {n m xs : Nat} {Q : mxRes → mxH → Prop} {Z : List (Int32 × Nat)} {s : Nat} {S : spS} {js : List Nat}
theorem RG.uM {k : Nat} (r : RG h0 h w G V P N n m xs) : RG h0 h (uM w k) G V P N n m xs := r
theorem RG.zero (r : RG h0 h w G V P N n m xs) : RG h0 h w G V P ((0, []) :: N.1, N.2) n m xs := by
  obtain ⟨A, B, Qs, fr, sr, hw, ht, ho, hp, he, hv, hk, ⟨Lr, ⟨l1, l1'⟩, l2, l3, l4, l5, l6⟩, hd, hz, hN1, hN2⟩ := r
  refine ⟨A, B, Qs, fr, sr, hw, ht, ho, hp, he, hv, hk, ⟨Lr, ⟨l1, l1'⟩, l2, l3, l4, l5, fun q hq => ?_⟩, hd, hz, fun q hq => ?_, hN2⟩
  · rcases List.mem_cons.mp hq with rfl | hq
    · exact l1'
    · exact l6 q hq
  · rcases List.mem_cons.mp hq with rfl | hq
    · exact hz.1
    · exact hN1 q hq
theorem RG.lineB {v : Int32} {l : spL} (r : RG h0 h w G V P N n m xs) (hv : (v, l) ∈ N.1) : ∃ i, v = nI i ∧ i < 4400 := by
  obtain ⟨A, B, Qs, -, -, -, -, -, -, -, -, -, -, -, -, hN1, -⟩ := r
  obtain ⟨i, i1, i2, -⟩ := hN1 _ hv
  exact ⟨i, i1, i2⟩
/-- a command's answer: a status, or the shell has ended (it read in the background) -/
def RBr (h0 : mxH) (G : List spE) (V : List (Option (Option Nat))) (P : List spX) (Z : List (Int32 × Nat)) (n m xs s : Nat) (S : spS) (js : List Nat) (r : Int32 × spW × spF) (v : Int32) (h1 : mxH) : Prop :=
  (r.1 ≠ -2 ∧ v = r.1 ∧ RG h0 h1 r.2.1 ((s, (r.2.2, S.2), js) :: G) V P ([], [], Z) n m xs) ∨ (r.1 = -2 ∧ v = 1 ∧ RG h0 h1 r.2.1 ((s, (vS r.2.2 149, true, S.2.2), js) :: G) V P ([], [], Z) n m xs)
/-- the row said -/
def Sd (t : Nat → Int32) (B : spL) : Prop := ∀ j (hj : j < B.length), j < 80 → t j = B[j]
theorem k_X12_adds (sr : SR h) {t : Nat → Int32} {B : spL} (hB : Sd t B) {c : Int32} (hc : isB c) : mx_SM mY_X12_adds d [.ref 320, .int (nI (min 80 B.length)), .int c] (hrI h 360 t) (mx_KI (fun v h1 => v = nI (min 80 (B ++ [c]).length) ∧ ∃ t', h1 = hrI h 360 t' ∧ Sd t' (B ++ [c])) fun _ _ => False) := by
  refine b_X12_adds 320 _ _ ⟨fun q => ?_, fun q => ?_⟩
  · have lt : B.length < 80 := by
      rcases Nat.lt_or_ge B.length 80 with g | g
      · exact g
      · rw [Nat.min_eq_left g] at q; exact absurd rfl q
    rw [Nat.min_eq_right (by omega), nI_clamp (by omega), hc, hc, nI_1]
    refine ⟨sr_k sr, 360, sr_r79 sr, sr_k360 sr, by rw [hpZ_rI, sr_z360 sr]; exact vp_in_nI lt (by omega), ?_⟩
    rw [hsI_hrI]
    rintro _ rfl
    refine Or.inl ⟨_, rfl, by rw [List.length_append]; simp; congr 1; omega, _, rfl, fun j hj _ => ?_⟩
    by_cases e : j = B.length
    · subst e; rw [fup_e, List.getElem_append_right (Nat.le_refl _)]; simp
    · have hj2 : j < B.length := by rw [List.length_append] at hj; simp at hj; omega
      rw [fup_n e, List.getElem_append_left hj2]; exact hB j hj2 (by omega)
  · have e : min 80 B.length = 80 := (nI_eq (b := 80) (by omega) (by omega)).mp q
    refine Or.inl ⟨_, rfl, by rw [List.length_append]; congr 1; omega, t, rfl, fun j hj h8 => ?_⟩
    rw [List.getElem_append_left (by omega)]; exact hB j (by omega) h8
theorem ec_27 (hd : 1 ≤ d) (sr : SR h) {k b : Nat} {l : spL} (ra : RA1 h k b l) {s : Nat} : ∀ q i t B, i + q = l.length → Sd t B →
    (∀ t', Sd t' (B ++ l.drop i) → mx_SX mY_X12_echoes d 4 [(0, .ref 320), (1, .int (nI s)), (2, .int (nI (min 80 (B ++ l.drop i).length))), (3, .int (nI (k + 1)))] [] (hrI h 360 t') Q) →
    mx_SX mY_X12_echoes d 27 [(0, .ref 320), (1, .int (nI s)), (2, .int (nI (min 80 B.length))), (3, .int (nI k)), (4, .int (nI i))] [] (hrI h 360 t) Q := by
  obtain ⟨r1, r2, r3, r4, r5⟩ := id ra
  intro q
  induction q with
  | zero =>
    intro i t B hi hB K
    refine b_X12_echoes_27 320 _ _ _ _ ⟨sr_k sr, 359, sr_r76 sr, sr_k359 sr, by rw [hpZ_rI, sr_z359 sr]; exact vp_in_nI r1 (by omega), ?_⟩
    rw [hpI_rI, if_neg (by decide), nI_clamp (by omega), r2, nI_1]
    have e : l.drop i = [] := List.drop_eq_nil_of_le (by omega)
    rw [e, List.append_nil] at K
    exact ⟨fun _ => K t hB, fun c => absurd (nI_le (by omega) (by omega)) c⟩
  | succ q ih =>
    intro i t B hi hB K
    refine b_X12_echoes_27 320 _ _ _ _ ⟨sr_k sr, 359, sr_r76 sr, sr_k359 sr, by rw [hpZ_rI, sr_z359 sr]; exact vp_in_nI r1 (by omega), ?_⟩
    rw [hpI_rI, if_neg (by decide), nI_clamp (n := k) (by omega), r2]
    refine ⟨fun c => absurd c (nI_ge (by omega) (by omega)), fun _ => ⟨357, sr_r74 sr, 358, sr_r75 sr, sr_k358 sr, by rw [hpZ_rI, sr_z358 sr]; exact vp_in_nI r1 (by omega), sr_k357 sr, ?_⟩⟩
    rw [hpI_rI, if_neg (by decide), hpI_rI, if_neg (by decide), r3, nI_add, nI_clamp (n := b + i) (by omega), (r5 i (by omega)).1]
    refine ⟨by rw [hpZ_rI, sr_z357 sr]; exact vp_in_nI (by omega) (by omega), hd, mx_uI (k_X12_adds sr hB (r5 i (by omega)).2) ?_⟩
    rintro v h1 ⟨rfl, t', rfl, hB'⟩
    rw [nI_1]
    have e : l.drop i = l[i]'(by omega) :: l.drop (i + 1) := List.drop_eq_getElem_cons (by omega)
    refine ih (i + 1) t' _ (by omega) hB' fun t2 h2 => ?_
    have e2 : (B ++ [l[i]'(by omega)]) ++ l.drop (i + 1) = B ++ l.drop i := by rw [e, List.append_assoc]; rfl
    rw [e2] at h2 ⊢
    exact K t2 h2
theorem joinA_snoc : ∀ (l : List spL) (a : spL), joinA (l ++ [a]) = if l = [] then a else joinA l ++ 32 :: a
  | [], a => rfl
  | [b], a => rfl
  | b :: c :: l, a => by
    rw [if_neg (List.cons_ne_nil _ _)]
    have := joinA_snoc (c :: l) a
    rw [if_neg (List.cons_ne_nil _ _)] at this
    show b ++ 32 :: joinA ((c :: l) ++ [a]) = _
    rw [this]
    show b ++ 32 :: (joinA (c :: l) ++ 32 :: a) = (b ++ 32 :: joinA (c :: l)) ++ 32 :: a
    simp
theorem joinA_B : ∀ (l : List spL), (∀ a ∈ l, ∀ c ∈ a, isB c) → ∀ c ∈ joinA l, isB c
  | [], _, c, h => absurd h (List.not_mem_nil)
  | [a], hl, c, h => hl a List.mem_cons_self c h
  | a :: b :: l, hl, c, h => by
    have h' : c ∈ a ++ 32 :: joinA (b :: l) := h
    rcases List.mem_append.mp h' with g | g
    · exact hl a List.mem_cons_self c g
    · rcases List.mem_cons.mp g with g | g
      · subst g; decide
      · exact joinA_B (b :: l) (fun x hx => hl x (List.mem_cons_of_mem _ hx)) c g
theorem ec_4 (hd : 6 ≤ d) (hxs : s ≠ xs) (hn : n < 4399) (htot : totU w < 13000) {as : List spL} (ra : RA h as) (h30 : as.flatten.length ≤ 30000) (hl : as.length ≤ 400) (r : RG h0 h w ((s, S, js) :: G) V P ([], [], Z) n m xs) :
    ∀ q k t, k + q = as.length → Sd t (joinA (as.take k)) →
    mx_SX mY_X12_echoes d 4 [(0, .ref 320), (1, .int (nI s)), (2, .int (nI (min 80 (joinA (as.take k)).length))), (3, .int (nI k))] [] (hrI h 360 t) (mx_KI (RBr h0 G V P Z (n + 1) m xs s S js (opEcho as w S.1)) fun _ _ => False) := by
  have sr := r.sr
  intro q
  induction q with
  | zero =>
    intro k t hk hB
    have e : as.take k = as := List.take_of_length_le (by omega)
    rw [e] at hB ⊢
    refine b_X12_echoes_4 320 _ _ _ ⟨sr_k sr, ?_⟩
    rw [hpI_rI, if_neg (by decide), ra.1]
    refine ⟨fun _ => ⟨360, sr_r79 sr, by omega, ?_⟩, fun c => absurd (nI_le (by omega) (by omega)) c⟩
    have r1 := r.sa (Sa.rI (h := h) (a := 360) (t := t) (Or.inr (Or.inr (Or.inr rfl))))
    have hbb : ∀ j (hj : j < (joinA as).length), isB (joinA as)[j] := fun j hj => joinA_B as (fun a ha c hc => by
      obtain ⟨k, hk, rfl⟩ := List.mem_iff_getElem.mp ha
      obtain ⟨b, rb⟩ := ra.at h30 hl hk
      obtain ⟨i, hi, rfl⟩ := List.mem_iff_getElem.mp hc
      exact (rb.2.2.2.2 i hi).2) _ (List.getElem_mem hj)
    refine mx_uI (k_X12_lineOf (p := 0) (c := min 80 (joinA as).length) (by omega) r1 hn (Or.inr (Or.inr rfl)) (by omega) (by show 0 + _ ≤ 80; omega) (fun j hj => ?_)) fun v h1 r2 => ?_
    · rw [hpI_rIs, Nat.zero_add, hB j (by omega) (by omega)]; exact hbb j (by omega)
    · have el : srcL (hrI h 360 t) 360 0 (min 80 (min 80 (joinA as).length)) = (joinA as).take 80 := by
        apply List.ext_getElem
        · simp
        · intro i h1 h2
          rw [srcL_at, hpI_rIs]
          rw [List.length_take] at h2
          rw [Nat.zero_add, List.getElem_take]
          exact hB i (by omega) (by omega)
      rw [el] at r2
      refine ⟨sr_k r2.sr, mx_uI (k_X12_writes (by omega) (r2.uM (k := wM w + 1)) hxs List.mem_cons_self htot) ?_⟩
      rintro b h2 ⟨rfl, r3⟩
      have r4 : RG h0 h2 (wrLine (uM w (wM w + 1)) (fH S.1 1) ((joinA as).take 80)).2 ((s, (S.1, S.2), js) :: G) V P ([], [], Z) (n + 1) m xs := r3.drop (fun _ h => absurd h List.not_mem_nil) (fun _ h => h) (fun _ h => h)
      unfold opEcho
      cases e : (wrLine (uM w (wM w + 1)) (fH S.1 1) ((joinA as).take 80)).1 with
      | true => exact ⟨fun c => absurd c (by decide), fun _ => Or.inl ⟨_, rfl, Or.inl ⟨by simp [e], by simp [e], r4⟩⟩⟩
      | false => exact ⟨fun _ => Or.inl ⟨_, rfl, Or.inl ⟨by simp [e], by simp [e], r4⟩⟩, fun c => absurd rfl c⟩
  | succ q ih =>
    intro k t hk hB
    obtain ⟨b, rb⟩ := ra.at h30 hl (k := k) (by omega)
    refine b_X12_echoes_4 320 _ _ _ ⟨sr_k sr, ?_⟩
    rw [hpI_rI, if_neg (by decide), ra.1]
    have et := List.take_succ_eq_append_getElem (l := as) (i := k) (by omega)
    have ej := joinA_snoc (as.take k) (as[k]'(by omega))
    rw [← et] at ej
    have nx : ∀ t B, B ++ (as[k]'(by omega)) = joinA (as.take (k + 1)) → Sd t B → mx_SX mY_X12_echoes d 24 [(0, .ref 320), (1, .int (nI s)), (2, .int (nI (min 80 B.length))), (3, .int (nI k))] [] (hrI h 360 t) (mx_KI (RBr h0 G V P Z (n + 1) m xs s S js (opEcho as w S.1)) fun _ _ => False) := fun t B eB hB => by
      refine b_X12_echoes_24 320 _ _ _ (ec_27 (by omega) sr rb _ 0 t B (Nat.zero_add _) hB fun t' h' => ?_)
      rw [List.drop_zero, eB] at h' ⊢
      exact ih (k + 1) t' (by omega) h'
    refine ⟨fun c => absurd c (nI_ge (by omega) (by omega)), fun _ => ⟨fun c => ?_, fun c => ⟨by omega, mx_uI (k_X12_adds sr hB (by decide)) ?_⟩⟩⟩
    · have k0 : k = 0 := by
        rcases Nat.eq_zero_or_pos k with e | e
        · exact e
        · exact absurd c (nI_nle e (by omega))
      subst k0
      exact nx t _ (by rw [ej]; rfl) hB
    · have k0 : as.take k ≠ [] := fun e => by
        have := congrArg List.length e
        rw [List.length_take] at this
        have k0 : k = 0 := by rw [List.length_nil] at this; omega
        subst k0
        exact c (by decide)
      rw [if_neg k0] at ej
      rintro v h1 ⟨rfl, t', rfl, hB'⟩
      exact nx t' _ (by rw [ej, List.append_assoc]; rfl) hB'
theorem k_X12_echoes (hd : 6 ≤ d) (hxs : s ≠ xs) (hn : n < 4399) (htot : totU w < 13000) {as : List spL} (ra : RA h as) (h30 : as.flatten.length ≤ 30000) (hl : as.length ≤ 400) (r : RG h0 h w ((s, S, js) :: G) V P ([], [], Z) n m xs) :
    mx_SM mY_X12_echoes d [.ref 320, .int (nI s)] h (mx_KI (RBr h0 G V P Z (n + 1) m xs s S js (opEcho as w S.1)) fun _ _ => False) := by
  have := ec_4 hd hxs hn htot ra h30 hl r as.length 0 (hpI h 360) (Nat.zero_add _) (fun j hj => absurd hj (Nat.not_lt_zero _))
  rw [hrI_self] at this
  exact b_X12_echoes 320 _ this
theorem wX_rd {oh : Option Nat} {bg : Bool} : wX (rdLine w oh bg).2 = wX w := by
  unfold rdLine
  cases oh with
  | none => rfl
  | some o =>
    simp only []
    split
    · split
      · rfl
      · split <;> rfl
    · split
      · split <;> rfl
      · split
        · split <;> rfl
        · rfl
theorem rd_1 {oh : Option Nat} {bg : Bool} (h : (rdLine w oh bg).1.1 = 1) : (rdLine w oh bg).1.2 = [] := by
  revert h
  unfold rdLine
  cases oh with
  | none => intro _; rfl
  | some o =>
    simp only []
    split
    · split
      · intro h; cases h
      · split
        · intro _; rfl
        · intro h; cases h
    · split
      · split
        · intro h; cases h
        · intro _; rfl
      · split
        · split
          · intro _; rfl
          · intro h; cases h
        · intro h; cases h
theorem k_X12_readsInto (hd : 4 ≤ d) (hxs : s ≠ xs) {as : List spL} (ra : RA h as) (h30 : as.flatten.length ≤ 30000) (hl : as.length ≤ 400) (hX : wX w = false) (hS : S.2.1 = false) (r : RG h0 h w ((s, S, js) :: G) V P ([], [], Z) n m xs) :
    mx_SM mY_X12_readsInto d [.ref 320, .int (nI s)] h (mx_KI (RBr h0 G V P Z n m xs s S js (opRead as w S.1)) fun _ _ => False) := by
  have sr := r.sr
  refine b_X12_readsInto 320 _ ⟨sr_k sr, ?_⟩
  rw [ra.1]
  unfold opRead
  by_cases c1 : as.length = 1
  · refine ⟨fun c => absurd (by rw [c1]; rfl) c, fun _ => ⟨by omega, ?_⟩⟩
    obtain ⟨b, rb⟩ := ra.at h30 hl (k := 0) (by omega)
    have e0 : as.getD 0 [] = as[0]'(by omega) := gd_at (by omega)
    rw [e0]
    refine mx_xKL2 (k_X12_nameAt (by omega) sr rb) ?_
    rw [lg_cmp_eq]
    refine ⟨fun c2 => ⟨sr_k sr, mx_uI (k_X12_reads (by omega) r hxs) fun v h1 k => ?_⟩, fun c2 => Or.inl ⟨_, rfl, Or.inl ⟨by rw [if_pos (Or.inr c2)]; show (2 : Int32) ≠ -2; decide, by rw [if_pos (Or.inr c2)], by rw [if_pos (Or.inr c2)]; exact r⟩⟩⟩
    have c12 : ¬ (as.length ≠ 1 ∨ nmL (as[0]'(by omega)) = 0) := fun q => q.elim (fun g => g c1) c2
    rw [if_neg c12]
    have hx : wX (rdLine w (fH S.1 0) (fG S.1)).2 = false := wX_rd.trans hX
    have z2 : (0 : Int32) = 0 := rfl
    rcases k with ⟨k1, ⟨i, rfl, ki⟩, k2⟩ | ⟨k1, rfl, k2⟩ | ⟨k1, rfl, k2⟩ | ⟨k1, rfl, k2⟩
    · refine ⟨sr_k k2.sr, mx_xKI2 (k_X12_isHalted (by omega) k2) ?_⟩
      rw [hx, hS]
      refine ⟨fun c => absurd rfl c, fun _ => ⟨fun _ => ⟨fun _ => ⟨sr_k k2.sr, mx_uI (k_X12_assigns (by omega) k2 List.mem_cons_self) fun b h2 g => ?_⟩, fun c => absurd c (fun q => (nI_neg1 (by omega)).mp q)⟩, fun c => ?_⟩⟩
      · refine ⟨fun c => absurd c (fun q => (nI_neg1 (by omega)).mp q), fun _ => ?_⟩
        rw [if_neg (by omega), if_neg (by omega)]
        revert g
        cases asgn S.1 (nmL (as[0]'(by omega))) (rdLine w (fH S.1 0) (fG S.1)).1.2 with
        | none =>
          rintro ⟨rfl, g⟩
          exact ⟨fun c => absurd rfl c, fun _ => b_X12_readsInto_82 (Or.inl ⟨_, rfl, Or.inl ⟨by show (1 : Int32) ≠ -2; decide, rfl, g.drop (fun _ h => absurd h List.not_mem_nil) (fun _ h => h) (fun _ h => h)⟩⟩)⟩
        | some f1 =>
          rintro ⟨rfl, g⟩
          refine ⟨fun _ => Or.inl ⟨_, rfl, Or.inl ⟨?_, ?_, g.drop (fun _ h => absurd h List.not_mem_nil) (fun _ h => h) (fun _ h => h)⟩⟩, fun c => absurd c (by decide)⟩
          · show (if (rdLine w (fH S.1 0) (fG S.1)).1.1 = 0 then (0 : Int32) else 1) ≠ -2
            rw [if_pos k1]; decide
          · show _ = (if (rdLine w (fH S.1 0) (fG S.1)).1.1 = 0 then (0 : Int32) else 1)
            rw [if_pos k1]
      · exfalso
        have e : (-2 : Int32).toInt = -2 := by decide
        have e2 := congrArg Int32.toInt c
        rw [nI_toInt (by omega), e] at e2
        omega
    · have k3 := k2.zero
      refine ⟨sr_k k2.sr, mx_xKI2 (k_X12_isHalted (by omega) k2) ?_⟩
      rw [hx, hS]
      refine ⟨fun c => absurd rfl c, fun _ => ⟨fun _ => ⟨fun c => absurd rfl c, fun _ => ⟨sr_k k2.sr, mx_uI (k_X12_assigns (by omega) k3 List.mem_cons_self) fun b h2 g => ?_⟩⟩, fun c => absurd c (by decide)⟩⟩
      refine ⟨fun _ => b_X12_readsInto_82 ?_, fun c => absurd rfl c⟩
      rw [if_neg (by omega), if_neg (by omega), rd_1 k1]
      revert g
      cases asgn S.1 (nmL (as[0]'(by omega))) [] with
      | none =>
        rintro ⟨rfl, g⟩
        exact Or.inl ⟨_, rfl, Or.inl ⟨by show (1 : Int32) ≠ -2; decide, rfl, g.drop (fun _ h => absurd h List.not_mem_nil) (fun _ h => h) (fun _ h => h)⟩⟩
      | some f1 =>
        rintro ⟨rfl, g⟩
        refine Or.inl ⟨_, rfl, Or.inl ⟨?_, ?_, g.drop (fun _ h => absurd h List.not_mem_nil) (fun _ h => h) (fun _ h => h)⟩⟩
        · show (if (rdLine w (fH S.1 0) (fG S.1)).1.1 = 0 then (0 : Int32) else 1) ≠ -2
          rw [if_neg (by omega)]; decide
        · show _ = (if (rdLine w (fH S.1 0) (fG S.1)).1.1 = 0 then (0 : Int32) else 1)
          rw [if_neg (by omega)]
    · refine ⟨sr_k k2.sr, mx_xKI2 (k_X12_isHalted (by omega) k2) ?_⟩
      rw [hx, hS]
      refine ⟨fun c => absurd rfl c, fun _ => ⟨fun c => absurd rfl c, fun _ => ?_⟩⟩
      rw [if_neg (by omega), if_pos k1]
      exact Or.inl ⟨_, rfl, Or.inl ⟨by show (1 : Int32) ≠ -2; decide, rfl, k2⟩⟩
    · refine ⟨sr_k k2.sr, mx_xKI2 (k_X12_isHalted (by omega) k2) ?_⟩
      rw [hx]
      refine ⟨fun _ => ?_, fun c => absurd c (by simp)⟩
      rw [if_pos k1]
      exact Or.inl ⟨_, rfl, Or.inr ⟨rfl, rfl, k2⟩⟩
  · rw [if_pos (Or.inl c1)]
    refine ⟨fun _ => ⟨fun c => absurd ((lg_cmp_eq _ _).mpr rfl) c, fun _ => Or.inl ⟨_, rfl, Or.inl ⟨by show (2 : Int32) ≠ -2; decide, rfl, r⟩⟩⟩, fun c => absurd ((nI_eq (b := 1) (by omega) (by omega)).mp c) c1⟩
end MXOP
