/-! NAMES ARE POSITIVE; what commands do to functions and actions -/
section MXPE
variable {D : pmC} {T : spT} {nn k d d1 d2 d' g g2 p q r s : Nat} {x x0 x1 x' y y0 y1 y2 : spX} {en : Bool} {F fr : List pmF} {K K' : List (pmU × pmL)} {m m1 m' : pmM} {v l rr ac : Int32} {c : spC} {w w1 : spW} {f f1 : spF} {js : List spJ} {u : pmU} {as : List spL}
theorem i64_add {a b : Int64} (h1 : -(2 ^ 63) ≤ a.toInt + b.toInt) (h2 : a.toInt + b.toInt < 2 ^ 63) : (a + b).toInt = a.toInt + b.toInt := by
  rw [Int64.toInt_add]
  exact Int.bmod_eq_of_le (by omega) (by omega)
theorem i64_mul {a b : Int64} (h1 : -(2 ^ 63) ≤ a.toInt * b.toInt) (h2 : a.toInt * b.toInt < 2 ^ 63) : (a * b).toInt = a.toInt * b.toInt := by
  rw [Int64.toInt_mul]
  exact Int.bmod_eq_of_le (by omega) (by omega)
theorem ltV_at : ∀ k, k < 128 → isLt (nI k) = true → 1 ≤ (ltV (nI k)).toInt ∧ (ltV (nI k)).toInt ≤ 36 := by decide +kernel
theorem isLt_at {c : Int32} (h : isLt c = true) : 1 ≤ (ltV c).toInt ∧ (ltV c).toInt ≤ 36 := by
  have hh := h
  unfold isLt at h
  rw [Bool.or_eq_true, Bool.and_eq_true, Bool.and_eq_true] at h
  have r : (0 : Int32) ≤ c ∧ c ≤ 122 := by
    rcases h with ⟨a, b⟩ | ⟨a, b⟩
    · have a := Int32.le_iff_toInt_le.mp (of_decide_eq_true a)
      have b := Int32.le_iff_toInt_le.mp (of_decide_eq_true b)
      have e1 : (97 : Int32).toInt = 97 := rfl
      have e2 : (122 : Int32).toInt = 122 := rfl
      have e3 : (0 : Int32).toInt = 0 := rfl
      exact ⟨Int32.le_iff_toInt_le.mpr (by omega), Int32.le_iff_toInt_le.mpr (by omega)⟩
    · have a := Int32.le_iff_toInt_le.mp (of_decide_eq_true a)
      have b := Int32.le_iff_toInt_le.mp (of_decide_eq_true b)
      have e1 : (48 : Int32).toInt = 48 := rfl
      have e2 : (57 : Int32).toInt = 57 := rfl
      have e3 : (0 : Int32).toInt = 0 := rfl
      have e4 : (122 : Int32).toInt = 122 := rfl
      exact ⟨Int32.le_iff_toInt_le.mpr (by omega), Int32.le_iff_toInt_le.mpr (by omega)⟩
  have e := Int32.ofNat_toNatClampNeg c r.1
  have lt : c.toNatClampNeg < 128 := by
    have b := Int32.le_iff_toInt_le.mp r.2
    have e2 : (122 : Int32).toInt = 122 := rfl
    have e5 : c.toNatClampNeg = c.toInt.toNat := rfl
    omega
  have e9 : c = nI c.toNatClampNeg := e.symm
  rw [e9] at hh ⊢
  exact ltV_at _ lt hh
theorem nmV_at : ∀ (l : spL) (v : Int64) (b : Int), (∀ c ∈ l, isLt c = true) → 0 ≤ v.toInt → v.toInt < b → b * 37 ^ l.length < 2 ^ 63 → 0 ≤ (l.foldl (fun v c => 37 * v + ltV c) v).toInt ∧ (l ≠ [] → 0 < (l.foldl (fun v c => 37 * v + ltV c) v).toInt)
  | [], v, b, _, h0, _, _ => ⟨h0, fun e => absurd rfl e⟩
  | c :: l, v, b, hl, h0, hb, h37 => by
    obtain ⟨c1, c2⟩ := isLt_at (hl c List.mem_cons_self)
    have e37 : ((37 : Int64)).toInt = 37 := rfl
    have pl : (1 : Int) ≤ 37 ^ l.length := by
      have := Int.pow_pos (n := 37) (m := l.length) (show (0 : Int) < 37 by decide)
      omega
    have hp : b * 37 ^ (c :: l).length = b * 37 * 37 ^ l.length := by
      rw [List.length_cons, Int.pow_succ, Int.mul_assoc, Int.mul_comm 37 (37 ^ l.length)]
    rw [hp] at h37
    have b0 : 0 < b := by omega
    have hb37 : b * 37 < 2 ^ 63 := by
      have : b * 37 * 1 ≤ b * 37 * 37 ^ l.length := Int.mul_le_mul_of_nonneg_left pl (by omega)
      omega
    have m1 : (37 * v).toInt = 37 * v.toInt := by
      have := i64_mul (a := 37) (b := v) (by rw [e37]; omega) (by rw [e37]; omega)
      rw [this, e37]
    have a1 : (37 * v + ltV c).toInt = 37 * v.toInt + (ltV c).toInt := by
      have := i64_add (a := 37 * v) (b := ltV c) (by rw [m1]; omega) (by rw [m1]; omega)
      rw [this, m1]
    have ih := nmV_at l (37 * v + ltV c) (b * 37) (fun c hc => hl c (List.mem_cons_of_mem _ hc)) (by omega) (by omega) h37
    refine ⟨ih.1, fun _ => ?_⟩
    cases l with
    | nil =>
      show 0 < (37 * v + ltV c).toInt
      omega
    | cons c' l' => exact ih.2 (by intro e; cases e)
theorem nm_pos (l : spL) : nmL l = 0 ∨ 0 < nmL l := by
  unfold nmL
  split
  · rename_i h
    right
    have hp : (37 : Int) ^ l.length ≤ 37 ^ 12 := by
      have := Nat.pow_le_pow_right (n := 37) (by decide) h.2.1
      have e1 : ((37 : Int)) ^ l.length = ((37 ^ l.length : Nat) : Int) := by rw [Int.natCast_pow]; rfl
      have e2 : ((37 : Int)) ^ 12 = ((37 ^ 12 : Nat) : Int) := by decide
      rw [e1, e2]
      exact Int.ofNat_le.mpr this
    have := (nmV_at l 0 1 (fun c hc => List.all_eq_true.mp h.2.2 c hc) (by decide) (by decide) (by
      rw [Int.one_mul]
      have : (37 : Int) ^ 12 < 2 ^ 63 := by decide
      omega)).2 (fun e => by rw [e] at h; exact absurd h.1 (by decide))
    exact Int64.lt_iff_toInt_lt.mpr this
  · exact Or.inl rfl
/-! okX1 -/
theorem okX1.asg (h : okX1 D T f) {a : Int64} {b : spL} (e : asgn f a b = some f1) : okX1 D T f1 := by
  unfold asgn at e
  split at e
  · cases e; exact h
  · split at e
    · cases e
    · cases e; exact h
theorem okX1.rd (h : okX1 D T f) : okX1 D T (opRead as w f).2.2 := by
  unfold opRead
  split
  · exact h
  · simp only []
    split
    · exact h
    · split
      · exact h
      · split
        · exact h
        · rename_i f1 e
          exact h.asg e
theorem okX1.trp (h : okX1 D T f) : okX1 D T (opTrap as w f).2.2 := by
  unfold opTrap
  split
  · exact h
  · rename_i c
    split
    · exact h
    · rename_i g eg
      refine ⟨h.1, fun g' => ?_, h.2.2⟩
      show fup (fA f) g _ g' = 0 ∨ fup (fA f) g _ g' = -2 ∨ 0 < fup (fA f) g _ g'
      by_cases e : g' = g
      · rw [e, fup_e]
        split
        · exact Or.inl rfl
        · split
          · exact Or.inr (Or.inl rfl)
          · rcases nm_pos (as.getD 0 []) with z | z
            · exact absurd (Or.inr z) c
            · exact Or.inr (Or.inr z)
      · rw [fup_n e]; exact h.2.1 g'
theorem okX1.stt (h : okX1 D T f) : okX1 D T (opSet as w f).2.2 := by
  unfold opSet
  split
  · exact h
  · exact h
theorem okX1.ass (h : okX1 D T f) {a : Int64} {b : spL} : okX1 D T (opAsgn a b w f).2.2 := by
  unfold opAsgn
  split
  · exact h
  · rename_i f1 e
    exact h.asg e
/-- a state at a body's step -/
theorem PI.at7 (hz : Hz T nn (cBdy v) x) (nX : wX (xw x) = false) (ox : okX D T x) (rm : Rm x F K d g) (hp : p < kZ D) : PI D (xw x, p, (xf x, en, xj x, F), K) := by
  have hw := hz.2.2 nX
  have hw : okW (xw x) 1 0 := hw
  exact ⟨hp, hw.lo, nX, fun _ => hw, by have := rm.1; show F.length + nFK K ≤ 2900; omega, rm.2.1, by have := rm.2.2; show K.length ≤ 100; omega, hz.2.1.1.1, ox.1.2.2.1, ox.1.2.2.2, ox.2.1⟩
/-- a command that leaves the order of execution as it is -/
theorem sm_res {rr : Int32 × spW × spF} (o : Owk T nn (xw x) (xf x) rr) (hz : Hz T nn (cBdy v) x) (nX : wX (xw x) = false) (ne : xe x = false) (ox : okX D T x) (rm : Rm x F K d g) (hp : p < kZ D) (ho : okX1 D T rr.2.2)
    (st : pmStep D (xw x, p, (xf x, en, xj x, F), K) = pmRes D p en (xj x) F K rr) : SR0 D T (xw x, p, (xf x, en, xj x, F), K) x (zRes x rr) p (p + 1) 10000 6000 (Out D x (zRes x rr) (p + 1) en F K d) := by
  have hw : wX rr.2.1 = wX (xw x) ∧ wB rr.2.1 = wB (xw x) := by
    obtain ⟨⟨mm, -, wr⟩, -⟩ := o
    exact ⟨wr.2.2.1, wr.1⟩
  have pi := PI.at7 (en := en) hz nX ox rm hp
  unfold pmRes at st
  unfold zRes
  by_cases c : rr.1 = -2
  · rw [if_pos c] at st ⊢
    refine SR0.done (pmIt.one pi st) ⟨ho, ox.2⟩ ?_ (Or.inr (Or.inl ⟨rfl, hw.1.trans nX, rfl, vS rr.2.2 149, [], rfl, feq.rf, rfl, Nat.zero_le _, ?_, ho.2.2.1⟩))
    · rw [if_pos rfl]
      show 1 + p + 20000 * wB (xw x) + 6000 ≤ p + 1 + 10000 + 20000 * wB rr.2.1
      rw [hw.2]; omega
    · show 0 + wB (xw x) ≤ wB rr.2.1
      rw [hw.2]; omega
  · rw [if_neg c] at st ⊢
    refine SR0.done (pmIt.one pi st) ⟨ho, ox.2⟩ ?_ (Or.inl ⟨rfl, hw.1.trans nX, ne, rfl⟩)
    rw [if_pos rfl]
    show 1 + p + 20000 * wB (xw x) + 6000 ≤ p + 1 + 10000 + 20000 * wB rr.2.1
    rw [hw.2]; omega
/-- a status -/
theorem sm_st {v1 : Int32} (hz : Hz T nn (cBdy v) x) (nX : wX (xw x) = false) (ne : xe x = false) (ox : okX D T x) (rm : Rm x F K d g) (hp : p < kZ D)
    (st : pmStep D (xw x, p, (xf x, en, xj x, F), K) = pmGo1 en K (xw x) (p + 1) (vS (xf x) v1) (xj x) F) : SR0 D T (xw x, p, (xf x, en, xj x, F), K) x (zSt x v1) p (p + 1) 10000 6000 (Out D x (zSt x v1) (p + 1) en F K d) := by
  refine SR0.done (pmIt.one (PI.at7 (en := en) hz nX ox rm hp) st) ox.st ?_ (Or.inl ⟨rfl, nX, ne, rfl⟩)
  rw [if_pos rfl]
  show 1 + p + 20000 * wB (xw x) + 6000 ≤ p + 1 + 10000 + 20000 * wB (xw x)
  omega
/-- the shell's end -/
theorem sm_end {v1 : Int32} (hz : Hz T nn (cBdy v) x) (nX : wX (xw x) = false) (ox : okX D T x) (rm : Rm x F K d g) (hp : p < kZ D)
    (st : pmStep D (xw x, p, (xf x, en, xj x, F), K) = pmEnd D en (xj x) F K (xw x) (xf x) v1) : SR0 D T (xw x, p, (xf x, en, xj x, F), K) x (zEnd x v1) p (p + 1) 10000 6000 (Out D x (zEnd x v1) (p + 1) en F K d) := by
  refine SR0.done (pmIt.one (PI.at7 (en := en) hz nX ox rm hp) st) ox ?_ (Or.inr (Or.inl ⟨rfl, nX, rfl, vS (xf x) v1, [], rfl, feq.rf, rfl, Nat.zero_le _, ?_, ox.1.2.2.1⟩))
  · rw [if_pos rfl]
    show 1 + p + 20000 * wB (xw x) + 6000 ≤ p + 1 + 10000 + 20000 * wB (xw x)
    omega
  · show 0 + wB (xw x) ≤ wB (xw x)
    omega
/-- what a function's call leaves -/
def OutC (D : pmC) (x x' : spX) (kd : Nat) (ret a : Int32) (en : Bool) (F : List pmF) (K : List (pmU × pmL)) (d : Nat) (fl : Nat) (m' : pmM) : Prop :=
  (fl = 0 ∧ wX (xw x') = false ∧ xe x' = false ∧ m' = (xw x', ret.toNatClampNeg, ((if kd = 3 then vS (xf x') 0 else if kd = 4 then vS (xf x') a else xf x'), en, xj x', F), K)) ∨
  (fl = 0 ∧ wX (xw x') = false ∧ xe x' = true ∧ OutE D x x' en F K d m') ∨ (fl = 1 ∧ wX (xw x') = true ∧ OutS x' K m')
def Sc (D : pmC) (T : spT) (nn k : Nat) : Prop := ∀ v d g x x' en F K kd ret a, gEx T k (cCal v) x = some x' → bEx T k d g (cCal v) x → Hz T nn (cCal v) x → wX (xw x) = false → xe x = false → fN (xf x) ≠ 4 → FN D T v → okX D T x → (kd = 2 ∨ kd = 3 ∨ kd = 4) → Rm x ((kd, ret, a, 0, pmN, none) :: F) K d g →
  SR0 D T (xw x, kPl D v, (vN (xf x) (fN (xf x) + 1), en, xj x, (kd, ret, a, 0, pmN, none) :: F), K) x x' 0 0 2810 0 (OutC D x x' kd ret a en F K d)
theorem sm_cal (hc : Cd D) (ihs : ∀ v, Sm D T nn k (cScr v) 0 0) (wt : WT T nn) : Sc D T nn (k + 1) := by
  intro v d g x x' en F K kd ret a hx hb hz nX ne n4 ⟨r, ks, kr, hr⟩ ox hkd rm
  obtain ⟨hd, hb⟩ := bx hb
  have hx : gCal (gEx T k) v x = some x' := hx
  unfold gCal at hx
  rw [if_neg n4] at hx
  obtain ⟨x1, hx1, h2⟩ := Option.bind_eq_some_iff.mp hx
  cases h2
  have hb := hb.resolve_left n4
  have hk5 : kd ≠ 1 := by omega
  have hz0 : Hz T nn (cScr v) (zf x (vN (xf x) (fN (xf x) + 1))) := ⟨Or.inr hz.1, hz.2.1, fun e => hz.w0 (show (9 : Nat) ≠ 6 by decide) e⟩
  have ox0 : okX D T (zf x (vN (xf x) (fN (xf x) + 1))) := ⟨⟨ox.1.1, ox.1.2.1, (by show fN (xf x) + 1 ≤ 4; have := ox.1.2.2.1; omega), ox.1.2.2.2⟩, ox.2⟩
  have one := ihs v (d - 1) g (zf x (vN (xf x) (fN (xf x) + 1))) x1 (kPl D v) r en ((kd, ret, a, 0, pmN, none) :: F) K hx1 hb hz0 nX ne ks hr ox0 (rm.le (x1 := zf x (vN (xf x) (fN (xf x) + 1))) (by omega) (Nat.le_refl _))
  have pz := mi_all wt k _ _ _ hx1 hz0
  have eN : fN (xf x1) = fN (xf x) + 1 := pz.2.2.1 (show (0 : Nat) ≠ 10 by decide)
  obtain ⟨n, fl, m', q1, q2, q3, q4⟩ := one
  have q2 : n + kPl D v + 20000 * wB (xw x) + (if fl = 0 then 0 else 0) ≤ r + 0 + 20000 * wB (xw x1) := q2
  have kz := hc.2.2
  have ox1 : okX D T (zf x1 (vN (xf x1) (fN (xf x1) - 1))) := ⟨⟨q3.1.1, q3.1.2.1, (by show fN (xf x1) - 1 ≤ 4; have := q3.1.2.2.1; omega), q3.1.2.2.2⟩, q3.2⟩
  obtain ⟨rm1, rm2, rm3⟩ := rm
  have rm1 : F.length + 1 + nFK K + d ≤ 2800 := rm1
  rcases q4 with ⟨f0, nX1, ne1, rfl⟩ | ⟨f0, nX1, ne1, f', E, e1, e2, e3, e4, e5, e6⟩ | ⟨f1, yX, s1, up, f', en', E', s2, s3⟩
  · subst f0
    rw [if_pos rfl] at q2
    have hz1 : Hz T nn (cJbs 0) x1 := pz.hz (c2 := cJbs 0) trivial (show (11 : Nat) ≠ 7 by decide) (show (11 : Nat) ≠ 6 by decide)
    have lx1 : wB (xw x) ≤ wB (xw x1) := pz.2.1.2.2.1
    have pi := PI.at (en := en) hz1 nX1 q3 (Rm.le (x := x) (F := (kd, ret, a, 0, pmN, none) :: F) (K := K) (d := d) (g := g) ⟨(by rw [List.length_cons]; omega), rm2, rm3⟩ (Nat.le_refl _) lx1) hr kr (by omega) (show (11 : Nat) ≠ 7 by decide)
    have st : pmStep D (xw x1, r, (xf x1, en, xj x1, (kd, ret, a, 0, pmN, none) :: F), K) = some (0, (xw x1, ret.toNatClampNeg, ((if kd = 3 then vS (vN (xf x1) (fN (xf x1) - 1)) 0 else if kd = 4 then vS (vN (xf x1) (fN (xf x1) - 1)) a else vN (xf x1) (fN (xf x1) - 1)), en, xj x1, F), K)) := by
      rw [stp kr]
      show (if kd = 2 ∨ kd = 3 ∨ kd = 4 then _ else none) = _
      rw [if_pos hkd]
    refine SR0.done (q1.tr (pmIt.one pi st)) ox1 ?_ (Or.inl ⟨rfl, nX1, ne1, rfl⟩)
    rw [if_pos rfl]
    show n + 1 + 0 + 20000 * wB (xw x) + 0 ≤ 0 + 2810 + 20000 * wB (xw x1)
    omega
  · subst f0
    rw [if_pos rfl] at q2
    refine SR0.done q1 ox1 ?_ (Or.inr (Or.inl ⟨rfl, nX1, ne1, f', E ++ [(kd, ret, a, 0, pmN, none)], ?_, ?_, ?_, ?_, ?_, e6⟩))
    · rw [if_pos rfl]
      show n + 0 + 20000 * wB (xw x) + 0 ≤ 0 + 2810 + 20000 * wB (xw x1)
      omega
    · rw [e1, List.append_assoc]; rfl
    · exact e2
    · rw [unw_app]
      show (if kd = 1 then pmN else unw E (fH f')) = _
      rw [if_neg hk5]; exact e3
    · rw [List.length_append]
      show E.length + 1 ≤ d
      omega
    · rw [nSL_app]
      show nSL E + ((if kd = 1 then 1 else 0) + 0) + wB (xw x) ≤ wB (xw x1)
      rw [if_neg hk5]
      exact e5
  · subst f1
    rw [if_neg (by decide)] at q2
    refine SR0.done q1 ox1 ?_ (Or.inr (Or.inr ⟨rfl, yX, s1, up, f', en', E', s2, s3⟩))
    rw [if_neg (by decide)]
    show n + 0 + 20000 * wB (xw x) + 0 ≤ 0 + 2810 + 20000 * wB (xw x1)
    omega
end MXPE
