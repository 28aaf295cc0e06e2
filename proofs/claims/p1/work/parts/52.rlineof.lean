/-! THE REFERENCE'S LINES: lineOf, the machine's side -/
section MXLO
variable {d : Nat} {h : mxH} {Q : mxRes → mxH → Prop} {L : Int32 → Prop}
/-- marks u, the next place p -/
def lost (h : mxH) (u : Nat → Int32) (p : Nat) : mxH := hsI (hrI h 341 u) 320 55 (nI p)
theorem fup_fup {α : Type} {f : Nat → α} {k : Nat} {v v' : α} : fup (fup f k v) k v' = fup f k v' := by
  funext j
  by_cases c : j = k
  · rw [c, fup_e, fup_e]
  · rw [fup_n c, fup_n c, fup_n c]
theorem hsI_hsI {a k : Nat} {v v' : Int32} : hsI (hsI h a k v) a k v' = hsI h a k v' := by
  show hrI (hrI h a (fup (hpI h a) k v)) a (fup (hpI (hrI h a (fup (hpI h a) k v)) a) k v') = _
  rw [hrI_hrI, hpI_rIs, fup_fup]; rfl
theorem hrI_comm {a b : Nat} {f g : Nat → Int32} (hab : a ≠ b) : hrI (hrI h a f) b g = hrI (hrI h b g) a f := by
  unfold hrI
  have : (fun c => if c = b then g else (fun c => if c = a then f else h.2.2.2.2.2.1 c) c) = (fun c => if c = a then f else (fun c => if c = b then g else h.2.2.2.2.2.1 c) c) := by
    funext c
    by_cases ca : c = a
    · by_cases cb : c = b
      · exact absurd (ca.symm.trans cb) hab
      · simp [ca, hab]
    · by_cases cb : c = b
      · simp [cb, Ne.symm hab]
      · simp [ca, cb]
  exact congrArg (fun q => (h.1, h.2.1, h.2.2.1, h.2.2.2.1, h.2.2.2.2.1, q, h.2.2.2.2.2.2.1, h.2.2.2.2.2.2.2)) this
theorem hpI_sIs {a k : Nat} {v : Int32} : hpI (hsI h a k v) a = fup (hpI h a) k v := hpI_rIs
theorem hpI_sIo {a b k : Nat} {v : Int32} (hb : b ≠ a) : hpI (hsI h a k v) b = hpI h b := by
  show hpI (hrI h a _) b = _
  rw [hpI_rI, if_neg hb]
theorem lost_u {u u' : Nat → Int32} {p : Nat} : hrI (lost h u p) 341 u' = lost h u' p := by
  show hrI (hrI (hrI h 341 u) 320 (fup (hpI (hrI h 341 u) 320) 55 (nI p))) 341 u' = hrI (hrI h 341 u') 320 (fup (hpI (hrI h 341 u') 320) 55 (nI p))
  rw [hrI_comm (by decide), hrI_hrI]
  rw [hpI_rI, hpI_rI, if_neg (by decide), if_neg (by decide)]
theorem lost_p {u : Nat → Int32} {p p' : Nat} : hsI (lost h u p) 320 55 (nI p') = lost h u p' := hsI_hsI
theorem lost_I {u : Nat → Int32} {p a : Nat} (h1 : a ≠ 341) (h2 : a ≠ 320) : hpI (lost h u p) a = hpI h a := by
  rw [lost, hpI_sIo h2, hpI_rI, if_neg h1]
theorem lost_341 {u : Nat → Int32} {p : Nat} : hpI (lost h u p) 341 = u := by rw [lost, hpI_sIo (by decide), hpI_rIs]
theorem lost_55 {u : Nat → Int32} {p : Nat} : hpI (lost h u p) 320 55 = nI p := by rw [lost, hpI_sIs, fup_e]
theorem lost_F {u : Nat → Int32} {p k : Nat} (hk : k ≠ 55) : hpI (lost h u p) 320 k = hpI h 320 k := by rw [lost, hpI_sIs, fup_n hk, hpI_rI, if_neg (by decide)]
theorem SR.lost (s : SR h) {u : Nat → Int32} {p : Nat} : SR (lost h u p) := s
/-- the rows that the bytes of a line come from -/
def srcR (a : Nat) : Prop := a = 321 ∨ a = 357 ∨ a = 360
theorem srcR.f (s : SR h) {a : Nat} (ha : srcR a) : hpK h a = 13 ∧ hpZ h a = srZ a ∧ a ≠ 339 ∧ a ≠ 340 ∧ a ≠ 341 ∧ a ≠ 320 ∧ srZ a < 2 ^ 31 := by
  rcases ha with rfl | rfl | rfl
  · exact ⟨sr_k321 s, sr_z321 s, by decide, by decide, by decide, by decide, by decide⟩
  · exact ⟨sr_k357 s, sr_z357 s, by decide, by decide, by decide, by decide, by decide⟩
  · exact ⟨sr_k360 s, sr_z360 s, by decide, by decide, by decide, by decide, by decide⟩
/-- the bytes go over -/
theorem lo_93 (s : SR h) {a p c q : Nat} (ha : srcR a) (hz : p + c ≤ srZ a) (hc : c ≤ 80) (hq : q < 4400) (h55 : hpI h 320 55 = nI q) (hb : ∀ k, k < c → isB (hpI h a (p + k))) : ∀ m j t, j + m = c → (∀ i, i < 80 * q ∨ 80 * q + 80 ≤ i → t i = hpI h 339 i) → (∀ k, k < j → t (80 * q + k) = hpI h a (p + k)) →
    (∀ t', (∀ i, i < 80 * q ∨ 80 * q + 80 ≤ i → t' i = hpI h 339 i) → (∀ k, k < c → t' (80 * q + k) = hpI h a (p + k)) → Q (.inl (some (.int (nI q)))) (hrI h 339 t')) →
    mx_SX mY_X12_lineOf d 93 [(0, .ref 320), (1, .ref a), (2, .int (nI p)), (4, .int (nI c)), (6, .int (nI j))] [] (hrI h 339 t) Q := by
  obtain ⟨k1, k2, k3, k4, k5, k6, k7⟩ := srcR.f s ha
  intro m
  induction m with
  | zero =>
    intro j t hj h1 h2 K
    have e : j = c := by omega
    subst e
    refine b_X12_lineOf_93 320 a _ _ _ ?_
    simp (disch := omega) only [nI_leI]
    refine ⟨fun _ => ⟨sr_k s, ?_⟩, fun q => absurd (by omega) q⟩
    rw [hpI_rI, if_neg (by decide), h55]
    exact K t h1 h2
  | succ m ih =>
    intro j t hj h1 h2 K
    refine b_X12_lineOf_93 320 a _ _ _ ?_
    simp (disch := omega) only [nI_leI]
    refine ⟨fun q => absurd q (by omega), fun _ => ⟨sr_k s, 339, sr_r52 s, k1, ?_⟩⟩
    rw [hpI_rI, if_neg (show (320 : Nat) ≠ 339 by decide), h55, hpI_rI, if_neg k3]
    simp (disch := omega) only [hpZ_rI, k2, nI_lit, pk_mul, nI_add, vpT, true_and, hpK_rI, sr_k339 s, sr_z339 s, nI_clamp, hsI_hrI, forall_eq]
    rw [hb j (by omega)]
    refine ih (j + 1) _ (by omega) (fun i hi => ?_) (fun k hk => ?_) K
    · rw [fup_n (by omega)]; exact h1 i hi
    · by_cases e : k = j
      · rw [e, fup_e]
      · rw [fup_n (by omega)]; exact h2 k (by omega)
/-- found: the place p is free -/
def loF (h : mxH) (u : Nat → Int32) (q c : Nat) (t : Nat → Int32) : mxH := hrI (hsI (lost h (fup u q 1) q) 340 q (nI c)) 339 t
theorem lo_found (s : SR h) {a p c q x : Nat} {u : Nat → Int32} (ha : srcR a) (hz : p + c ≤ srZ a) (hc : c ≤ 80) (hq : q < 4400) (hq0 : q ≠ 0) (hu : u q = 0) (hb : ∀ k, k < c → isB (hpI h a (p + k)))
    (K : ∀ t', (∀ i, i < 80 * q ∨ 80 * q + 80 ≤ i → t' i = hpI h 339 i) → (∀ k, k < c → t' (80 * q + k) = hpI h a (p + k)) → Q (.inl (some (.int (nI q)))) (loF h u q c t')) :
    mx_SX mY_X12_lineOf d 18 [(0, .ref 320), (1, .ref a), (2, .int (nI p)), (4, .int (nI c)), (5, .int (nI x))] [] (lost h u q) Q := by
  obtain ⟨k1, k2, k3, k4, k5, k6, k7⟩ := srcR.f s ha
  refine b_X12_lineOf_18 320 a _ _ _ ⟨sr_k s, 341, sr_r54 s, sr_k341 s, ?_⟩
  rw [lost_55, lost_341, nI_clamp (by omega), hu]
  refine ⟨by show vp_in _ (hpZ h 341); rw [sr_z341 s]; exact vp_in_nI hq (by omega), fun c => absurd rfl c, fun _ => ⟨fun _ => ?_, fun e => absurd ((nI_eq (by omega) (by omega)).mp (e.trans nI_0.symm)) hq0⟩⟩
  rw [show ((1 : Int32) &&& 1) = 1 from rfl]
  have e1 : hsI (lost h u q) 341 q 1 = lost h (fup u q 1) q := by
    show hrI (lost h u q) 341 (fup (hpI (lost h u q) 341) q 1) = _
    rw [lost_341, lost_u]
  rintro _ rfl
  rw [e1, lost_55, nI_clamp (by omega)]
  refine ⟨340, sr_r53 s, sr_k340 s, by show vp_in _ (hpZ h 340); rw [sr_z340 s]; exact vp_in_nI hq (by omega), ?_⟩
  rintro _ rfl
  have s2 : SR (hsI (lost h (fup u q 1) q) 340 q (nI c)) := s
  have key := lo_93 (d := d) (Q := Q) (h := hsI (lost h (fup u q 1) q) 340 q (nI c)) s2 (p := p) (c := c) (q := q) ha hz hc hq (by rw [hpI_sIo (by decide), lost_55]) (fun k hk => by rw [hpI_sIo k4, lost_I k5 k6]; exact hb k hk) c 0 (hpI (hsI (lost h (fup u q 1) q) 340 q (nI c)) 339) (by omega) (fun i _ => rfl) (fun k hk => absurd hk (by omega))
  rw [hrI_self] at key
  refine key fun t' t1 t2 => K t' (fun i hi => ?_) fun k hk => ?_
  · rw [t1 i hi, hpI_sIo (by decide), lost_I (by decide) (by decide)]
  · rw [t2 k hk, hpI_sIo k4, lost_I k5 k6]
/-- one place further -/
theorem lo_next (s : SR h) {a p c q x : Nat} {u : Nat → Int32} (hq : q < 4400) (hu : u q ≠ 0 ∨ q = 0) (hx : x < 1000000)
    (K : x + 1 ≠ 4400 → mx_SX mY_X12_lineOf d 18 [(0, .ref 320), (1, .ref a), (2, .int (nI p)), (4, .int (nI c)), (5, .int (nI (x + 1)))] [] (lost h u ((q + 1) % 4400)) Q)
    (K2 : x + 1 = 4400 → 1 ≤ d ∧ mx_SM mY_X12_sweepsLines (d - 1) [.ref 320] (lost h u ((q + 1) % 4400)) (mx_KV (fun h2 => mx_SX mY_X12_lineOf d 18 [(0, .ref 320), (1, .ref a), (2, .int (nI p)), (4, .int (nI c)), (5, .int (nI (x + 1)))] [] h2 Q) (mx_XX mY_X12_lineOf Q))) :
    mx_SX mY_X12_lineOf d 18 [(0, .ref 320), (1, .ref a), (2, .int (nI p)), (4, .int (nI c)), (5, .int (nI x))] [] (lost h u q) Q := by
  have go : mx_SX mY_X12_lineOf d 37 [(0, .ref 320), (1, .ref a), (2, .int (nI p)), (4, .int (nI c)), (5, .int (nI x))] [] (lost h u q) Q := by
    refine b_X12_lineOf_37 320 a _ _ _ ⟨sr_k s, ?_⟩
    rw [lost_55]
    have e : (nI q + 1) - (nI q + 1) / 4400 * 4400 = nI ((q + 1) % 4400) := by
      rw [nI_1]; exact pk_rem (d := 4400) (by omega) (by omega) (by omega)
    rw [e, lost_p]
    rintro _ rfl
    rw [nI_1]
    refine ⟨fun c => K fun e => c (by rw [e]; rfl), fun c => K2 ?_⟩
    exact (nI_eq (b := 4400) (by omega) (by omega)).mp c
  refine b_X12_lineOf_18 320 a _ _ _ ⟨sr_k s, 341, sr_r54 s, sr_k341 s, ?_⟩
  rw [lost_55, lost_341, nI_clamp (by omega)]
  refine ⟨by show vp_in _ (hpZ h 341); rw [sr_z341 s]; exact vp_in_nI hq (by omega), fun _ => go, fun c1 => ⟨fun c2 => ?_, fun _ => go⟩⟩
  rcases hu with q1 | q1
  · exact absurd c1 q1
  · exact absurd (by rw [q1]; rfl) c2
/-- a free place r steps further on -/
theorem lo_walk (s : SR h) {a p c : Nat} {u : Nat → Int32} (ha : srcR a) (hz : p + c ≤ srZ a) (hc : c ≤ 80) (hb : ∀ k, k < c → isB (hpI h a (p + k)))
    (K : ∀ q t', q < 4400 → q ≠ 0 → u q = 0 → (∀ i, i < 80 * q ∨ 80 * q + 80 ≤ i → t' i = hpI h 339 i) → (∀ k, k < c → t' (80 * q + k) = hpI h a (p + k)) → Q (.inl (some (.int (nI q)))) (loF h u q c t')) : ∀ r q x, q < 4400 → u ((q + r) % 4400) = 0 → (q + r) % 4400 ≠ 0 → (x + r < 4400 ∨ 4400 ≤ x) → x + r < 10000 →
    mx_SX mY_X12_lineOf d 18 [(0, .ref 320), (1, .ref a), (2, .int (nI p)), (4, .int (nI c)), (5, .int (nI x))] [] (lost h u q) Q := by
  intro r
  induction r with
  | zero =>
    intro q x hq h1 h2 h3 h4
    rw [Nat.add_zero, Nat.mod_eq_of_lt hq] at h1 h2
    exact lo_found s ha hz hc hq h2 h1 hb fun t' => K q t' hq h2 h1
  | succ r ih =>
    intro q x hq h1 h2 h3 h4
    by_cases cq : u q = 0 ∧ q ≠ 0
    · exact lo_found s ha hz hc hq cq.2 cq.1 hb fun t' => K q t' hq cq.2 cq.1
    · refine lo_next s hq ?_ (by omega) (fun _ => ih ((q + 1) % 4400) (x + 1) (Nat.mod_lt _ (by omega)) ?_ ?_ (by omega) (by omega)) fun e => absurd e (by omega)
      · by_cases c0 : u q = 0
        · exact Or.inr (Decidable.not_not.mp fun c2 => cq ⟨c0, c2⟩)
        · exact Or.inl c0
      · rw [Nat.mod_add_mod, show q + 1 + r = q + (r + 1) by omega]; exact h1
      · rw [Nat.mod_add_mod, show q + 1 + r = q + (r + 1) by omega]; exact h2
/-- none is free: all are looked at, then swept -/
theorem lo_full (hd : 4 ≤ d) (s : SR h) {a p c : Nat} {Qs : Nat → List Nat} {D : Nat} (v : VA L h Qs D) (u : Nat → Int32) (hu : ∀ i, i < 4400 → u i ≠ 0 ∨ i = 0)
    (K : ∀ u' q, q < 4400 → MkS L u' → u' 0 = 1 → MA u' h Qs D → mx_SX mY_X12_lineOf d 18 [(0, .ref 320), (1, .ref a), (2, .int (nI p)), (4, .int (nI c)), (5, .int (nI 4400))] [] (lost h u' q) Q) : ∀ r q x, q < 4400 → x + r = 4400 → 0 < r →
    mx_SX mY_X12_lineOf d 18 [(0, .ref 320), (1, .ref a), (2, .int (nI p)), (4, .int (nI c)), (5, .int (nI x))] [] (lost h u q) Q := by
  intro r
  induction r with
  | zero => intro q x _ _ h; exact absurd h (by omega)
  | succ r ih =>
    intro q x hq h1 _
    have hq' : (q + 1) % 4400 < 4400 := Nat.mod_lt _ (by omega)
    refine lo_next s hq (hu q hq) (by omega) (fun e => ih _ (x + 1) hq' (by omega) (by omega)) fun e => ⟨by omega, ?_⟩
    have s2 : SR (lost h u ((q + 1) % 4400)) := s
    have v2 : VA L (lost h u ((q + 1) % 4400)) Qs D := by
      unfold VA
      rw [lost_I (a := 342) (by decide) (by decide), lost_I (a := 354) (by decide) (by decide), lost_I (a := 351) (by decide) (by decide), lost_I (a := 347) (by decide) (by decide), lost_I (a := 350) (by decide) (by decide), lost_I (a := 361) (by decide) (by decide), lost_F (by decide)]
      exact v
    refine mx_uV (k_X12_sweepsLines (by omega) s2 v2) ?_
    rintro _ ⟨u', rfl, m1, m2, m3⟩
    rw [lost_u, e]
    refine K u' _ hq' m1 m2 ?_
    unfold MA at m3 ⊢
    rw [lost_I (a := 342) (by decide) (by decide), lost_I (a := 354) (by decide) (by decide), lost_I (a := 350) (by decide) (by decide), lost_I (a := 361) (by decide) (by decide)] at m3
    exact m3
/-- lineOf -/
theorem k_X12_lineOf_raw (hd : 4 ≤ d) (s : SR h) {a p c p0 : Nat} {Qs : Nat → List Nat} {D : Nat} (v : VA L h Qs D) (ha : srcR a) (hc31 : c < 2 ^ 31) (hz : p + min 80 c ≤ srZ a) (hb : ∀ k, k < min 80 c → isB (hpI h a (p + k)))
    (h55 : hpI h 320 55 = nI p0) (hp0 : p0 < 4400) (hL : ∀ u, MkS L u → ∃ i, 0 < i ∧ i < 4400 ∧ u i = 0) (M0 : MA (hpI h 341) h Qs D)
    (K0 : c = 0 → Q (.inl (some (.int 0))) h)
    (K : ∀ u q t', q < 4400 → q ≠ 0 → u q = 0 → 0 < c → (∀ i, i < 80 * q ∨ 80 * q + 80 ≤ i → t' i = hpI h 339 i) → (∀ k, k < min 80 c → t' (80 * q + k) = hpI h a (p + k)) → MA u h Qs D → (u 0 = 1 ∨ u 0 = hpI h 341 0) → Q (.inl (some (.int (nI q)))) (loF h u q (min 80 c) t')) :
    mx_SM mY_X12_lineOf d [.ref 320, .ref a, .int (nI p), .int (nI c)] h Q := by
  have e1 : (if nI c < 80 then nI c else 80) = nI (min 80 c) := by
    by_cases q : c < 80
    · rw [if_pos (show nI c < (80 : Int32) from nI_lt (b := 80) q (by omega)), show min 80 c = c by omega]
    · rw [if_neg (show ¬ nI c < (80 : Int32) from nI_nlt (b := 80) (by omega) hc31), show min 80 c = 80 by omega]; rfl
  refine b_X12_lineOf 320 a _ _ ⟨by omega, ?_⟩
  rw [e1]
  refine ⟨fun c0 => ?_, fun c0 => K0 ?_⟩
  · have hpos : 0 < c := by
      rcases Nat.eq_zero_or_pos c with e | e
      · subst e; exact absurd rfl c0
      · exact e
    have es : h = lost h (hpI h 341) p0 := by
      rw [lost, hrI_self, ← h55]
      show h = hrI h 320 (fup (hpI h 320) 55 (hpI h 320 55))
      rw [show fup (hpI h 320) 55 (hpI h 320 55) = hpI h 320 from funext fun j => by
        by_cases q : j = 55
        · rw [q, fup_e]
        · rw [fup_n q], hrI_self]
    have far : ∀ (u : Nat → Int32) (i q : Nat), 0 < i → i < 4400 → u i = 0 → q < 4400 → ∃ r, r < 4400 ∧ u ((q + r) % 4400) = 0 ∧ (q + r) % 4400 ≠ 0 := fun u i q h1 h2 h3 h4 => by
      have : ∃ r, r < 4400 ∧ (q + r) % 4400 = i := by
        by_cases g : q ≤ i
        · exact ⟨i - q, by omega, by rw [show q + (i - q) = i by omega]; exact Nat.mod_eq_of_lt h2⟩
        · exact ⟨i + 4400 - q, by omega, by rw [show q + (i + 4400 - q) = i + 4400 by omega, Nat.add_mod_right]; exact Nat.mod_eq_of_lt h2⟩
      obtain ⟨r, r1, r2⟩ := this
      exact ⟨r, r1, by rw [r2]; exact h3, by omega⟩
    rw [← nI_0]
    by_cases ex : ∃ i, 0 < i ∧ i < 4400 ∧ hpI h 341 i = 0
    · obtain ⟨i, i1, i2, i3⟩ := ex
      obtain ⟨r, r1, r2, r3⟩ := far _ i p0 i1 i2 i3 hp0
      have := lo_walk (d := d) (Q := Q) s ha hz (by omega) hb (u := hpI h 341) (fun q t' g1 g2 g3 g4 g5 => K _ q t' g1 g2 g3 hpos g4 g5 M0 (Or.inr rfl)) r p0 0 hp0 r2 r3 (by omega) (by omega)
      rw [← es] at this
      exact this
    · have nz : ∀ i, i < 4400 → hpI h 341 i ≠ 0 ∨ i = 0 := fun i hi => by
        by_cases e : i = 0
        · exact Or.inr e
        · exact Or.inl fun e2 => ex ⟨i, by omega, hi, e2⟩
      have := lo_full (d := d) (Q := Q) hd s (a := a) (p := p) (c := min 80 c) v (hpI h 341) nz (fun u' q g1 g2 g3 g4 => by
        obtain ⟨i, i1, i2, i3⟩ := hL u' g2
        obtain ⟨r, r1, r2, r3⟩ := far u' i q i1 i2 i3 g1
        exact lo_walk s ha hz (by omega) hb (fun q t' w1 w2 w3 w4 w5 => K _ q t' w1 w2 w3 hpos w4 w5 g4 (Or.inl g3)) r q 4400 g1 r2 r3 (by omega) (by omega)) 4400 p0 0 hp0 (by omega) (by omega)
      rw [← es] at this
      exact this
  · have := (nI_eq (b := 0) (by omega) (by omega)).mp c0
    omega
end MXLO
