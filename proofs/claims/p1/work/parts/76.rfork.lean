/-! THE REFERENCE: a subshell, a job -/
section MXFK
variable {d : Nat} {h0 h : mxH} {w : spW} {G : List spE} {V : List (Option (Option Nat))} {P : List spX} {N : spN} {n m xs : Nat} {Q : mxRes → mxH → Prop} {s : Nat} {S : spS} {js : List Nat} {ln : Int32 → spL → Prop} {A : Nat → Option Nat} {f f' : Nat → Int32} {g g' : Nat → Int64} {F : spF}
theorem RF.sub (r : RF ln f g F) (e1 : ∀ k, k ≠ 34 → k ≠ 47 → k ≠ 48 → k ≠ 49 → k < 83 → f' k = f k) (e2 : f' 34 = f 34 + 1) (e3 : f' 47 = f 46) (g1 : ∀ k, k < 30 → g' k = g k) (g2 : ∀ k, k < 4 → g' (30 + k) = if g (30 + k) = -2 then -2 else 0) : RF ln f' g' (subF F) := by
  obtain ⟨⟨a1, a2, a3⟩, ⟨b1, b2, b3⟩, c, d1, d2, d3, d4, d5, d6, d7, d8⟩ := r
  have E : ∀ k, k ≠ 34 → k ≠ 47 → k ≠ 48 → k ≠ 49 → k < 83 → f' k = f k := e1
  refine ⟨⟨(E 0 (by omega) (by omega) (by omega) (by omega) (by omega)).trans a1, a2, fun k hk => ?_⟩, ⟨(E 21 (by omega) (by omega) (by omega) (by omega) (by omega)).trans b1, b2, fun k hk => ?_⟩, fun k hk => ?_, (E 32 (by omega) (by omega) (by omega) (by omega) (by omega)).trans d1, (E 33 (by omega) (by omega) (by omega) (by omega) (by omega)).trans d2, ?_, (E 35 (by omega) (by omega) (by omega) (by omega) (by omega)).trans d4, (E 46 (by omega) (by omega) (by omega) (by omega) (by omega)).trans d5, d6, e3.trans d5, d6⟩
  · have hk' : k < (fV F).length := hk
    rw [g1 k (by omega), E (1 + k) (by omega) (by omega) (by omega) (by omega) (by omega)]; exact a3 k hk
  · have hk' : k < (fU F).length := hk
    rw [g1 (20 + k) (by omega), E (22 + k) (by omega) (by omega) (by omega) (by omega) (by omega)]; exact b3 k hk
  · rw [g2 k hk, c k hk]; rfl
  · rw [e2, d3]; rfl
theorem RE.add {q : Nat} {E : spS} {js : List Nat} (r : RE ln A f g G) (hq : q < 1000) (hn : f (83 * q + 82) ≠ 1) (o1 : offS f f' q) (o2 : offN g g' q) (o3 : f' (83 * q + 82) = 1)
    (n1 : RF ln (shR f' q) (shN g' q) E.1) (n2 : RFh A (shR f' q) (fH E.1)) (n3 : RJ (shR f' q) E.2.1 E.2.2 js) : RE ln A f' g' ((q, E, js) :: G) := by
  obtain ⟨r1, r2, r3⟩ := r
  have ne : ∀ e ∈ G, e.1 ≠ q := fun e he h => hn (by rw [← h]; exact (r1 e he).2.1)
  refine ⟨fun e he => ?_, ?_, fun s' h1 h2 => ?_⟩
  · rcases List.mem_cons.mp he with rfl | hm
    · exact ⟨hq, o3, n1, n2, n3⟩
    · obtain ⟨a1, a2, a3, a4, a5⟩ := r1 e hm
      have n := ne e hm
      exact ⟨a1, (o1 _ _ n (by omega)).trans a2, a3.congr (fun k hk => o1 _ _ n hk) (fun k hk => o2 _ _ n hk), a4.congr (fun k hk => o1 _ _ n (by omega)), a5.congr (fun k hk => o1 _ _ n (by omega))⟩
  · refine List.nodup_cons.mpr ⟨fun h => ?_, r2⟩
    obtain ⟨e, he, e2⟩ := List.mem_map.mp h
    exact ne e he e2
  · by_cases c : s' = q
    · rw [c]; exact List.mem_cons_self
    · exact List.mem_cons_of_mem _ (r3 s' h1 (by rw [← o1 _ _ c (by omega)]; exact h2))
theorem RG.fork (r : RG h0 h w ((s, S, js) :: G) V P N n m xs) (hxs : s ≠ xs) {q : Nat} (hq : q < 1000) (hn : hpI h 354 (83 * q + 82) ≠ 1) (o1 : offS (hpI h 354) f q) (o2 : offN (hpL h 355) g q)
    (e1 : ∀ k, k ≠ 34 → k ≠ 47 → k ≠ 48 → k ≠ 49 → k < 83 → f (83 * q + k) = hpI h 354 (83 * s + k)) (e2 : f (83 * q + 34) = hpI h 354 (83 * s + 34) + 1) (e3 : f (83 * q + 47) = hpI h 354 (83 * s + 46)) (e4 : f (83 * q + 48) = 0) (e5 : f (83 * q + 49) = 0)
    (g1 : ∀ k, k < 30 → g (34 * q + k) = hpL h 355 (34 * s + k)) (g2 : ∀ k, k < 4 → g (34 * q + (30 + k)) = if hpL h 355 (34 * s + (30 + k)) = -2 then -2 else 0) :
    RG h0 (hrL (hrI h 354 f) 355 g) w ((q, (subF S.1, false, []), []) :: (s, S, js) :: G) V P N n m xs := by
  obtain ⟨A, B, Qs, fr, sr, hw, ht, ho, hp, he, hv, hk, hc, hd, hz, hN⟩ := r
  obtain ⟨a1, a2, a3, a4, a5⟩ := he.1 _ List.mem_cons_self
  have he2 : RE (RLn h) A f g ((q, (subF S.1, false, []), []) :: (s, S, js) :: G) := by
    refine he.add hq hn o1 o2 ?_ (a3.sub e1 e2 e3 g1 g2) (fun k hk => ?_) ⟨e4, e5, Nat.zero_le _, rfl, fun k hk => absurd hk (Nat.not_lt_zero _)⟩
    · rw [e1 82 (by omega) (by omega) (by omega) (by omega) (by omega)]; exact a2
    · show RHv A (f (83 * q + (36 + k))) (fH S.1 k)
      rw [e1 (36 + k) (by omega) (by omega) (by omega) (by omega) (by omega)]
      exact a4 k hk
  refine ⟨A, B, Qs, (fr.rI rfl).rL rfl, sr, hw, ht, ho, hp, he2, hv, hk, ?_, ?_, hz, hN⟩
  · obtain ⟨Lr, l1, l2, l3, l4, l5, l6⟩ := hc
    refine ⟨Lr, l1, l2, fun s' h1 h2 => ?_, l4, l5, l6⟩
    obtain ⟨e, e1', e2'⟩ := List.mem_map.mp (he2.2.2 s' h1 h2)
    obtain ⟨-, -, z3, -, -⟩ := he2.1 e e1'
    have z := z3.1.1
    have zz2 := z3.1.2.1
    rw [e2'] at z
    have zz : f (83 * s' + 0) = nI (fV e.2.1.1).length := z
    intro k hk
    have hk' : k < (f (83 * s' + 0)).toNatClampNeg := hk
    rw [zz, nI_clamp (by omega)] at hk'
    show f (83 * s' + (1 + k)) ∈ Lr
    by_cases c : s' = q
    · subst c
      rw [e1 (1 + k) (by omega) (by omega) (by omega) (by omega) (by omega)]
      refine l3 s a1 a2 k ?_
      show k < (hpI h 354 (83 * s + 0)).toNatClampNeg
      rw [← e1 0 (by omega) (by omega) (by omega) (by omega) (by omega), zz, nI_clamp (by omega)]; exact hk'
    · have h2' : hpI h 354 (83 * s' + 82) = 1 := by rw [← o1 s' 82 c (by omega)]; exact h2
      rw [o1 s' (1 + k) c (by omega)]
      refine l3 s' h1 h2' k ?_
      show k < (hpI h 354 (83 * s' + 0)).toNatClampNeg
      rw [← o1 s' 0 c (by omega), zz, nI_clamp (by omega)]; exact hk'
  · obtain ⟨Lo, l1, l2, l3, l4⟩ := hd
    refine ⟨Lo, l1, fun s' h1 h2 h3 k hk => ?_, l3, l4⟩
    show f (83 * s' + 36 + k) ∈ Lo
    rw [Nat.add_assoc]
    by_cases c : s' = q
    · subst c
      rw [e1 (36 + k) (by omega) (by omega) (by omega) (by omega) (by omega), ← Nat.add_assoc]
      exact l2 s a1 hxs a2 k hk
    · have h3' : hpI h 354 (83 * s' + 82) = 1 := by rw [← o1 s' 82 c (by omega)]; exact h3
      rw [o1 s' (36 + k) c (by omega), ← Nat.add_assoc]
      exact l2 s' h1 h2 h3' k hk
theorem fk_2 (hd : 1 ≤ d) (sr : SR h) {b s : Nat} (hb : b < 1000) (hi : hpI h 354 (83 * b + 82) ≠ 1) (K : ∀ q, 1 ≤ q → q < 1000 → hpI h 354 (83 * q + 82) ≠ 1 → mx_SX mY_X12_fork d 21 [(0, .ref 320), (1, .int (nI s)), (2, .int (nI q)), (3, .int 0)] [] h Q) : ∀ j p, p + j = b → 1 ≤ p → mx_SX mY_X12_fork d 2 [(0, .ref 320), (1, .int (nI s)), (2, .int (nI p))] [] h Q := by
  intro j
  induction j with
  | zero =>
    intro p hp p1
    have e : p = b := by omega
    subst e
    exact b_X12_fork_2 320 _ _ ⟨hd, sr_k sr, mx_xKI2 (k_X12_of (j := 82) sr (by omega)) ⟨fun _ => K p p1 hb hi, fun c => absurd c hi⟩⟩
  | succ j ih =>
    intro p hp p1
    refine b_X12_fork_2 320 _ _ ⟨hd, sr_k sr, mx_xKI2 (k_X12_of (j := 82) sr (by omega)) ⟨fun c => K p p1 (by omega) c, fun c => ?_⟩⟩
    rw [nI_1]
    exact ih (p + 1) (by omega) (by omega)
theorem fk_21 (hd : 1 ≤ d) (sr : SR h) {q s : Nat} (hq : q < 1000) (hs : s < 1000) (hqs : s ≠ q) : ∀ j k t, k + j = 83 → offS (hpI h 354) t q → (∀ i, i < k → t (83 * q + i) = hpI h 354 (83 * s + i)) →
    (∀ t, offS (hpI h 354) t q → (∀ i, i < 83 → t (83 * q + i) = hpI h 354 (83 * s + i)) → mx_SX mY_X12_fork d 47 [(0, .ref 320), (1, .int (nI s)), (2, .int (nI q)), (3, .int 0)] [] (hrI h 354 t) Q) →
    mx_SX mY_X12_fork d 21 [(0, .ref 320), (1, .int (nI s)), (2, .int (nI q)), (3, .int (nI k))] [] (hrI h 354 t) Q := by
  intro j
  induction j with
  | zero =>
    intro k t hk o ht K
    have e : k = 83 := by omega
    subst e
    exact b_X12_fork_21 320 _ _ _ ⟨fun _ => K t o ht, fun c => absurd (nI_le (a := 83) (b := 83) (by omega) (by omega)) c⟩
  | succ j ih =>
    intro k t hk o ht K
    have s1 : SR (hrI h 354 t) := sr
    refine b_X12_fork_21 320 _ _ _ ⟨fun c => absurd c (nI_ge (b := 83) (by omega) (by omega)), fun _ => ⟨hd, sr_k s1, mx_xKI2 (k_X12_of s1 (by omega)) ⟨sr_k s1, mx_xKV (k_X12_sets s1 (by omega)) ?_⟩⟩⟩
    rw [hpI_rIs, hsI_hrI, nI_1, o s k hqs (by omega)]
    refine ih (k + 1) _ (by omega) (o.up (by omega)) (fun i hi => ?_) K
    by_cases c : i = k
    · subst c; rw [fup_e]
    · rw [fup_n (by omega)]; exact ht i (by omega)
theorem hrL_hrL {a : Nat} {f g : Nat → Int64} : hrL (hrL h a f) a g = hrL h a g := by
  unfold hrL
  have : (fun b => if b = a then g else (fun b => if b = a then f else h.2.2.2.2.2.2.1 b) b) = (fun b => if b = a then g else h.2.2.2.2.2.2.1 b) := by
    funext b
    by_cases c : b = a
    · rw [if_pos c, if_pos c]
    · rw [if_neg c, if_neg c]; exact if_neg c
  exact congrArg (fun q => (h.1, h.2.1, h.2.2.1, h.2.2.2.1, h.2.2.2.2.1, h.2.2.2.2.2.1, q, h.2.2.2.2.2.2.2)) this
theorem hsL_hrL {a k : Nat} {f : Nat → Int64} {v : Int64} : hsL (hrL h a f) a k v = hrL h a (fup f k v) := by
  show hrL (hrL h a f) a (fup (hpL (hrL h a f) a) k v) = _
  rw [hpL_rLs, hrL_hrL]
theorem hsI_hrLc {a b k : Nat} {g : Nat → Int64} {v : Int32} : hsI (hrL h b g) a k v = hrL (hsI h a k v) b g := rfl
theorem SR.rL {a : Nat} {f : Nat → Int64} (sr : SR h) (ha : 320 ≠ a) : SR (hrL h a f) := by
  show SRp (hpK h) (hpZ h) (hpR h 320) (hpL (hrL h a f) 320)
  rw [hpL_rL, if_neg ha]; exact sr
theorem fk_47 (hd : 1 ≤ d) (sr : SR h) {q s : Nat} (hq : q < 1000) (hs : s < 1000) (hqs : s ≠ q) : ∀ j k t, k + j = 34 → offN (hpL h 355) t q → (∀ i, i < k → t (34 * q + i) = hpL h 355 (34 * s + i)) →
    (∀ t, offN (hpL h 355) t q → (∀ i, i < 34 → t (34 * q + i) = hpL h 355 (34 * s + i)) → mx_SX mY_X12_fork d 73 [(0, .ref 320), (1, .int (nI s)), (2, .int (nI q)), (3, .int 0)] [] (hrL h 355 t) Q) →
    mx_SX mY_X12_fork d 47 [(0, .ref 320), (1, .int (nI s)), (2, .int (nI q)), (3, .int (nI k))] [] (hrL h 355 t) Q := by
  intro j
  induction j with
  | zero =>
    intro k t hk o ht K
    have e : k = 34 := by omega
    subst e
    exact b_X12_fork_47 320 _ _ _ ⟨fun _ => K t o ht, fun c => absurd (nI_le (a := 34) (b := 34) (by omega) (by omega)) c⟩
  | succ j ih =>
    intro k t hk o ht K
    have s1 : SR (hrL h 355 t) := sr.rL (by decide)
    refine b_X12_fork_47 320 _ _ _ ⟨fun c => absurd c (nI_ge (b := 34) (by omega) (by omega)), fun _ => ⟨hd, sr_k s1, mx_xKL2 (k_X12_nameOf s1 (by omega)) ⟨sr_k s1, mx_xKV (k_X12_setsName s1 (by omega)) ?_⟩⟩⟩
    rw [hpL_rLs, hsL_hrL, nI_1, o s k hqs (by omega)]
    refine ih (k + 1) _ (by omega) (o.up (by omega)) (fun i hi => ?_) K
    by_cases c : i = k
    · subst c; rw [fup_e]
    · rw [fup_n (by omega)]; exact ht i (by omega)
theorem fk_73 (hd : 1 ≤ d) (sr : SR h) {q s : Nat} (hq : q < 1000) (hs : s < 1000) {g0 : Nat → Int64} : ∀ j k t, k + j = 4 → offN g0 t q → (∀ i, i < 30 → t (34 * q + i) = g0 (34 * q + i)) → (∀ i, i < k → t (34 * q + (30 + i)) = if g0 (34 * q + (30 + i)) = -2 then -2 else 0) → (∀ i, k ≤ i → i < 4 → t (34 * q + (30 + i)) = g0 (34 * q + (30 + i))) →
    (∀ t, offN g0 t q → (∀ i, i < 30 → t (34 * q + i) = g0 (34 * q + i)) → (∀ i, i < 4 → t (34 * q + (30 + i)) = if g0 (34 * q + (30 + i)) = -2 then -2 else 0) → mx_SX mY_X12_fork d 73 [(0, .ref 320), (1, .int (nI s)), (2, .int (nI q)), (3, .int (nI 4))] [] (hrL h 355 t) Q) →
    mx_SX mY_X12_fork d 73 [(0, .ref 320), (1, .int (nI s)), (2, .int (nI q)), (3, .int (nI k))] [] (hrL h 355 t) Q := by
  intro j
  induction j with
  | zero =>
    intro k t hk o t1 t2 t3 K
    have e : k = 4 := by omega
    subst e
    exact K t o t1 t2
  | succ j ih =>
    intro k t hk o t1 t2 t3 K
    have s1 : SR (hrL h 355 t) := sr.rL (by decide)
    refine b_X12_fork_73 320 _ _ _ ⟨fun c => absurd c (nI_ge (b := 4) (by omega) (by omega)), fun _ => ⟨hd, sr_k s1, ?_⟩⟩
    rw [show (30 : Int32) + nI k = nI (30 + k) from nI_add 30 k]
    refine mx_xKL2 (k_X12_nameOf s1 (by omega)) ?_
    rw [hpL_rLs, lg_cmp_eq, t3 k (Nat.le_refl _) (by omega)]
    refine ⟨fun c => b_X12_fork_104 320 _ _ _ ?_, fun c => ⟨sr_k s1, mx_xKV (k_X12_setsName s1 (by omega)) (b_X12_fork_104 320 _ _ _ ?_)⟩⟩
    · rw [nI_1]
      refine ih (k + 1) t (by omega) o t1 (fun i hi => ?_) (fun i h1 h2 => t3 i (by omega) h2) K
      by_cases e : i = k
      · subst e; rw [t3 _ (Nat.le_refl _) (by omega), if_pos c]; exact c
      · exact t2 i (by omega)
    · rw [nI_1, hsL_hrL]
      refine ih (k + 1) _ (by omega) (o.up (by omega)) (fun i hi => by rw [fup_n (by omega)]; exact t1 i hi) (fun i hi => ?_) (fun i h1 h2 => by rw [fup_n (by omega)]; exact t3 i (by omega) h2) K
      by_cases e : i = k
      · subst e; rw [fup_e, if_neg c]
      · rw [fup_n (by omega)]; exact t2 i (by omega)
theorem k_X12_fork (hd : 1 ≤ d) (r : RG h0 h w ((s, S, js) :: G) V P N n m xs) (hxs : s ≠ xs) (hl : G.length < 998) : mx_SM mY_X12_fork d [.ref 320, .int (nI s)] h (mx_KI (fun v h1 => ∃ q, v = nI q ∧ q < 1000 ∧ 1 ≤ q ∧ RG h0 h1 (frk w) ((q, (subF S.1, false, []), []) :: (s, S, js) :: G) V P N n m xs) fun _ _ => False) := by
  have sr := r.sr
  have hs := r.own.1
  have live : ∀ i, i < 1000 → i ∉ (((s, S, js) :: G).map fun e => e.1) → hpI h 354 (83 * i + 82) ≠ 1 := fun i hi hn e => by
    obtain ⟨A, B, Qs, -, -, -, -, -, -, he, -⟩ := r
    exact hn (he.2.2 i hi e)
  have hsl : hpI h 354 (83 * s + 82) = 1 := by
    obtain ⟨A, B, Qs, -, -, -, -, -, -, he, -⟩ := r
    exact (he.1 _ List.mem_cons_self).2.1
  obtain ⟨b, b1, b2⟩ := out_of 1000 (0 :: (((s, S, js) :: G).map fun e => e.1)) (by rw [List.length_cons, List.length_map, List.length_cons]; omega)
  have hb1 : 1 ≤ b := by
    rcases Nat.eq_zero_or_pos b with e | e
    · exact absurd (by rw [e]; exact List.mem_cons_self) b2
    · exact e
  refine b_X12_fork 320 _ (fk_2 (b := b) (s := s) hd sr b1 (live b b1 fun h => b2 (List.mem_cons_of_mem _ h)) (fun q q1 q2 q3 => ?_) (b - 1) 1 (by omega) (Nat.le_refl _))
  have hqs : s ≠ q := fun e => q3 (by rw [← e]; exact hsl)
  have z0 : (0 : Int32) = nI 0 := rfl
  have base := fk_21 (Q := mx_KI (fun v h1 => ∃ q, v = nI q ∧ q < 1000 ∧ 1 ≤ q ∧ RG h0 h1 (frk w) ((q, (subF S.1, false, []), []) :: (s, S, js) :: G) V P N n m xs) fun _ _ => False) hd sr q2 hs hqs 83 0 (hpI h 354) (by omega) offS.rf (fun i hi => absurd hi (Nat.not_lt_zero _)) ?_
  · rw [hrI_self] at base; exact base
  · intro t o1 t1
    have s1 : SR (hrI h 354 t) := sr
    have b2 := fk_47 (Q := mx_KI (fun v h1 => ∃ q, v = nI q ∧ q < 1000 ∧ 1 ≤ q ∧ RG h0 h1 (frk w) ((q, (subF S.1, false, []), []) :: (s, S, js) :: G) V P N n m xs) fun _ _ => False) hd s1 q2 hs hqs 34 0 (hpL h 355) (by omega) offN.rf (fun i hi => absurd hi (Nat.not_lt_zero _)) ?_
    · have e : hrL (hrI h 354 t) 355 (hpL h 355) = hrI h 354 t := by
        have : hpL h 355 = hpL (hrI h 354 t) 355 := rfl
        rw [this, hrL_self]
      rw [e] at b2; exact b2
    · intro g o2 g1
      refine fk_73 (g0 := g) hd s1 q2 hs 4 0 g (by omega) offN.rf (fun _ _ => rfl) (fun i hi => absurd hi (Nat.not_lt_zero _)) (fun _ _ _ => rfl) fun g' o3 g2 g3 => ?_
      have s2 : SR (hrL (hrI h 354 t) 355 g') := s1.rL (by decide)
      have HI : hpI (hrL (hrI h 354 t) 355 g') 354 = t := by rw [hpI_rL, hpI_rIs]
      refine b_X12_fork_73 320 _ _ _ ⟨fun _ => ⟨hd, sr_k s2, mx_xKI2 (k_X12_of (j := 34) s2 (by omega)) ⟨sr_k s2, mx_xKV (k_X12_sets (j := 34) s2 (by omega)) ⟨sr_k s2, mx_xKI2 (k_X12_of (j := 46) s2.sI (by omega)) ⟨sr_k s2, mx_xKV (k_X12_sets (j := 47) s2.sI (by omega)) ⟨sr_k s2, mx_xKV (k_X12_sets (j := 48) s2.sI.sI (by omega)) ⟨sr_k s2, mx_xKV (k_X12_sets (j := 49) s2.sI.sI.sI (by omega)) ⟨sr_k s2, 356, sr_r73 s2, sr_k356 s2, ?_⟩⟩⟩⟩⟩⟩⟩, fun c => absurd (nI_le (a := 4) (b := 4) (by omega) (by omega)) c⟩
      refine ⟨by show vp_in _ (hpZ h 356); rw [sr_z356 sr]; exact vp_in_nI (n := 1) (by omega) (by omega), ?_⟩
      rintro _ rfl
      have hh : ∀ a b c e : Int32, hsI (hsI (hsI (hsI (hrL (hrI h 354 t) 355 g') 354 (83 * q + 34) a) 354 (83 * q + 47) b) 354 (83 * q + 48) c) 354 (83 * q + 49) e = hrL (hrI h 354 (fup (fup (fup (fup t (83 * q + 34) a) (83 * q + 47) b) (83 * q + 48) c) (83 * q + 49) e)) 355 g' := by
        intro a b c e
        rw [hsI_hrLc, hsI_hrI, hsI_hrLc, hsI_hrI, hsI_hrLc, hsI_hrI, hsI_hrLc, hsI_hrI]
      rw [hh]
      refine Or.inl ⟨_, rfl, q, rfl, q2, q1, ?_⟩
      have rr := RG.fork (f := fup (fup (fup (fup t (83 * q + 34) (hpI (hrL (hrI h 354 t) 355 g') 354 (83 * s + 34) + 1)) (83 * q + 47) (hpI (hsI (hrL (hrI h 354 t) 355 g') 354 (83 * q + 34) (hpI (hrL (hrI h 354 t) 355 g') 354 (83 * s + 34) + 1)) 354 (83 * s + 46))) (83 * q + 48) 0) (83 * q + 49) 0) (g := g') r hxs q2 q3 ((((o1.up (by omega)).up (by omega)).up (by omega)).up (by omega)) (fun s' k hn hk => by rw [o3 s' k hn hk]; exact o2 s' k hn hk)
        (fun k k1 k2 k3 k4 k5 => by rw [fup_n (by omega), fup_n (by omega), fup_n (by omega), fup_n (by omega)]; exact t1 k k5)
        (by rw [fup_n (by omega), fup_n (by omega), fup_n (by omega), fup_e, HI, o1 s 34 hqs (by omega)])
        (by rw [fup_n (by omega), fup_n (by omega), fup_e, hpI_sIs, HI, fup_n (by omega), o1 s 46 hqs (by omega)])
        (by rw [fup_n (by omega), fup_e]) (by rw [fup_e])
        (fun k hk => by rw [g2 k hk]; exact g1 k (by omega)) (fun k hk => by rw [g3 k hk, g1 (30 + k) (by omega)]; rfl)
      have ht := rr.told
      obtain ⟨y1, y2, y3, y4, y5, y6, y7⟩ := id ht
      have e1 : (1 : Int32).toNatClampNeg = 1 := by decide
      rw [e1, y3, nI_1]
      refine rr.tell (b := wB w) (k := wK w + 1) (mm := wM w) (x := wX w) (t := wT w) (f := fup _ 1 (nI (wK w + 1))) ⟨by rw [fup_n (by omega)]; exact y1, y2, fup_e, by rw [fup_n (by omega)]; exact y4, by rw [fup_n (by omega)]; exact y5, y6, fun k hk => by rw [fup_n (by omega), fup_n (by omega), fup_n (by omega)]; exact y7 k hk⟩
theorem RG.swap {a b : spE} (r : RG h0 h w (a :: b :: G) V P N n m xs) : RG h0 h w (b :: a :: G) V P N n m xs := r.perm (List.Perm.swap ..)
end MXFK
