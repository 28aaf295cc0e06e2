/-! THE REFERENCE'S OPEN FILES: opened, the machine's side -/
section MXOQ
variable {d : Nat} {h : mxH} {Q : mxRes → mxH → Prop} {L : Int32 → Prop} {u k : Nat → Int32} {p : Nat}
def opst (h : mxH) (u k : Nat → Int32) (p : Nat) : mxH := hsI (opS h u k) 320 67 (nI p)
theorem opst_I {a : Nat} (h1 : a ≠ 353) (h2 : a ≠ 344) (h3 : a ≠ 320) : hpI (opst h u k p) a = hpI h a := by
  rw [opst, hpI_sIo h3, opS, hpI_rI, if_neg h2, hpI_rI, if_neg h1]
theorem opst_344 : hpI (opst h u k p) 344 = k := by rw [opst, hpI_sIo (by decide), opS, hpI_rIs]
theorem opst_353 : hpI (opst h u k p) 353 = u := by rw [opst, hpI_sIo (by decide), opS, hpI_rI, if_neg (by decide), hpI_rIs]
theorem opst_67 : hpI (opst h u k p) 320 67 = nI p := by rw [opst, hpI_sIs, fup_e]
theorem opst_F {j : Nat} (hj : j ≠ 67) : hpI (opst h u k p) 320 j = hpI h 320 j := by rw [opst, hpI_sIs, fup_n hj, opS, hpI_rI, if_neg (by decide), hpI_rI, if_neg (by decide)]
theorem opst_p {p' : Nat} : hsI (opst h u k p) 320 67 (nI p') = opst h u k p' := hsI_hsI
theorem opst_S {u' k' : Nat → Int32} : opS (opst h u k p) u' k' = opst h u' k' p := by
  show hrI (hrI (hrI (opS h u k) 320 (fup (hpI (opS h u k) 320) 67 (nI p))) 353 u') 344 k' = hrI (opS h u' k') 320 (fup (hpI (opS h u' k') 320) 67 (nI p))
  have e1 : ∀ u k, hpI (opS h u k) 320 = hpI h 320 := fun u k => by rw [opS, hpI_rI, if_neg (by decide), hpI_rI, if_neg (by decide)]
  rw [e1, e1]
  unfold opS
  rw [hrI_comm (a := 320) (b := 353) (by decide), hrI_comm (a := 344) (b := 353) (by decide), hrI_hrI, hrI_comm (a := 320) (b := 344) (by decide), hrI_hrI]
def opF (h : mxH) (u k : Nat → Int32) (p : Nat) (kd its : Int32) : mxH := hsI (hsI (opst h u (fup k p kd) p) 345 p its) 346 p 0
theorem op_found (s : SR h) {kd its : Int32} {x : Nat} (hp : p < 4000) (hk : k p = 0) (K : Q (.inl (some (.int (nI p)))) (opF h u k p kd its)) :
    mx_SX mY_X12_opened d 2 [(0, .ref 320), (1, .int kd), (2, .int its), (3, .int (nI x))] [] (opst h u k p) Q := by
  refine b_X12_opened_2 320 _ _ _ ⟨sr_k s, 344, sr_r58 s, sr_k344 s, ?_⟩
  rw [opst_67, opst_344, nI_clamp (by omega)]
  refine ⟨by show vp_in _ (hpZ h 344); rw [sr_z344 s]; exact vp_in_nI hp (by omega), fun _ => ?_, fun c => absurd hk c⟩
  have e1 : hsI (opst h u k p) 344 p kd = opst h u (fup k p kd) p := by
    show hrI (opst h u k p) 344 (fup (hpI (opst h u k p) 344) p kd) = _
    rw [opst_344]
    show hrI (hrI (opS h u k) 320 (fup (hpI (opS h u k) 320) 67 (nI p))) 344 (fup k p kd) = hrI (opS h u (fup k p kd)) 320 (fup (hpI (opS h u (fup k p kd)) 320) 67 (nI p))
    have e1 : ∀ u k, hpI (opS h u k) 320 = hpI h 320 := fun u k => by rw [opS, hpI_rI, if_neg (by decide), hpI_rI, if_neg (by decide)]
    rw [e1, e1, hrI_comm (a := 320) (b := 344) (by decide)]
    unfold opS
    rw [hrI_hrI]
  rintro _ rfl
  rw [e1, opst_67, nI_clamp (by omega)]
  refine ⟨345, sr_r59 s, sr_k345 s, by show vp_in _ (hpZ h 345); rw [sr_z345 s]; exact vp_in_nI hp (by omega), ?_⟩
  rintro _ rfl
  rw [show hpI (hsI (opst h u (fup k p kd) p) 345 p its) 320 67 = nI p by rw [hpI_sIo (by decide), opst_67], nI_clamp (by omega)]
  refine ⟨346, sr_r60 s, sr_k346 s, by show vp_in _ (hpZ h 346); rw [sr_z346 s]; exact vp_in_nI hp (by omega), ?_⟩
  rintro _ rfl
  rw [show hpI (hsI (hsI (opst h u (fup k p kd) p) 345 p its) 346 p 0) 320 67 = nI p by rw [hpI_sIo (by decide), hpI_sIo (by decide), opst_67]]
  exact K
theorem op_next (s : SR h) {kd its : Int32} {x : Nat} (hp : p < 4000) (hk : k p ≠ 0) (hx : x < 1000000)
    (K : x + 1 ≠ 4000 → mx_SX mY_X12_opened d 2 [(0, .ref 320), (1, .int kd), (2, .int its), (3, .int (nI (x + 1)))] [] (opst h u k ((p + 1) % 4000)) Q)
    (K2 : x + 1 = 4000 → 1 ≤ d ∧ mx_SM mY_X12_sweepsOpen (d - 1) [.ref 320] (opst h u k ((p + 1) % 4000)) (mx_KV (fun h2 => mx_SX mY_X12_opened d 2 [(0, .ref 320), (1, .int kd), (2, .int its), (3, .int (nI (x + 1)))] [] h2 Q) (mx_XX mY_X12_opened Q))) :
    mx_SX mY_X12_opened d 2 [(0, .ref 320), (1, .int kd), (2, .int its), (3, .int (nI x))] [] (opst h u k p) Q := by
  refine b_X12_opened_2 320 _ _ _ ⟨sr_k s, 344, sr_r58 s, sr_k344 s, ?_⟩
  rw [opst_67, opst_344, nI_clamp (by omega)]
  refine ⟨by show vp_in _ (hpZ h 344); rw [sr_z344 s]; exact vp_in_nI hp (by omega), fun c => absurd c hk, fun _ => ?_⟩
  have e : (nI p + 1) - (nI p + 1) / 4000 * 4000 = nI ((p + 1) % 4000) := by
    rw [nI_1]; exact pk_rem (d := 4000) (by omega) (by omega) (by omega)
  rw [e, opst_p]
  rintro _ rfl
  rw [nI_1]
  refine ⟨fun c => K fun e => c (by rw [e]; rfl), fun c => K2 ?_⟩
  exact (nI_eq (b := 4000) (by omega) (by omega)).mp c
theorem op_walk (s : SR h) {kd its : Int32} (K : ∀ q, q < 4000 → k q = 0 → Q (.inl (some (.int (nI q)))) (opF h u k q kd its)) : ∀ r q x, q < 4000 → k ((q + r) % 4000) = 0 → (x + r < 4000 ∨ 4000 ≤ x) → x + r < 10000 →
    mx_SX mY_X12_opened d 2 [(0, .ref 320), (1, .int kd), (2, .int its), (3, .int (nI x))] [] (opst h u k q) Q := by
  intro r
  induction r with
  | zero =>
    intro q x hq h1 h3 h4
    rw [Nat.add_zero, Nat.mod_eq_of_lt hq] at h1
    exact op_found s hq h1 (K q hq h1)
  | succ r ih =>
    intro q x hq h1 h3 h4
    by_cases cq : k q = 0
    · exact op_found s hq cq (K q hq cq)
    · refine op_next s hq cq (by omega) (fun _ => ih ((q + 1) % 4000) (x + 1) (Nat.mod_lt _ (by omega)) ?_ (by omega) (by omega)) fun e => absurd e (by omega)
      rw [Nat.mod_add_mod, show q + 1 + r = q + (r + 1) by omega]; exact h1
theorem op_full (hd : 3 ≤ d) (s : SR h) {kd its : Int32} {V : Nat} (v : VO L h V) (hk : ∀ i, i < 4000 → k i ≠ 0)
    (K : ∀ u' k' q, q < 4000 → MoS L u' → MO u' h V → (∀ i, i < 4000 → k' i = if u' i = 0 then 0 else k i) → mx_SX mY_X12_opened d 2 [(0, .ref 320), (1, .int kd), (2, .int its), (3, .int (nI 4000))] [] (opst h u' k' q) Q) : ∀ r q x, q < 4000 → x + r = 4000 → 0 < r →
    mx_SX mY_X12_opened d 2 [(0, .ref 320), (1, .int kd), (2, .int its), (3, .int (nI x))] [] (opst h u k q) Q := by
  intro r
  induction r with
  | zero => intro q x _ _ h; exact absurd h (by omega)
  | succ r ih =>
    intro q x hq h1 _
    have hq' : (q + 1) % 4000 < 4000 := Nat.mod_lt _ (by omega)
    refine op_next s hq (hk q hq) (by omega) (fun e => ih _ (x + 1) hq' (by omega) (by omega)) fun e => ⟨by omega, ?_⟩
    have s2 : SR (opst h u k ((q + 1) % 4000)) := s
    have v2 : VO L (opst h u k ((q + 1) % 4000)) V := by
      unfold VO
      rw [opst_I (a := 354) (by decide) (by decide) (by decide), opst_I (a := 352) (by decide) (by decide) (by decide), opst_F (by decide)]
      exact v
    refine mx_uV (k_X12_sweepsOpen (by omega) s2 v2) ?_
    rintro _ ⟨u', k', rfl, m1, m2, m3⟩
    rw [opst_S, e]
    unfold MO at m2
    rw [opst_I (a := 354) (by decide) (by decide) (by decide), opst_I (a := 352) (by decide) (by decide) (by decide)] at m2
    rw [opst_344] at m3
    exact K u' k' _ hq' m1 m2 m3
theorem k_X12_opened_raw (hd : 3 ≤ d) (s : SR h) {kd its : Int32} {V p0 : Nat} (v : VO L h V) (h67 : hpI h 320 67 = nI p0) (hp0 : p0 < 4000) (hL : ∀ u, MoS L u → ∃ i, i < 4000 ∧ u i = 0)
    (K : ∀ u k q, q < 4000 → k q = 0 → ((u = hpI h 353 ∧ k = hpI h 344) ∨ (MO u h V ∧ MoS L u ∧ ∀ i, i < 4000 → k i = if u i = 0 then 0 else hpI h 344 i)) → Q (.inl (some (.int (nI q)))) (opF h u k q kd its)) :
    mx_SM mY_X12_opened d [.ref 320, .int kd, .int its] h Q := by
  refine b_X12_opened 320 _ _ ?_
  have es : h = opst h (hpI h 353) (hpI h 344) p0 := by
    rw [opst, opS, hrI_self, hrI_self, ← h67]
    show h = hrI h 320 (fup (hpI h 320) 67 (hpI h 320 67))
    rw [show fup (hpI h 320) 67 (hpI h 320 67) = hpI h 320 from funext fun j => by
      by_cases q : j = 67
      · rw [q, fup_e]
      · rw [fup_n q], hrI_self]
  have far : ∀ (k : Nat → Int32) (i q : Nat), i < 4000 → k i = 0 → q < 4000 → ∃ r, r < 4000 ∧ k ((q + r) % 4000) = 0 := fun k i q h2 h3 h4 => by
    have : ∃ r, r < 4000 ∧ (q + r) % 4000 = i := by
      by_cases g : q ≤ i
      · exact ⟨i - q, by omega, by rw [show q + (i - q) = i by omega]; exact Nat.mod_eq_of_lt h2⟩
      · exact ⟨i + 4000 - q, by omega, by rw [show q + (i + 4000 - q) = i + 4000 by omega, Nat.add_mod_right]; exact Nat.mod_eq_of_lt h2⟩
    obtain ⟨r, r1, r2⟩ := this
    exact ⟨r, r1, by rw [r2]; exact h3⟩
  rw [← nI_0]
  by_cases ex : ∃ i, i < 4000 ∧ hpI h 344 i = 0
  · obtain ⟨i, i2, i3⟩ := ex
    obtain ⟨r, r1, r2⟩ := far _ i p0 i2 i3 hp0
    have := op_walk (d := d) (Q := Q) s (u := hpI h 353) (kd := kd) (its := its) (fun q g1 g2 => K _ _ q g1 g2 (Or.inl ⟨rfl, rfl⟩)) r p0 0 hp0 r2 (by omega) (by omega)
    rw [← es] at this
    exact this
  · have nz : ∀ i, i < 4000 → hpI h 344 i ≠ 0 := fun i hi e => ex ⟨i, hi, e⟩
    have := op_full (d := d) (Q := Q) hd s (kd := kd) (its := its) (u := hpI h 353) v nz (fun u' k' q g1 g2 g3 g4 => by
      obtain ⟨i, i2, i3⟩ := hL u' g2
      obtain ⟨r, r1, r2⟩ := far k' i q i2 (by rw [g4 i i2, if_pos i3]) g1
      exact op_walk s (fun q w1 w2 => K _ _ q w1 w2 (Or.inr ⟨g3, g2, g4⟩)) r q 4000 g1 r2 (by omega) (by omega)) 4000 p0 0 hp0 (by omega) (by omega)
    rw [← es] at this
    exact this
end MXOQ
