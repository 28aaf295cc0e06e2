/-! THE REFERENCE'S PIPES: closing, adding, making -/
section MXPK
variable {d : Nat} {h0 h : mxH} {w : spW} {G : List spE} {V : List (Option (Option Nat))} {P : List spX} {n m xs : Nat} {Q : mxRes → mxH → Prop}
/-- what closing a pipe leaves: rows of the queues alone -/
def clP (h : mxH) (b : Nat) (Qs : Nat → List Nat) (h1 : mxH) : Prop :=
  (∀ a, a ≠ 347 → a ≠ 348 → a ≠ 349 → a ≠ 351 → a ≠ 320 → hpI h1 a = hpI h a) ∧ (∀ k, k ≠ 66 → hpI h1 320 k = hpI h 320 k) ∧ hpL h1 = hpL h ∧ SR h1 ∧ (∀ h0, Fr h0 h → Fr h0 h1) ∧ hpI h1 349 = fup (hpI h 349) b 0 ∧
  ∃ fr, RPs (hpI h1 347) (hpI h1 348) (hpI h1 349) (hpI h1 351) (hpI h1 320 66) (fup Qs b []) fr
theorem cp_0 (hd : 1 ≤ d) {b : Nat} (hb : b < 400) : ∀ (l : List Nat) (h : mxH) (Qs : Nat → List Nat) (fr : List Nat), SR h → RPs (hpI h 347) (hpI h 348) (hpI h 349) (hpI h 351) (hpI h 320 66) Qs fr → Qs b = l →
    mx_SX mY_X12_closesPipe d 0 [(0, .ref 320), (1, .int (nI b))] [] h (mx_KV (clP h b Qs) fun _ _ => False) := by
  intro l
  induction l with
  | nil =>
    intro h Qs fr s r hq
    have hf : hpI h 347 b = -1 := by have := (r.2.1 b hb).1; rw [hq] at this; exact this
    refine b_X12_closesPipe_0 320 _ ⟨sr_k s, 347, sr_r61 s, sr_k347 s, by rw [sr_z347 s]; exact vp_in_nI hb (by omega), ?_⟩
    rw [nI_clamp (by omega), hf]
    refine ⟨fun _ => ⟨349, sr_r63 s, sr_k349 s, by rw [sr_z349 s]; exact vp_in_nI hb (by omega), ?_⟩, fun c => absurd rfl c⟩
    rintro _ rfl
    refine Or.inl ⟨rfl, fun a _ _ h3 _ _ => hpI_sIo h3, fun k _ => by rw [hpI_sIo (by decide)], rfl, s, fun h0 fr => fr.rI rfl, hpI_sIs, fr, ?_⟩
    rw [hpI_sIs, hpI_sIo (by decide), hpI_sIo (by decide), hpI_sIo (by decide), hpI_sIo (by decide)]
    have eq : fup Qs b [] = Qs := funext fun c => by
      by_cases e : c = b
      · rw [e, fup_e, hq]
      · rw [fup_n e]
    rw [eq]
    obtain ⟨c1, c2, c3⟩ := r
    refine ⟨c1, fun c hc => ?_, c3⟩
    obtain ⟨z1, z2, z3, z4⟩ := c2 c hc
    refine ⟨z1, z2, z3, fun e => ?_⟩
    by_cases ec : c = b
    · rw [ec]; exact hq
    · rw [fup_n ec] at e; exact z4 e
  | cons q l ih =>
    intro h Qs fr s r hq
    have rq := (r.2.1 b hb).1
    rw [hq] at rq
    obtain ⟨rq1, rq2, rq3⟩ := rq
    refine b_X12_closesPipe_0 320 _ ⟨sr_k s, 347, sr_r61 s, sr_k347 s, by rw [sr_z347 s]; exact vp_in_nI hb (by omega), ?_⟩
    rw [nI_clamp (by omega), rq1]
    refine ⟨fun c => absurd c fun c => (nI_neg1 (by omega)).mp c, fun _ => ⟨hd, mx_xKI2 (k_X12_takesFirst_raw s hb rq1 rq2) ?_⟩⟩
    refine (ih (tkF h b q) (fup Qs b l) (q :: fr) (tkF_SR s) (RPs.tk r hb hq) fup_e).mono fun r1 h1 e => ?_
    rcases e with ⟨e1, k1, k2, k3, k4, k5, k6, fr', k7⟩ | ⟨E, -, e⟩
    · refine Or.inl ⟨e1, fun a a1 a2 a3 a4 a5 => (k1 a a1 a2 a3 a4 a5).trans (tkF_I a1 a2 a4 a5), fun k hk => (k2 k hk).trans (tkF_F hk), k3.trans tkF_L, k4, fun h0 fr => k5 h0 (tkF_Fr fr), ?_, fr', ?_⟩
      · rw [k6, tkF_I (by decide) (by decide) (by decide) (by decide)]
      · rw [fup_fup] at k7; exact k7
    · exact e.elim
theorem k_X12_closesPipe_raw (hd : 1 ≤ d) (s : SR h) {b : Nat} (hb : b < 400) {Qs : Nat → List Nat} {fr : List Nat} (r : RPs (hpI h 347) (hpI h 348) (hpI h 349) (hpI h 351) (hpI h 320 66) Qs fr) :
    mx_SM mY_X12_closesPipe d [.ref 320, .int (nI b)] h (mx_KV (clP h b Qs) fun _ _ => False) :=
  mx_SM_of (by decide) (Nat.le_of_ble_eq_true rfl) (cp_0 hd hb _ h Qs fr s r rfl)
/-- not an end of this pipe -/
def notP (w : spW) (p : Nat) (a : Nat) : Prop := ∀ q, (wO w)[a]? = some q → ¬ ((q.1 = 5 ∨ q.1 = 6) ∧ q.2.1 = p)
theorem clP_RLn {b : Nat} {Qs : Nat → List Nat} {h1 : mxH} (c : clP h b Qs h1) : RLn h1 = RLn h := by
  show RLr (hpI h1 339) (hpI h1 340) (hpI h1 341) = _
  rw [c.1 339 (by decide) (by decide) (by decide) (by decide) (by decide), c.1 340 (by decide) (by decide) (by decide) (by decide) (by decide), c.1 341 (by decide) (by decide) (by decide) (by decide) (by decide)]
/-- a pipe is closed that no handle refers to -/
theorem k_X12_closesPipe (hd : 1 ≤ d) {X : List (Int32 × spL)} {Z : List (Int32 × Nat)} (r : RG h0 h w G V P (X, [], Z) n m xs) {b p : Nat} (hz : (nI b, p) ∈ Z)
    (hG : ∀ e ∈ G, ∀ k, k < 10 → ∀ a, fH e.2.1.1 k = some a → notP w p a) (hV : ∀ x ∈ V, ∀ a, x = some (some a) → notP w p a) (hZ : ∀ z ∈ Z, z.2 = p → z = (nI b, p)) :
    mx_SM mY_X12_closesPipe d [.ref 320, .int (nI b)] h (mx_KV (fun h1 => RG h0 h1 w G V P (X, [], Z.filter fun z => decide (z.2 ≠ p)) n m xs) fun _ _ => False) := by
  obtain ⟨A, B, Qs, fr, sr, hw, ht, ⟨ho1, ho2⟩, ⟨frr, c1, c2, c3, c4, c5, c6, c7, c8, c9⟩, he, hv, hk, ⟨Lr, l1, l2, l3, l4, l5, l6⟩, hd', hzz, hN1, hN2, hN3⟩ := r
  obtain ⟨b', b1, b2⟩ := hN3 _ hz
  obtain ⟨y1, y2, y3, y4, y5⟩ := c6 p b' b2
  have e0 : nI b = nI b' := b1
  rw [e0]
  refine mx_uV (k_X12_closesPipe_raw hd sr y2 ⟨c1, c2, c3, c4, c5⟩) fun h1 hc => ?_
  have rl := clP_RLn hc
  obtain ⟨k1, k2, k3, k4, k5, k6, fr', d1, d2, d3, d4, d5⟩ := hc
  classical
  refine ⟨fun i => if ∃ a, A i = some a ∧ notP w p a then A i else none, fun a => if a = p then none else B a, fup Qs b' [], k5 h0 fr, k4, ?_⟩
  have kA : ∀ i a, A i = some a → notP w p a → (if ∃ a, A i = some a ∧ notP w p a then A i else none) = some a := fun i a h1 h2 => by rw [if_pos ⟨a, h1, h2⟩]; exact h1
  have gA : ∀ i a, (if ∃ a, A i = some a ∧ notP w p a then A i else none) = some a → A i = some a ∧ notP w p a := fun i a h1 => by
    by_cases c : ∃ a, A i = some a ∧ notP w p a
    · rw [if_pos c] at h1
      obtain ⟨a', e1, e2⟩ := c
      have : a' = a := by rw [e1] at h1; exact (Option.some.injEq _ _).mp h1
      exact ⟨h1, this ▸ e2⟩
    · rw [if_neg c] at h1; cases h1
  have gB : ∀ a c, (if a = p then none else B a) = some c → a ≠ p ∧ B a = some c := fun a c h => by
    by_cases e : a = p
    · rw [if_pos e] at h; cases h
    · rw [if_neg e] at h; exact ⟨e, h⟩
  rw [rl, k3, k2 55 (by decide), k2 67 (by decide), k2 82 (by decide), k2 69 (by decide)]
  rw [k1 342 (by decide) (by decide) (by decide) (by decide) (by decide), k1 356 (by decide) (by decide) (by decide) (by decide) (by decide), k1 344 (by decide) (by decide) (by decide) (by decide) (by decide), k1 345 (by decide) (by decide) (by decide) (by decide) (by decide), k1 346 (by decide) (by decide) (by decide) (by decide) (by decide), k1 350 (by decide) (by decide) (by decide) (by decide) (by decide), k1 354 (by decide) (by decide) (by decide) (by decide) (by decide), k1 352 (by decide) (by decide) (by decide) (by decide) (by decide), k1 361 (by decide) (by decide) (by decide) (by decide) (by decide)]
  refine ⟨hw, ht, ⟨fun i a e => ?_, fun i j a e1 e2 => ho2 i j a (gA i a e1).1 (gA j a e2).1⟩, ⟨fr', d1, d2, d3, d4, d5, fun a c hc => ?_, fun a e c q1 q2 => c7 a e c (gB a c q1).2 (gB e c q2).2, fun c hc => ?_, fun c hc hi => ?_⟩, ⟨fun e hm => ?_, he.2⟩, ⟨hv.1, fun k hk => ?_⟩, hk, ⟨Lr, l1, l2, l3, fun c hc x hx => ?_, l5, l6⟩, hd', hzz, hN1, fun q hq => absurd hq List.not_mem_nil, fun z hz => ?_⟩
  · obtain ⟨e1, e2⟩ := gA i a e
    obtain ⟨x1, q, x2, x3, x4, x5, x6, x7, x8, x9⟩ := ho1 i a e1
    refine ⟨x1, q, x2, x3, x4, x5, x6, x7, x8, fun c => ?_⟩
    obtain ⟨b3, b4, b5⟩ := x9 c
    have : q.2.1 ≠ p := fun e => e2 q x2 ⟨c, e⟩
    exact ⟨b3, (if_neg this).trans b4, b5⟩
  · obtain ⟨q1, q2⟩ := gB a c hc
    obtain ⟨z1, z2, z3, z4, z5⟩ := c6 a c q2
    have ec : c ≠ b' := fun e => q1 (c7 _ _ _ q2 (by rw [e]; exact b2))
    rw [k6, fup_n ec, fup_n ec]
    exact ⟨z1, z2, z3, z4, z5⟩
  · rw [k6]
    by_cases ec : c = b'
    · rw [ec, fup_e]; exact Or.inl rfl
    · rw [fup_n ec]; exact c8 c hc
  · rw [k6] at hi
    by_cases ec : c = b'
    · rw [ec, fup_e] at hi; cases hi
    · rw [fup_n ec] at hi
      obtain ⟨a, ha⟩ := c9 c hc hi
      have : a ≠ p := fun e => ec (by rw [e, b2] at ha; exact ((Option.some.injEq _ _).mp ha).symm)
      exact ⟨a, (if_neg this).trans ha⟩
  · obtain ⟨a1, a2, a3, a4, a5⟩ := he.1 e hm
    refine ⟨a1, a2, a3, fun k hk => ?_, a5⟩
    rcases a4 k hk with q | ⟨o, a, q1, q2, q3, q4⟩
    · exact Or.inl q
    · exact Or.inr ⟨o, a, q1, q2, q3, kA o a q4 (hG e hm k hk a q1)⟩
  · have := hv.2 k hk
    have hm := List.getElem_mem hk
    revert this
    generalize V[k] = x at hm
    intro this
    cases x with
    | none => exact this
    | some x =>
      rcases this with q | ⟨o, a, q1, q2, q3, q4⟩
      · exact Or.inl q
      · exact Or.inr ⟨o, a, q1, q2, q3, kA o a q4 (hV _ hm a (by rw [q1]))⟩
  · by_cases ec : c = b'
    · rw [ec, fup_e] at hx; cases hx
    · rw [fup_n ec] at hx; exact l4 c hc x hx
  · obtain ⟨z1, z2⟩ := List.mem_filter.mp hz
    have : z.2 ≠ p := of_decide_eq_true z2
    obtain ⟨c, q1, q2⟩ := hN3 z z1
    exact ⟨c, q1, (if_neg this).trans q2⟩
end MXPK
