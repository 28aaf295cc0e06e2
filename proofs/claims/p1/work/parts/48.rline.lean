/-! THE REFERENCE'S LINES: marking and sweeping -/
section MXLM
variable {d : Nat} {h : mxH}
theorem hrI_hrI {a : Nat} {f g : Nat → Int32} : hrI (hrI h a f) a g = hrI h a g := by
  unfold hrI
  have : (fun b => if b = a then g else (fun b => if b = a then f else h.2.2.2.2.2.1 b) b) = (fun b => if b = a then g else h.2.2.2.2.2.1 b) := by
    funext b
    by_cases c : b = a
    · rw [if_pos c, if_pos c]
    · rw [if_neg c, if_neg c]; exact if_neg c
  exact congrArg (fun q => (h.1, h.2.1, h.2.2.1, h.2.2.2.1, h.2.2.2.2.1, q, h.2.2.2.2.2.2.1, h.2.2.2.2.2.2.2)) this
theorem hrI_self {a : Nat} : hrI h a (hpI h a) = h := by
  unfold hrI
  have : (fun b => if b = a then hpI h a else h.2.2.2.2.2.1 b) = h.2.2.2.2.2.1 := by
    funext b
    by_cases c : b = a
    · rw [if_pos c, c]; rfl
    · rw [if_neg c]
  rw [this]
theorem hsI_hrI {a k : Nat} {f : Nat → Int32} {v : Int32} : hsI (hrI h a f) a k v = hrI h a (fup f k v) := by
  show hrI (hrI h a f) a (fup (hpI (hrI h a f) a) k v) = _
  rw [hrI_hrI, hpI_rIs]
theorem k_X12_marks {i : Nat} {u : Nat → Int32} (s : SR h) (hi : i < 4400) : mx_SM mY_X12_marks d [.ref 320, .int (nI i)] (hrI h 341 u) (mx_xct (.inl none) (hrI h 341 (fup u i 1))) := by
  refine b_X12_marks 320 _ ⟨sr_k s, 341, sr_r54 s, sr_k341 s, ?_⟩
  simp (disch := omega) only [hpZ_rI, sr_z341 s, vpT, true_and, nI_clamp, hsI_hrI]
  rintro _ rfl
  exact ⟨rfl, rfl⟩
/-- marks so far: all are of L -/
def MkS (L : Int32 → Prop) (u : Nat → Int32) : Prop := ∀ i, i < 4400 → u i = 0 ∨ (u i = 1 ∧ (i = 0 ∨ L (nI i)))
def MkL (u u' : Nat → Int32) : Prop := ∀ i, u i = 1 → u' i = 1
theorem MkS.up {L : Int32 → Prop} {u : Nat → Int32} {i : Nat} (m : MkS L u) (hl : L (nI i)) : MkS L (fup u i 1) := fun j hj => by
  by_cases c : j = i
  · rw [c, fup_e]; exact Or.inr ⟨rfl, Or.inr hl⟩
  · rw [fup_n c]; exact m j hj
theorem MkL.up {u : Nat → Int32} {i : Nat} : MkL u (fup u i 1) := fun j hj => by
  by_cases c : j = i
  · rw [c, fup_e]
  · rw [fup_n c]; exact hj
theorem MkL.tr {u v w : Nat → Int32} (a : MkL u v) (b : MkL v w) : MkL u w := fun i hi => b i (a i hi)
/-- what a marking leaves -/
def MkP (h : mxH) (L : Int32 → Prop) (u : Nat → Int32) (W : (Nat → Int32) → Prop) : mxH → Prop := fun h' => ∃ u', h' = hrI h 341 u' ∧ MkS L u' ∧ MkL u u' ∧ W u'
def Mkd (u : Nat → Int32) (f : Nat → Int32) (j n : Nat) : Prop := ∀ k, k < n → ∃ i, f (j + k) = nI i ∧ i < 4400 ∧ u i = 1
def Vld (L : Int32 → Prop) (f : Nat → Int32) (j n : Nat) : Prop := ∀ k, k < n → ∃ i, f (j + k) = nI i ∧ i < 4400 ∧ L (nI i)
theorem Mkd.mono {u u' f : Nat → Int32} {j n : Nat} (a : Mkd u f j n) (m : MkL u u') : Mkd u' f j n := fun k hk => by
  obtain ⟨i, a1, a2, a3⟩ := a k hk; exact ⟨i, a1, a2, m i a3⟩
theorem mx_uV {Y : mxY} {As : List Value} {P P' : mxH → Prop} {X : String → mxH → Prop} (k : mx_SM Y d As h (mx_KV P fun _ _ => False)) (hp : ∀ h1, P h1 → P' h1) : mx_SM Y d As h (mx_KV P' X) :=
  k.mono fun r h1 q => by
    rcases q with ⟨q1, q2⟩ | ⟨E, -, q⟩
    · exact Or.inl ⟨q1, hp _ q2⟩
    · exact q.elim
theorem mx_uI {Y : mxY} {As : List Value} {P P' : Int32 → mxH → Prop} {X : String → mxH → Prop} (k : mx_SM Y d As h (mx_KI P fun _ _ => False)) (hp : ∀ v h1, P v h1 → P' v h1) : mx_SM Y d As h (mx_KI P' X) :=
  k.mono fun r h1 q => by
    rcases q with ⟨v, q1, q2⟩ | ⟨E, -, q⟩
    · exact Or.inl ⟨v, q1, hp _ _ q2⟩
    · exact q.elim
theorem mx_uL {Y : mxY} {As : List Value} {P P' : Int64 → mxH → Prop} {X : String → mxH → Prop} (k : mx_SM Y d As h (mx_KL P fun _ _ => False)) (hp : ∀ v h1, P v h1 → P' v h1) : mx_SM Y d As h (mx_KL P' X) :=
  k.mono fun r h1 q => by
    rcases q with ⟨v, q1, q2⟩ | ⟨E, -, q⟩
    · exact Or.inl ⟨v, q1, hp _ _ q2⟩
    · exact q.elim
theorem k_X12_marksShell_2 (hd : 1 ≤ d) (s : SR h) {a p c : Nat} {L : Int32 → Prop} (ha : a = 354 ∨ a = 361) (hz : p + 21 ≤ srZ a) (hc : hpI h a p = nI c) (hc2 : c ≤ 20) (hv : Vld L (hpI h a) (p + 1) c) : ∀ m j u, j + m = c → MkS L u → Mkd u (hpI h a) (p + 1) j →
    mx_SX mY_X12_marksShell d 2 [(0, .ref 320), (1, .ref a), (2, .int (nI p)), (3, .int (nI j))] [] (hrI h 341 u) (mx_KV (MkP h L u fun u' => Mkd u' (hpI h a) (p + 1) c) fun _ _ => False) := by
  have ka : hpK h a = 14 ∧ hpZ h a = srZ a ∧ a ≠ 341 ∧ srZ a < 2 ^ 31 := by
    rcases ha with rfl | rfl
    · exact ⟨sr_k354 s, sr_z354 s, by decide, by decide⟩
    · exact ⟨sr_k361 s, sr_z361 s, by decide, by decide⟩
  obtain ⟨k1, k2, k3, k4⟩ := ka
  intro m
  induction m with
  | zero =>
    intro j u hj hS hM
    refine b_X12_marksShell_2 320 a _ _ ⟨k1, ?_⟩
    simp (disch := omega) only [nI_lit, nI_add, hpZ_rI, k2, vpT, true_and, nI_clamp, hpI_rI, if_neg k3, Nat.add_zero, hc, nI_leI]
    refine ⟨fun _ => Or.inl ⟨rfl, u, rfl, hS, fun _ q => q, ?_⟩, fun q => absurd (by omega) q⟩
    have : j = c := by omega
    exact this ▸ hM
  | succ m ih =>
    intro j u hj hS hM
    obtain ⟨i, v1, v2, v3⟩ := hv j (by omega)
    refine b_X12_marksShell_2 320 a _ _ ⟨k1, ?_⟩
    simp (disch := omega) only [nI_lit, nI_add, hpZ_rI, k2, vpT, true_and, nI_clamp, hpI_rI, if_neg k3, Nat.add_zero, hc, nI_leI, v1]
    refine ⟨fun q => absurd q (by omega), fun _ => ⟨hd, sr_k s, mx_xKV (k_X12_marks s v2) ?_⟩⟩
    refine (ih (j + 1) _ (by omega) (hS.up v3) ?_).mono fun r h1 q => ?_
    · intro k hk
      by_cases c : k < j
      · obtain ⟨i', b1, b2, b3⟩ := hM k c
        exact ⟨i', b1, b2, MkL.up i' b3⟩
      · exact ⟨i, by rw [← v1]; congr 1; omega, v2, fup_e⟩
    · rcases q with ⟨q1, u', q2, q3, q4, q5⟩ | ⟨E, -, q⟩
      · exact Or.inl ⟨q1, u', q2, q3, MkL.up.tr q4, q5⟩
      · exact q.elim
theorem k_X12_marksShell (hd : 1 ≤ d) (s : SR h) {a p c : Nat} {L : Int32 → Prop} {u : Nat → Int32} (ha : a = 354 ∨ a = 361) (hz : p + 21 ≤ srZ a) (hc : hpI h a p = nI c) (hc2 : c ≤ 20) (hv : Vld L (hpI h a) (p + 1) c) (hS : MkS L u) :
    mx_SM mY_X12_marksShell d [.ref 320, .ref a, .int (nI p)] (hrI h 341 u) (mx_KV (MkP h L u fun u' => Mkd u' (hpI h a) (p + 1) c) fun _ _ => False) :=
  b_X12_marksShell 320 a _ (k_X12_marksShell_2 hd s ha hz hc hc2 hv c 0 u (by omega) hS (fun k hk => absurd hk (by omega)))
end MXLM
