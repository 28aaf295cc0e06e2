/-! THE TEXT'S NODES; what the middle keeps -/
/-- a node of a kind, behind another -/
def nSub (T : spT) (n i : Nat) (p : Int32 → Prop) (v : Int32) : Prop := ∃ j, v = nI j ∧ i < j ∧ j < n ∧ p (tK T v)
def nNx (T : spT) (n i : Nat) (p : Int32 → Prop) (v : Int32) : Prop := v = -1 ∨ nSub T n i p v
def isK (T : spT) (n : Nat) (p : Int32 → Prop) (v : Int32) : Prop := ∃ i, v = nI i ∧ i < n ∧ p (tK T v)
def kCmd (k : Int32) : Prop := k = 4 ∨ k = 5 ∨ k = 6 ∨ k = 7 ∨ k = 8 ∨ k = 9 ∨ k = 10
def okA (T : spT) (m : Nat) (v : Int32) : Prop := chE T 3000 v ∧ (∀ a ∈ chn T 3000 v, tK T a = 11 → fitW 13 (tM T a)) ∧ (chn T 3000 v).length ≤ m
/-- a good text: n nodes -/
def WT (T : spT) (n : Nat) : Prop := n ≤ 3000 ∧ ∀ i v, v = nI i → i < n →
  (tK T v = 1 → nNx T n i (· = 2) (tA T v)) ∧
  (tK T v = 2 → nSub T n i (· = 3) (tA T v) ∧ nNx T n i (· = 2) (tN T v)) ∧
  (tK T v = 3 → nSub T n i kCmd (tA T v) ∧ nNx T n i (· = 3) (tN T v)) ∧
  (kCmd (tK T v) → nNx T n i kCmd (tN T v) ∧ chE T 3000 (tR T v) ∧ ∀ a ∈ chn T 3000 (tR T v), okR T a) ∧
  (tK T v = 4 → nSub T n i (· = 1) (tA T v)) ∧ (tK T v = 5 → nSub T n i (· = 1) (tA T v)) ∧
  (tK T v = 6 → nSub T n i (· = 2) (tA T v) ∧ nSub T n i (· = 1) (tB T v) ∧ nNx T n i (· = 1) (tC T v)) ∧
  (tK T v = 7 → nSub T n i (· = 2) (tA T v) ∧ nSub T n i (· = 1) (tB T v)) ∧
  (tK T v = 8 → nSub T n i (· = 1) (tA T v)) ∧
  (tK T v = 9 → okA T 1 (tA T v) ∧ (chn T 3000 (tA T v)).length = 1) ∧ (tK T v = 10 → okA T 350 (tA T v))
theorem nSub.is {T : spT} {n i : Nat} {p : Int32 → Prop} {v : Int32} (h : nSub T n i p v) : isK T n p v := by
  obtain ⟨j, h1, -, h2, h3⟩ := h; exact ⟨j, h1, h2, h3⟩
theorem nNx.is {T : spT} {n i : Nat} {p : Int32 → Prop} {v : Int32} (h : nNx T n i p v) : v = -1 ∨ isK T n p v := h.imp_right nSub.is
def stat (v : Int32) : Prop := ∃ k, k < 256 ∧ v = nI k
theorem st0 : stat 0 := ⟨0, by omega, rfl⟩
theorem st1 : stat 1 := ⟨1, by omega, rfl⟩
theorem st2 : stat 2 := ⟨2, by omega, rfl⟩
def okF (T : spT) (n : Nat) (f : spF) : Prop := stat (fS f) ∧ ∀ q ∈ fU f, isK T n (· = 1) q.2
def okJ (T : spT) (n : Nat) (q : spJ) : Prop := q.1 ≤ 2 ∧ stat q.2.1 ∧ isK T n (· = 2) q.2.2.1 ∧ okF T n q.2.2.2
def okS (T : spT) (n : Nat) (S : spS) : Prop := okF T n S.1 ∧ ∀ q ∈ S.2.2, okJ T n q
/-- the world of a run that goes on; a: a command has begun and done nothing; b: a pipe is made ahead -/
def okW (w : spW) (a b : Nat) : Prop := wB w ≤ 300 ∧ wM w + a ≤ wB w ∧ totU w + 40 * a ≤ 40 * wB w ∧ (wU w).length ≤ wB w + b ∧ (∀ q ∈ wO w, (q.1 = 5 ∨ q.1 = 6) → q.2.1 < (wU w).length) ∧ (wI w).length ≤ 40 ∧ ∀ i, (lnsOf w i).length ≤ 40
/-- what only grows -/
def Le (w w' : spW) : Prop := (∀ (a : Nat) (q : spO), (wO w)[a]? = some q → ∃ ps, (wO w')[a]? = some (q.1, q.2.1, ps)) ∧ (wU w).length ≤ (wU w').length ∧ wB w ≤ wB w' ∧ (wX w = true → wX w' = true)
theorem Le.rf {w : spW} : Le w w := ⟨fun a q h => ⟨q.2.2, h⟩, Nat.le_refl _, Nat.le_refl _, fun h => h⟩
theorem Le.tr {a b c : spW} (h1 : Le a b) (h2 : Le b c) : Le a c := ⟨fun i q h => by
  obtain ⟨ps, e⟩ := h1.1 i q h
  obtain ⟨ps2, e2⟩ := h2.1 i _ e
  exact ⟨ps2, e2⟩, Nat.le_trans h1.2.1 h2.2.1, Nat.le_trans h1.2.2.1 h2.2.2.1, fun h => h2.2.2.2 (h1.2.2.2 h)⟩
theorem okW.lo {w : spW} {a b : Nat} (h : okW w a 0) : okW w 0 b := by
  obtain ⟨h1, h2, h3, h4, h5⟩ := h
  exact ⟨h1, by omega, by omega, by omega, h5⟩
/-- what a command does to the world, but to the lines in its pipes -/
def Wr (w w' : spW) : Prop := wB w' = wB w ∧ wM w' = wM w ∧ wX w' = wX w ∧ (wU w').length = (wU w).length ∧ (wI w').length ≤ (wI w).length ∧ ((∀ i, (lnsOf w i).length ≤ 40) → ∀ i, (lnsOf w' i).length ≤ 40) ∧
  (∀ q' ∈ wO w', (q'.1 = 5 ∨ q'.1 = 6) → ∃ q ∈ wO w, q.1 = q'.1 ∧ q.2.1 = q'.2.1) ∧ ∀ (a : Nat) (q : spO), (wO w)[a]? = some q → ∃ ps, (wO w')[a]? = some (q.1, q.2.1, ps)
theorem Wr.rf {w : spW} : Wr w w := ⟨rfl, rfl, rfl, rfl, Nat.le_refl _, fun h => h, fun q h _ => ⟨q, h, rfl, rfl⟩, fun a q h => ⟨q.2.2, h⟩⟩
theorem Wr.tr {a b c : spW} (h1 : Wr a b) (h2 : Wr b c) : Wr a c := by
  obtain ⟨x1, x2, x3, x4, x5, x6, x7, x8⟩ := h1
  obtain ⟨y1, y2, y3, y4, y5, y6, y7, y8⟩ := h2
  refine ⟨y1.trans x1, y2.trans x2, y3.trans x3, y4.trans x4, Nat.le_trans y5 x5, fun h => y6 (x6 h), fun q h hk => ?_, fun i q h => ?_⟩
  · obtain ⟨q1, p1, p2, p3⟩ := y7 q h hk
    obtain ⟨q2, r1, r2, r3⟩ := x7 q1 p1 (by rw [p2]; exact hk)
    exact ⟨q2, r1, r2.trans p2, r3.trans p3⟩
  · obtain ⟨ps, e⟩ := x8 i q h
    obtain ⟨ps2, e2⟩ := y8 i _ e
    exact ⟨ps2, e2⟩
theorem Wr.le {w w' : spW} (h : Wr w w') : Le w w' := ⟨h.2.2.2.2.2.2.2, by rw [h.2.2.2.1]; exact Nat.le_refl _, by rw [h.1]; exact Nat.le_refl _, fun e => by rw [h.2.2.1]; exact e⟩
theorem Wr.ok {w w' : spW} {a b : Nat} (h : Wr w w') (k : okW w a b) (c : totU w' + 40 * a ≤ 40 * wB w) : okW w' a b := by
  obtain ⟨x1, x2, x3, x4, x5, x6, x7, x8⟩ := h
  obtain ⟨k1, k2, k3, k4, k5, k6, k7⟩ := k
  refine ⟨by omega, by omega, by rw [x1]; exact c, by omega, fun q h hk => ?_, by omega, x6 k7⟩
  obtain ⟨q1, p1, p2, p3⟩ := x7 q h hk
  have := k5 q1 p1 (by rw [p2]; exact hk)
  omega
/-- an entry's position alone changes -/
theorem Wr.pos {w : spW} {o ps : Nat} : Wr w (uO w ((wO w).set o (((wO w).getD o (0, 0, 0)).1, ((wO w).getD o (0, 0, 0)).2.1, ps))) := by
  refine ⟨rfl, rfl, rfl, rfl, Nat.le_refl _, fun h => h, fun q h hk => ?_, fun a q h => ?_⟩
  · have h : q ∈ (wO w).set o (((wO w).getD o (0, 0, 0)).1, ((wO w).getD o (0, 0, 0)).2.1, ps) := h
    rcases List.mem_or_eq_of_mem_set h with e | e
    · exact ⟨q, e, rfl, rfl⟩
    · by_cases c : o < (wO w).length
      · refine ⟨(wO w).getD o (0, 0, 0), by rw [gd_at c]; exact List.getElem_mem _, by rw [e], by rw [e]⟩
      · rw [e, gd_out (by omega)] at hk
        rcases hk with k | k <;> cases k
  · show ∃ p, ((wO w).set o _)[a]? = _
    by_cases c : o = a
    · subst c
      have lt := (List.getElem?_eq_some_iff.mp h).1
      have e : (wO w).getD o (0, 0, 0) = q := by rw [gd_at lt]; exact (List.getElem?_eq_some_iff.mp h).2
      rw [List.getElem?_set_self lt, e]
      exact ⟨ps, rfl⟩
    · rw [List.getElem?_set_ne c]; exact ⟨q.2.2, h⟩
theorem Wr.op {w : spW} {k o : Nat} (h5 : k ≠ 5) (h6 : k ≠ 6) : Wr w (opn w k o).2 := by
  refine ⟨rfl, rfl, rfl, rfl, Nat.le_refl _, fun h => h, fun q h hk => ?_, fun a q h => ?_⟩
  · have h : q ∈ wO w ++ [(k, o, 0)] := h
    rcases List.mem_append.mp h with e | e
    · exact ⟨q, e, rfl, rfl⟩
    · rw [List.mem_singleton.mp e] at hk
      rcases hk with k | k
      · exact absurd k h5
      · exact absurd k h6
  · show ∃ p, (wO w ++ [(k, o, 0)])[a]? = _
    rw [List.getElem?_append_left (List.getElem?_eq_some_iff.mp h).1]
    exact ⟨q.2.2, h⟩
theorem lns_set {w : spW} {f : Nat} {ls : List spL} {i : Nat} : lnsOf (setF w f ls) i = if i = f ∧ f < (wF w).length then ls else lnsOf w i := by
  show (((wF w).set f _).getD i (0, [])).2 = _
  by_cases c : i = f
  · subst c
    by_cases l : i < (wF w).length
    · rw [if_pos ⟨rfl, l⟩, getD_set_self l]
    · rw [if_neg (fun q => l q.2), List.set_eq_of_length_le (by omega)]
  · rw [if_neg (fun q => c q.1), getD_set_ne (fun e => c e.symm)]
theorem Wr.sF {w : spW} {f : Nat} {ls : List spL} (hl : (∀ i, (lnsOf w i).length ≤ 40) → ls.length ≤ 40) : Wr w (setF w f ls) := by
  refine ⟨rfl, rfl, rfl, rfl, Nat.le_refl _, fun h i => ?_, fun q h _ => ⟨q, h, rfl, rfl⟩, fun a q h => ⟨q.2.2, h⟩⟩
  rw [lns_set]
  split
  · exact hl h
  · exact h i
theorem Wr.sU {w : spW} {p : Nat} {x : List spL} : Wr w (uU w ((wU w).set p x)) := by
  refine ⟨rfl, rfl, rfl, ?_, Nat.le_refl _, fun h => h, fun q h _ => ⟨q, h, rfl, rfl⟩, fun a q h => ⟨q.2.2, h⟩⟩
  show ((wU w).set p x).length = _
  exact List.length_set
theorem Wr.rd {w : spW} {oh : Option Nat} {bg : Bool} : Wr w (rdLine w oh bg).2 := by
  cases oh with
  | none => exact Wr.rf
  | some o =>
    unfold rdLine
    simp only []
    split
    · split
      · exact Wr.rf
      · split
        · exact Wr.rf
        · rename_i l r e
          refine ⟨rfl, rfl, rfl, rfl, ?_, fun h => h, fun q h _ => ⟨q, h, rfl, rfl⟩, fun a q h => ⟨q.2.2, h⟩⟩
          show r.length ≤ (wI w).length
          rw [e, List.length_cons]; omega
    · split
      · split
        · exact Wr.pos
        · exact Wr.rf
      · split
        · split
          · exact Wr.rf
          · exact Wr.sU
        · exact Wr.rf
theorem putAt_len {ls : List spL} {p : Nat} {l : spL} (h1 : ls.length ≤ 40) (h2 : p < 40) : (putAt ls p l).length ≤ 40 := by
  unfold putAt
  split
  · rw [List.length_set]; exact h1
  · rw [List.length_append, List.length_append, List.length_replicate, List.length_singleton]; omega
theorem Wr.wr {w : spW} {oh : Option Nat} {l : spL} : Wr w (wrLine w oh l).2 := by
  cases oh with
  | none => exact Wr.rf
  | some o =>
    unfold wrLine
    simp only []
    split
    · split
      · exact Wr.rf
      · exact ⟨rfl, rfl, rfl, rfl, Nat.le_refl _, fun h => h, fun q h _ => ⟨q, h, rfl, rfl⟩, fun a q h => ⟨q.2.2, h⟩⟩
    · split
      · split
        · exact Wr.rf
        · rename_i c
          exact (Wr.sF (fun h => putAt_len (h _) (by omega))).tr (Wr.pos (w := setF w _ _))
      · split
        · split
          · exact Wr.rf
          · rename_i c
            exact Wr.sF fun h => by rw [List.length_append, List.length_singleton]; omega
        · split
          · exact Wr.sU
          · exact Wr.rf
theorem Wr.mk {w w1 : spW} {n : Int64} {i : Nat} (h : mkF w n = some (i, w1)) : Wr w w1 ∧ totU w1 = totU w := by
  unfold mkF at h
  split at h
  · cases h; exact ⟨Wr.rf, rfl⟩
  · split at h
    · cases h
    · cases h
      refine ⟨⟨rfl, rfl, rfl, rfl, Nat.le_refl _, fun h i => ?_, fun q h _ => ⟨q, h, rfl, rfl⟩, fun a q h => ⟨q.2.2, h⟩⟩, rfl⟩
      show ((wF w ++ [(n, [])]).getD i (0, [])).2.length ≤ 40
      by_cases c : i < (wF w).length
      · have := h i
        rw [gd_at (by rw [List.length_append]; omega), List.getElem_append_left c]
        have e : lnsOf w i = (wF w)[i].2 := by show ((wF w).getD i (0, [])).2 = _; rw [gd_at c]
        rw [e] at this
        exact this
      · by_cases c2 : i = (wF w).length
        · subst c2
          rw [gd_at (by rw [List.length_append]; simp), List.getElem_append_right (Nat.le_refl _)]
          simp
        · rw [gd_out (by rw [List.length_append]; simp; omega)]; simp
theorem Wr.red {T : spT} {n : Nat} {r : spR} {w w1 : spW} {f f1 : spF} (h : redOp r w f = some (w1, f1)) : Wr w w1 ∧ totU w1 = totU w ∧ (okF T n f → okF T n f1) ∧ fN f1 = fN f := by
  unfold redOp at h
  split at h
  · split at h
    · cases h
    · cases h; exact ⟨Wr.op (by omega) (by omega), rfl, fun q => q, rfl⟩
  · split at h
    · split at h
      · cases h
      · rename_i i w2 e
        cases h
        obtain ⟨a, b⟩ := Wr.mk e
        exact ⟨(a.tr (Wr.sF fun _ => by simp)).tr (Wr.op (by omega) (by omega)), b, fun q => q, rfl⟩
    · split at h
      · split at h
        · cases h
        · rename_i i w2 e
          cases h
          obtain ⟨a, b⟩ := Wr.mk e
          exact ⟨a.tr (Wr.op (by omega) (by omega)), b, fun q => q, rfl⟩
      · split at h
        · split at h
          · cases h
          · cases h; exact ⟨Wr.rf, rfl, fun q => q, rfl⟩
        · cases h; exact ⟨Wr.rf, rfl, fun q => q, rfl⟩
theorem Wr.reds {T : spT} {n : Nat} : ∀ (l : List spR) (w : spW) (f : spF), Wr w (redOps l w f).2.1 ∧ totU (redOps l w f).2.1 = totU w ∧ (okF T n f → okF T n (redOps l w f).2.2) ∧ fN (redOps l w f).2.2 = fN f
  | [], w, f => ⟨Wr.rf, rfl, fun q => q, rfl⟩
  | r :: l, w, f => by
    unfold redOps
    cases e : redOp r w f with
    | none => exact ⟨Wr.rf, rfl, fun q => q, rfl⟩
    | some wf =>
      obtain ⟨a1, a2, a3, a4⟩ := Wr.red (T := T) (n := n) (f1 := wf.2) (w1 := wf.1) e
      obtain ⟨b1, b2, b3, b4⟩ := Wr.reds l wf.1 wf.2
      exact ⟨a1.tr b1, b2.trans a2, fun q => b3 (a3 q), b4.trans a4⟩
theorem rd_le {w : spW} {oh : Option Nat} {bg : Bool} : totU (rdLine w oh bg).2 ≤ totU w := by
  cases oh with
  | none => exact Nat.le_refl _
  | some o =>
    unfold rdLine
    simp only []
    split
    · split
      · exact Nat.le_refl _
      · split <;> exact Nat.le_refl _
    · split
      · split <;> exact Nat.le_refl _
      · split
        · split
          · exact Nat.le_refl _
          · rename_i l r e
            have hp : ((wO w).getD o (0, 0, 0)).2.1 < (wU w).length := getD_lt (d := []) (by rw [e]; exact List.cons_ne_nil _ _)
            have t := totU_set (x := r) hp
            rw [e, List.length_cons] at t
            simp only []
            omega
        · exact Nat.le_refl _
theorem rd_k {w : spW} {oh : Option Nat} {bg : Bool} : (rdLine w oh bg).1.1 = 0 ∨ (rdLine w oh bg).1.1 = 1 ∨ (rdLine w oh bg).1.1 = 2 ∨ (rdLine w oh bg).1.1 = 3 := by
  cases oh with
  | none => exact Or.inr (Or.inr (Or.inl rfl))
  | some o =>
    unfold rdLine
    simp only []
    split
    · split
      · exact Or.inr (Or.inr (Or.inr rfl))
      · split
        · exact Or.inr (Or.inl rfl)
        · exact Or.inl rfl
    · split
      · split
        · exact Or.inl rfl
        · exact Or.inr (Or.inl rfl)
      · split
        · split
          · exact Or.inr (Or.inl rfl)
          · exact Or.inl rfl
        · exact Or.inr (Or.inr (Or.inl rfl))
theorem Wr.cat {f : spF} : ∀ k (w : spW) r, catN k w f = some r → Wr w r.2 ∧ ((∀ i, (lnsOf w i).length ≤ 40) → totU r.2 ≤ totU w + pot w (fH f 0)) ∧ (r.1 = -2 ∨ stat r.1)
  | 0, w, r, h => by cases h
  | k + 1, w, r, h => by
    unfold catN at h
    simp only [] at h
    split at h
    · rename_i c3
      cases h
      refine ⟨Wr.rd, fun _ => ?_, Or.inl rfl⟩
      have : totU (rdLine w (fH f 0) (fG f)).2 ≤ totU w := rd_le
      exact Nat.le_trans this (Nat.le_add_right _ _)
    · split at h
      · cases h
        exact ⟨Wr.rd, fun _ => Nat.le_trans rd_le (Nat.le_add_right _ _), Or.inr st1⟩
      · split at h
        · cases h
          exact ⟨Wr.rd, fun _ => Nat.le_trans rd_le (Nat.le_add_right _ _), Or.inr st0⟩
        · rename_i c3 c2 c1
          have c0 : (rdLine w (fH f 0) (fG f)).1.1 = 0 := by
            have := rd_k (w := w) (oh := fH f 0) (bg := fG f)
            omega
          obtain ⟨p3, p4⟩ := wr_pot (w := (rdLine w (fH f 0) (fG f)).2) (oh := fH f 0) (oh' := fH f 1) (l := (rdLine w (fH f 0) (fG f)).1.2)
          have wr2 : Wr w (wrLine (rdLine w (fH f 0) (fG f)).2 (fH f 1) (rdLine w (fH f 0) (fG f)).1.2).2 := Wr.rd.tr Wr.wr
          split at h
          · obtain ⟨a1, a2, a3⟩ := Wr.cat k _ r h
            refine ⟨wr2.tr a1, fun hF => ?_, a3⟩
            obtain ⟨p1, p2⟩ := rd_pot (bg := fG f) hF c0
            have := a2 (wr2.2.2.2.2.2.1 hF)
            omega
          · cases h
            refine ⟨wr2, fun hF => ?_, Or.inr st1⟩
            obtain ⟨p1, p2⟩ := rd_pot (bg := fG f) hF c0
            show totU (wrLine (rdLine w (fH f 0) (fG f)).2 (fH f 1) (rdLine w (fH f 0) (fG f)).1.2).2 ≤ _
            omega
