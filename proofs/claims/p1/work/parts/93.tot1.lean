/-! EVERY RUN ENDS: how deep a node lies, ranks of shells, costs -/
section MXTA
variable {T : spT} {n : Nat} {w w1 w2 : spW} {f f1 : spF} {v v1 : Int32}
/-- how deep a node lies; a chain's first pipeline has no sign before it -/
def WD (T : spT) (n : Nat) (dp : Int32 → Nat) : Prop := ∀ i v, v = nI i → i < n → dp v ≤ 5 ∧
  (tK T v = 1 → tA T v ≠ -1 → dp v ≤ dp (tA T v)) ∧
  (tK T v = 2 → dp v ≤ dp (tA T v) ∧ tC T (tA T v) = 0 ∧ (tN T v ≠ -1 → dp v ≤ dp (tN T v))) ∧
  (tK T v = 3 → dp v ≤ dp (tA T v) ∧ (tN T v ≠ -1 → dp v ≤ dp (tN T v))) ∧
  (kCmd (tK T v) → tN T v ≠ -1 → dp v ≤ dp (tN T v)) ∧
  ((tK T v = 4 ∨ tK T v = 5) → dp v + 1 ≤ dp (tA T v)) ∧
  (tK T v = 6 → dp v + 1 ≤ dp (tA T v) ∧ dp v + 1 ≤ dp (tB T v) ∧ (tC T v ≠ -1 → dp v + 1 ≤ dp (tC T v))) ∧
  (tK T v = 7 → dp v + 1 ≤ dp (tA T v) ∧ dp v + 1 ≤ dp (tB T v))
/-- what a shell of this rank costs -/
def rkC (q : Nat) : Nat := if q % 3 = 1 then 3 + 3 * (4 - q / 18) else 1
def rkS : Nat → Nat
  | 0 => 0
  | k + 1 => rkC (89 - k) + rkS k
def rkE (q : Nat) : Nat := rkS (89 - q)
theorem rkC_pos {q : Nat} : 1 ≤ rkC q := by
  unfold rkC
  split <;> omega
theorem rkC_job {m a : Nat} (ha : a ≤ 5) : rkC (18 * m + 3 * a + 1) = 3 + 3 * (4 - m) := by
  unfold rkC
  rw [if_pos (by omega)]
  have : (18 * m + 3 * a + 1) / 18 = m := by omega
  rw [this]
theorem rkS_mono : ∀ j k, rkS k ≤ rkS (k + j)
  | 0, k => Nat.le_refl _
  | j + 1, k => Nat.le_trans (rkS_mono j k) (by show rkS (k + j) ≤ rkC (89 - (k + j)) + rkS (k + j); omega)
theorem rkE_drop {a b : Nat} (h : a < b) (hb : b ≤ 89) : rkC b + rkE b ≤ rkE a := by
  unfold rkE
  have e : 89 - a = (89 - b + 1) + (b - a - 1) := by omega
  have m := rkS_mono (b - a - 1) (89 - b + 1)
  rw [← e] at m
  refine Nat.le_trans ?_ m
  show rkC b + rkS (89 - b) ≤ rkC (89 - (89 - b)) + rkS (89 - b)
  rw [show 89 - (89 - b) = b by omega]
  exact Nat.le_refl _
theorem rkE_0 : rkE 0 ≤ 330 := by decide
abbrev pU (x : spX) : Nat := 5 * (300 - wB (xw x)) + 3 * (4 - fN (xf x))
def cst (c : spC) : Nat := match c with
  | (0, _, _, _, _) => 23
  | (1, _, _, _, _) => 23
  | (2, _, _, _, _) => 22
  | (3, _, _, _, _) => 22
  | (4, _, _, _, _) => 21
  | (5, _, _, _, _) => 20
  | (6, _, _, _, _) => 20
  | (7, _, _, _, _) => 24
  | (8, _, _, _, _) => 24
  | (9, _, _, _, _) => 21
  | (10, _, _, _, _) => 22
  | (11, _, _, _, _) => 21
  | _ => 20
def Dn (c : spC) (x : spX) (q : Nat) : Nat := cst c + pU x + rkE q
def lopV (t : Nat) (v : Int32) : Nat := if v = -1 then t else t + 20 * (3001 - v.toNatClampNeg)
def lop (c : spC) : Nat := match c with
  | (9, _, _, _, _) => 0
  | (12, _, _, _, _) => 1
  | (11, _, _, _, some j) => 2 + (9 - j)
  | (10, _, _, _, _) => 12
  | (0, v, _, _, _) => lopV 20 v
  | (1, v, _, _, _) => lopV 19 v
  | (2, v, _, _, _) => lopV 18 v
  | (3, v, _, _, _) => lopV 17 v
  | (4, v, _, _, _) => lopV 16 v
  | (5, v, _, _, _) => lopV 15 v
  | (6, v, _, _, _) => lopV 14 v
  | (7, v, _, _, _) => lopV 14 v
  | (8, v, _, _, _) => lopV 14 v
  | _ => 0
def Fu (c : spC) (x : spX) (q : Nat) : Nat := 100000 * (pU x + rkE q) + lop c
theorem lopV_le {t : Nat} : t ≤ lopV t v ∧ lopV t v ≤ t + 60020 := by
  unfold lopV
  split <;> omega
theorem lop_le {c : spC} : lop c < 60050 := by
  unfold lop
  split
  all_goals first | omega | exact Nat.lt_of_le_of_lt lopV_le.2 (by decide)
/-- the next node lies nearer to the end -/
theorem lop_nx {p : Int32 → Prop} {t t' i : Nat} (e : v = nI i) (hi : i < n) (hn : n ≤ 3000) (h : nNx T n i p v1) (ht : t' ≤ 20) (h1 : 1 ≤ t) : lopV t' v1 < lopV t v := by
  subst e
  have n0 : ¬ nI i = -1 := fun e => (nI_neg1 (by omega)).mp e
  unfold lopV
  rw [if_neg n0, nI_clamp (by omega)]
  rcases h with e | ⟨j, rfl, hj, hjn, -⟩
  · rw [if_pos e]; omega
  · have n1 : ¬ nI j = -1 := fun e => (nI_neg1 (by omega)).mp e
    rw [if_neg n1, nI_clamp (by omega)]; omega
theorem lop_sm {t t' i : Nat} (e : v = nI i) (hi : i < 3000) (ht : t' < t) : lopV t' v < lopV t v := by
  subst e
  have n0 : ¬ nI i = -1 := fun e => (nI_neg1 (by omega)).mp e
  unfold lopV
  rw [if_neg n0, if_neg n0]; omega
/-! handles that lie in the list; no shell holds both ends of a pipe -/
abbrev rO (w : spW) (a : Nat) : spO := (wO w).getD a (0, 0, 0)
def hvN (w : spW) (f : spF) : Prop := (∀ i a, fH f i = some a → a < (wO w).length) ∧ ∀ i j a b, fH f i = some a → fH f j = some b → (rO w a).1 = 5 → (rO w b).1 = 6 → (rO w a).2.1 ≠ (rO w b).2.1
/-- handles that know pipes below u alone -/
def hvU (w : spW) (u : Nat) (f : spF) : Prop := ∀ i a, fH f i = some a → ((rO w a).1 = 5 ∨ (rO w a).1 = 6) → (rO w a).2.1 < u
theorem Le.rOO {a : Nat} (l : Le w w1) (h : a < (wO w).length) : a < (wO w1).length ∧ (rO w1 a).1 = (rO w a).1 ∧ (rO w1 a).2.1 = (rO w a).2.1 := by
  obtain ⟨ps, e⟩ := l.1 a _ (List.getElem?_eq_getElem h)
  have lt := (List.getElem?_eq_some_iff.mp e).1
  have e2 := (List.getElem?_eq_some_iff.mp e).2
  have g1 : rO w1 a = ((wO w)[a].1, (wO w)[a].2.1, ps) := by
    show (wO w1).getD a (0, 0, 0) = _
    rw [gd_at lt, e2]
  have g2 : rO w a = (wO w)[a] := gd_at h
  rw [g1, g2]
  exact ⟨lt, rfl, rfl⟩
theorem hvN.le (h : hvN w f) (l : Le w w1) : hvN w1 f := by
  refine ⟨fun i a ha => (l.rOO (h.1 i a ha)).1, fun i j a b ha hb ka kb => ?_⟩
  obtain ⟨-, a1, a2⟩ := l.rOO (h.1 i a ha)
  obtain ⟨-, b1, b2⟩ := l.rOO (h.1 j b hb)
  rw [a2, b2]
  exact h.2 i j a b ha hb (a1 ▸ ka) (b1 ▸ kb)
theorem hvU.le {u : Nat} (h : hvU w u f) (hv : hvN w f) (l : Le w w1) : hvU w1 u f := by
  intro i a ha hk
  obtain ⟨-, a1, a2⟩ := l.rOO (hv.1 i a ha)
  rw [a2]
  exact h i a ha (by rw [← a1]; exact hk)
theorem hvN.fh (h : hvN w f) (e : fH f1 = fH f) : hvN w f1 := by
  unfold hvN
  rw [e]; exact h
/-- a handle is set: closed, another one's, or no end of a pipe -/
theorem hvN.op {k : Nat} {o : Option Nat} (h : hvN w f) (ho : ∀ a, o = some a → a < (wO w).length ∧ (((rO w a).1 ≠ 5 ∧ (rO w a).1 ≠ 6) ∨ ∃ i, fH f i = some a)) : hvN w (vH f (fup (fH f) k o)) := by
  have key : ∀ i a, fup (fH f) k o i = some a → a < (wO w).length ∧ (((rO w a).1 ≠ 5 ∧ (rO w a).1 ≠ 6) ∨ ∃ i, fH f i = some a) := by
    intro i a ha
    by_cases c : i = k
    · subst c; rw [fup_e] at ha; exact ho a ha
    · rw [fup_n c] at ha; exact ⟨h.1 i a ha, Or.inr ⟨i, ha⟩⟩
  refine ⟨fun i a ha => (key i a ha).1, fun i j a b ha hb ka kb => ?_⟩
  rcases (key i a ha).2 with ⟨q, -⟩ | ⟨i', hi'⟩
  · exact absurd ka q
  · rcases (key j b hb).2 with ⟨-, q⟩ | ⟨j', hj'⟩
    · exact absurd kb q
    · exact h.2 i' j' a b hi' hj' ka kb
theorem opn_at {k o : Nat} : rO (opn w k o).2 (wO w).length = (k, o, 0) := by
  show (wO w ++ [(k, o, 0)]).getD (wO w).length (0, 0, 0) = _
  rw [gd_at (by rw [List.length_append]; simp), List.getElem_append_right (Nat.le_refl _)]
  simp
theorem opn_len {k o : Nat} : (wO (opn w k o).2).length = (wO w).length + 1 := by
  show (wO w ++ [(k, o, 0)]).length = _
  rw [List.length_append]; rfl
theorem hvN.opn {k o j : Nat} (h : hvN w f) (h5 : k ≠ 5) (h6 : k ≠ 6) : hvN (opn w k o).2 (vH f (fup (fH f) j (some (wO w).length))) := by
  refine (h.le (Wr.op h5 h6).le).op fun a ha => ?_
  cases ha
  exact ⟨by rw [opn_len]; omega, Or.inl (by rw [opn_at]; exact ⟨h5, h6⟩)⟩
theorem hvN.red {r : spR} (h : hvN w f) (e : redOp r w f = some (w1, f1)) : hvN w1 f1 := by
  unfold redOp at e
  split at e
  · split at e
    · cases e
    · cases e; exact h.opn (by omega) (by omega)
  · split at e
    · split at e
      · cases e
      · rename_i i w2 em
        cases e
        have h2 : hvN (setF w2 i []) f := (h.le (Wr.mk em).1.le).le (Wr.sF fun _ => by simp).le
        exact h2.opn (by omega) (by omega)
    · split at e
      · split at e
        · cases e
        · rename_i i w2 em
          cases e
          exact (h.le (Wr.mk em).1.le).opn (by omega) (by omega)
      · split at e
        · split at e
          · cases e
          · rename_i o eo
            cases e
            exact h.op fun a ha => by cases ha; exact ⟨h.1 _ _ eo, Or.inr ⟨_, eo⟩⟩
        · cases e
          exact h.op fun a ha => by cases ha
theorem hvN.reds : ∀ (l : List spR) {w : spW} {f : spF}, hvN w f → hvN (redOps l w f).2.1 (redOps l w f).2.2
  | [], w, f, h => h
  | r :: l, w, f, h => by
    unfold redOps
    cases e : redOp r w f with
    | none => exact h
    | some wf => exact hvN.reds l (h.red (w1 := wf.1) (f1 := wf.2) e)
/-- the pipe ahead of a command -/
def Ahe (w : spW) (u : Nat) (p : Option Nat) : Prop := ∀ o, p = some o → o < (wO w).length ∧ (rO w o).1 = 5 ∧ u ≤ (rO w o).2.1
theorem Ahe.le {u : Nat} {p : Option Nat} (h : Ahe w u p) (l : Le w w1) : Ahe w1 u p := fun o e => by
  obtain ⟨a, b, c⟩ := h o e
  obtain ⟨a1, a2, a3⟩ := l.rOO a
  exact ⟨a1, a2.trans b, by rw [a3]; exact c⟩
def pip1 (f : spF) (p : Option Nat) : spF := match p with
  | none => f
  | some o => vH f (fup (fH f) 0 (some o))
theorem pipd_eq {p : Option Nat} {lst : Bool} : pipd w f p lst = if lst then (w, pip1 f p, none) else
    ((opn (setH (uU w (wU w ++ [[]])) (pip1 f p) 1 6 (wU w).length).1 5 (wU w).length).2, (setH (uU w (wU w ++ [[]])) (pip1 f p) 1 6 (wU w).length).2, some (opn (setH (uU w (wU w ++ [[]])) (pip1 f p) 1 6 (wU w).length).1 5 (wU w).length).1) := by
  cases p <;> rfl
/-- the handles of a pipeline's command -/
theorem hvN.pip {u : Nat} {p : Option Nat} {lst : Bool} (h : hvN w f) (hu : hvU w u f) (ha : Ahe w u p) (hw : ∀ q ∈ wO w, (q.1 = 5 ∨ q.1 = 6) → q.2.1 < (wU w).length) (hl : u ≤ (wU w).length) :
    hvN (pipd w f p lst).1 (pipd w f p lst).2.1 ∧ Ahe (pipd w f p lst).1 u (pipd w f p lst).2.2 := by
  have hw2 : ∀ a, a < (wO w).length → ((rO w a).1 = 5 ∨ (rO w a).1 = 6) → (rO w a).2.1 < (wU w).length := fun a lt hk => by
    have e : rO w a = (wO w)[a] := gd_at lt
    rw [e] at hk ⊢
    exact hw _ (List.getElem_mem _) hk
  -- the handle 0
  have h1 : ∃ f1, f1 = pip1 f p ∧ hvN w f1 ∧ ∀ i a, fH f1 i = some a → ((rO w a).1 = 6 → (rO w a).2.1 < u) := by
    cases p with
    | none => exact ⟨f, rfl, h, fun i a e k => hu i a e (Or.inr k)⟩
    | some o =>
      obtain ⟨o1, o2, o3⟩ := ha o rfl
      have key : ∀ i a, fup (fH f) 0 (some o) i = some a → a = o ∨ fH f i = some a := fun i a e => by
        by_cases c : i = 0
        · subst c; rw [fup_e] at e; cases e; exact Or.inl rfl
        · rw [fup_n c] at e; exact Or.inr e
      refine ⟨_, rfl, ⟨fun i a e => ?_, fun i j a b ea eb ka kb => ?_⟩, fun i a e k => ?_⟩
      · rcases key i a e with rfl | e
        · exact o1
        · exact h.1 i a e
      · rcases key j b eb with e2 | eb2
        · rw [e2, o2] at kb; cases kb
        · rcases key i a ea with e3 | ea2
          · have := hu j b eb2 (Or.inr kb)
            rw [e3]
            omega
          · exact h.2 i j a b ea2 eb2 ka kb
      · rcases key i a e with e2 | e2
        · rw [e2, o2] at k; cases k
        · exact hu i a e2 (Or.inr k)
  obtain ⟨f1, e1, n1, u1⟩ := h1
  rw [pipd_eq, ← e1]
  cases lst with
  | true => exact ⟨n1, fun o e => by cases e⟩
  | false =>
    have l1 : Le w (pipd w f p false).1 := Le.pip
    have lw : (wO (pipd w f p false).1).length = (wO w).length + 2 := by
      show ((wO w ++ [(6, (wU w).length, 0)]) ++ [(5, (wU w).length, 0)]).length = _
      rw [List.length_append, List.length_append]; rfl
    have r6 : rO (pipd w f p false).1 (wO w).length = (6, (wU w).length, 0) := by
      show ((wO w ++ [(6, (wU w).length, 0)]) ++ [(5, (wU w).length, 0)]).getD (wO w).length (0, 0, 0) = _
      rw [gd_at (by rw [List.length_append, List.length_append]; simp only [List.length_cons, List.length_nil]; omega), List.getElem_append_left (by rw [List.length_append]; simp), List.getElem_append_right (Nat.le_refl _)]
      simp
    have r5 : rO (pipd w f p false).1 ((wO w).length + 1) = (5, (wU w).length, 0) := by
      show ((wO w ++ [(6, (wU w).length, 0)]) ++ [(5, (wU w).length, 0)]).getD ((wO w).length + 1) (0, 0, 0) = _
      rw [gd_at (by rw [List.length_append, List.length_append]; simp), List.getElem_append_right (by rw [List.length_append]; simp)]
      simp
    have old : ∀ a, a < (wO w).length → a < (wO (pipd w f p false).1).length ∧ (rO (pipd w f p false).1 a).1 = (rO w a).1 ∧ (rO (pipd w f p false).1 a).2.1 = (rO w a).2.1 := fun a lt => l1.rOO lt
    have key : ∀ i a, fup (fH f1) 1 (some (wO w).length) i = some a → a = (wO w).length ∨ fH f1 i = some a := fun i a e => by
      by_cases c : i = 1
      · subst c; rw [fup_e] at e; cases e; exact Or.inl rfl
      · rw [fup_n c] at e; exact Or.inr e
    show hvN (pipd w f p false).1 (vH f1 (fup (fH f1) 1 (some (wO w).length))) ∧ Ahe (pipd w f p false).1 u (some (wO (uO w (wO w ++ [(6, (wU w).length, 0)]))).length)
    refine ⟨⟨fun i a e => ?_, fun i j a b ea eb ka kb => ?_⟩, fun o e => ?_⟩
    · rcases key i a e with rfl | e
      · rw [lw]; omega
      · exact (old a (n1.1 i a e)).1
    · rcases key i a ea with rfl | ea
      · rw [r6] at ka; cases ka
      · obtain ⟨-, a1, a2⟩ := old a (n1.1 i a ea)
        have ka' : (rO w a).1 = 5 := a1 ▸ ka
        rcases key j b eb with rfl | eb
        · rw [r6, a2]
          have := hw2 a (n1.1 i a ea) (Or.inl ka')
          show (rO w a).2.1 ≠ (wU w).length
          omega
        · obtain ⟨-, b1, b2⟩ := old b (n1.1 j b eb)
          rw [a2, b2]
          exact n1.2 i j a b ea eb ka' (b1 ▸ kb)
    · cases e
      have el : (wO (uO w (wO w ++ [(6, (wU w).length, 0)]))).length = (wO w).length + 1 := by
        show (wO w ++ [(6, (wU w).length, 0)]).length = _
        rw [List.length_append]; rfl
      rw [el, r5, lw]
      exact ⟨by omega, rfl, hl⟩
/-! cat ends -/
def rpl (w : spW) (oh : Option Nat) : Nat := match oh with
  | none => 0
  | some o => if (rO w o).1 = 1 then (wI w).length else if (rO w o).1 = 2 then 40 - (rO w o).2.2 else if (rO w o).1 = 5 then ((wU w).getD (rO w o).2.1 []).length else 0
theorem rpl_le {oh : Option Nat} (hi : (wI w).length ≤ 40) (ht : totU w ≤ 12000) : rpl w oh ≤ 12000 := by
  cases oh with
  | none => exact Nat.zero_le _
  | some o =>
    unfold rpl
    simp only []
    split
    · omega
    · split
      · omega
      · split
        · by_cases c : (rO w o).2.1 < (wU w).length
          · have t := totU_set (w := w) (x := []) c
            have : (([] : List spL)).length = 0 := rfl
            omega
          · rw [gd_out (by omega)]; exact Nat.zero_le _
        · exact Nat.zero_le _
theorem rd_rpl {oh : Option Nat} {bg : Bool} (hF : ∀ i, (lnsOf w i).length ≤ 40) (h : (rdLine w oh bg).1.1 = 0) : rpl (rdLine w oh bg).2 oh + 1 ≤ rpl w oh := by
  cases oh with
  | none => cases h
  | some o =>
    unfold rdLine at h ⊢
    simp only [] at h ⊢
    by_cases c1 : (rO w o).1 = 1
    · rw [if_pos c1] at h ⊢
      cases bg with
      | true => cases h
      | false =>
        rw [if_neg (by decide)] at h ⊢
        cases ei : wI w with
        | nil => rw [ei] at h; cases h
        | cons l r =>
          show rpl (uI w r) (some o) + 1 ≤ rpl w (some o)
          unfold rpl
          simp only []
          rw [if_pos (show (rO (uI w r) o).1 = 1 from c1), if_pos c1, ei]
          exact Nat.le_refl _
    · rw [if_neg c1] at h ⊢
      by_cases c2 : (rO w o).1 = 2
      · rw [if_pos c2] at h ⊢
        cases el : (((wF w).getD (rO w o).2.1 (0, [])).2)[(rO w o).2.2]? with
        | none => rw [el] at h; cases h
        | some l =>
          have lt := (List.getElem?_eq_some_iff.mp el).1
          have l40 := hF (rO w o).2.1
          have lt2 : (rO w o).2.2 < 40 := Nat.lt_of_lt_of_le lt l40
          show rpl (uO w ((wO w).set o ((rO w o).1, (rO w o).2.1, (rO w o).2.2 + 1))) (some o) + 1 ≤ rpl w (some o)
          have lo : o < (wO w).length := getD_lt (d := ((0, 0, 0) : spO)) (fun e => by rw [show rO w o = (0, 0, 0) from e] at c2; cases c2)
          have er : rO (uO w ((wO w).set o ((rO w o).1, (rO w o).2.1, (rO w o).2.2 + 1))) o = ((rO w o).1, (rO w o).2.1, (rO w o).2.2 + 1) := getD_set_self lo
          unfold rpl
          simp only []
          rw [er, if_neg c1, if_pos c2, if_neg c1, if_pos c2]
          show 40 - ((rO w o).2.2 + 1) + 1 ≤ 40 - (rO w o).2.2
          omega
      · rw [if_neg c2] at h ⊢
        by_cases c5 : (rO w o).1 = 5
        · rw [if_pos c5] at h ⊢
          cases eu : (wU w).getD (rO w o).2.1 [] with
          | nil => rw [eu] at h; cases h
          | cons l r =>
            have lp : (rO w o).2.1 < (wU w).length := getD_lt (d := []) (by rw [eu]; exact List.cons_ne_nil _ _)
            show rpl (uU w ((wU w).set (rO w o).2.1 r)) (some o) + 1 ≤ rpl w (some o)
            unfold rpl
            simp only []
            rw [if_neg (show ¬ (rO (uU w ((wU w).set (rO w o).2.1 r)) o).1 = 1 from c1), if_neg (show ¬ (rO (uU w ((wU w).set (rO w o).2.1 r)) o).1 = 2 from c2), if_pos (show (rO (uU w ((wU w).set (rO w o).2.1 r)) o).1 = 5 from c5), if_neg c1, if_neg c2, if_pos c5, eu]
            show (((wU w).set (rO w o).2.1 r).getD (rO w o).2.1 []).length + 1 ≤ r.length + 1
            rw [getD_set_self lp]
            exact Nat.le_refl _
        · rw [if_neg c5] at h; cases h
theorem wr_rpl {oh oh' : Option Nat} {l : spL} (hn : ∀ a b, oh = some a → oh' = some b → (rO w a).1 = 5 → (rO w b).1 = 6 → (rO w a).2.1 ≠ (rO w b).2.1) : rpl (wrLine w oh' l).2 oh ≤ rpl w oh := by
  cases oh with
  | none => exact Nat.zero_le _
  | some a =>
    cases oh' with
    | none => exact Nat.le_refl _
    | some b =>
      have hn := hn a b rfl rfl
      unfold wrLine
      simp only []
      by_cases c1 : (rO w b).1 = 1
      · rw [if_pos c1]
        split
        · exact Nat.le_refl _
        · exact Nat.le_refl _
      · rw [if_neg c1]
        by_cases c3 : (rO w b).1 = 3
        · rw [if_pos c3]
          split
          · exact Nat.le_refl _
          · have lb : b < (wO w).length := getD_lt (d := ((0, 0, 0) : spO)) (fun e => by rw [show rO w b = (0, 0, 0) from e] at c3; cases c3)
            have er : rO (uO (setF w (rO w b).2.1 (putAt (lnsOf w (rO w b).2.1) (rO w b).2.2 l)) ((wO w).set b ((rO w b).1, (rO w b).2.1, (rO w b).2.2 + 1))) a = (if a = b then ((rO w b).1, (rO w b).2.1, (rO w b).2.2 + 1) else rO w a) := by
              show ((wO w).set b _).getD a (0, 0, 0) = _
              by_cases c : a = b
              · subst c; rw [if_pos rfl, getD_set_self lb]
              · rw [if_neg c, getD_set_ne (fun e => c e.symm)]
            show rpl (uO (setF w (rO w b).2.1 (putAt (lnsOf w (rO w b).2.1) (rO w b).2.2 l)) ((wO w).set b ((rO w b).1, (rO w b).2.1, (rO w b).2.2 + 1))) (some a) ≤ _
            unfold rpl
            simp only []
            rw [er]
            by_cases c : a = b
            · subst c
              rw [if_pos rfl, if_neg (by rw [c3]; decide), if_neg (by rw [c3]; decide), if_neg (by rw [c3]; decide)]
              exact Nat.zero_le _
            · rw [if_neg c]
              exact Nat.le_refl _
        · rw [if_neg c3]
          by_cases c4 : (rO w b).1 = 4
          · rw [if_pos c4]
            split
            · exact Nat.le_refl _
            · exact Nat.le_refl _
          · rw [if_neg c4]
            by_cases c6 : (rO w b).1 = 6
            · rw [if_pos c6]
              show rpl (uU w ((wU w).set (rO w b).2.1 ((wU w).getD (rO w b).2.1 [] ++ [l]))) (some a) ≤ rpl w (some a)
              unfold rpl
              simp only []
              by_cases k5 : (rO w a).1 = 5
              · have ne := hn k5 c6
                rw [if_neg (show ¬ (rO (uU w ((wU w).set (rO w b).2.1 ((wU w).getD (rO w b).2.1 [] ++ [l]))) a).1 = 1 from fun e => by rw [show (rO w a).1 = 1 from e] at k5; cases k5), if_neg (show ¬ (rO (uU w ((wU w).set (rO w b).2.1 ((wU w).getD (rO w b).2.1 [] ++ [l]))) a).1 = 2 from fun e => by rw [show (rO w a).1 = 2 from e] at k5; cases k5), if_pos (show (rO (uU w ((wU w).set (rO w b).2.1 ((wU w).getD (rO w b).2.1 [] ++ [l]))) a).1 = 5 from k5), if_neg (fun e => by rw [k5] at e; cases e), if_neg (fun e => by rw [k5] at e; cases e), if_pos k5]
                show (((wU w).set (rO w b).2.1 _).getD (rO w a).2.1 []).length ≤ _
                rw [getD_set_ne (fun e => ne e.symm)]
                exact Nat.le_refl _
              · show (if (rO w a).1 = 1 then (wI w).length else if (rO w a).1 = 2 then 40 - (rO w a).2.2 else if (rO w a).1 = 5 then _ else 0) ≤ _
                rw [if_neg (c := (rO w a).1 = 5) k5, if_neg k5]
                exact Nat.le_refl _
            · rw [if_neg c6]
              exact Nat.le_refl _
theorem cat_tot {f : spF} : ∀ k (w : spW), hvN w f → (∀ i, (lnsOf w i).length ≤ 40) → rpl w (fH f 0) < k → ∃ q, catN k w f = some q
  | 0, w, _, _, h => absurd h (Nat.not_lt_zero _)
  | k + 1, w, hv, hF, h => by
    unfold catN
    simp only []
    split
    · exact ⟨_, rfl⟩
    · split
      · exact ⟨_, rfl⟩
      · split
        · exact ⟨_, rfl⟩
        · rename_i c3 c2 c1
          have c0 : (rdLine w (fH f 0) (fG f)).1.1 = 0 := by
            have := rd_k (w := w) (oh := fH f 0) (bg := fG f)
            omega
          split
          · have a1 := rd_rpl (bg := fG f) hF c0
            have hv1 : hvN (rdLine w (fH f 0) (fG f)).2 f := hv.le Wr.rd.le
            have a2 := wr_rpl (w := (rdLine w (fH f 0) (fG f)).2) (oh := fH f 0) (oh' := fH f 1) (l := (rdLine w (fH f 0) (fG f)).1.2) (fun a b ea eb => hv1.2 0 1 a b ea eb)
            have wr2 : Wr w (wrLine (rdLine w (fH f 0) (fG f)).2 (fH f 1) (rdLine w (fH f 0) (fG f)).1.2).2 := Wr.rd.tr Wr.wr
            exact cat_tot k _ (hv.le wr2.le) (wr2.2.2.2.2.2.1 hF) (by omega)
          · exact ⟨_, rfl⟩
end MXTA
