/-! THE MIDDLE KEEPS WHAT IT SHOULD -/
section MXMI
variable {T : spT} {n : Nat}
/-- a command's work -/
def Owk (T : spT) (n : Nat) (w : spW) (f : spF) (r : Int32 × spW × spF) : Prop := (∃ m, m ≤ wM w + 1 ∧ Wr (uM w m) r.2.1) ∧ ((∀ i, (lnsOf w i).length ≤ 40) → (wI w).length ≤ 40 → totU r.2.1 ≤ totU w + 40) ∧ (r.1 = -2 ∨ stat r.1) ∧ (okF T n f → okF T n r.2.2) ∧ fN r.2.2 = fN f
theorem asgn_ok {f f1 : spF} {k : Int64} {l : spL} (h : asgn f k l = some f1) : (okF T n f → okF T n f1) ∧ fN f1 = fN f := by
  unfold asgn at h
  split at h
  · cases h; exact ⟨fun q => q, rfl⟩
  · split at h
    · cases h
    · cases h; exact ⟨fun q => q, rfl⟩
theorem Owk.echo {as : List spL} {w : spW} {f : spF} : Owk T n w f (opEcho as w f) := by
  have t := (wr_pot (w := uM w (wM w + 1)) (oh := none) (oh' := fH f 1) (l := (joinA as).take 80)).1
  refine ⟨⟨wM w + 1, Nat.le_refl _, Wr.wr⟩, fun _ _ => Nat.le_trans t (by show totU w + 1 ≤ _; omega), Or.inr ?_, fun q => q, rfl⟩
  show stat (if (wrLine (uM w (wM w + 1)) (fH f 1) ((joinA as).take 80)).1 = true then 0 else 1)
  split
  · exact st0
  · exact st1
theorem Owk.same {w : spW} {f : spF} {v : Int32} (h : stat v) : Owk T n w f (v, w, f) := ⟨⟨wM w, by omega, Wr.rf⟩, fun _ _ => Nat.le_add_right _ _, Or.inr h, fun q => q, rfl⟩
theorem Owk.read {as : List spL} {w : spW} {f : spF} : Owk T n w f (opRead as w f) := by
  unfold opRead
  split
  · exact Owk.same st2
  · have wr : Wr (uM w (wM w)) (rdLine w (fH f 0) (fG f)).2 := Wr.rd
    have tt : totU (rdLine w (fH f 0) (fG f)).2 ≤ totU w + 40 := Nat.le_trans rd_le (Nat.le_add_right _ _)
    simp only []
    split
    · exact ⟨⟨wM w, by omega, wr⟩, fun _ _ => tt, Or.inl rfl, fun q => q, rfl⟩
    · split
      · exact ⟨⟨wM w, by omega, wr⟩, fun _ _ => tt, Or.inr st1, fun q => q, rfl⟩
      · split
        · exact ⟨⟨wM w, by omega, wr⟩, fun _ _ => tt, Or.inr st1, fun q => q, rfl⟩
        · rename_i f1 e
          obtain ⟨a, b⟩ := asgn_ok (T := T) (n := n) e
          refine ⟨⟨wM w, by omega, wr⟩, fun _ _ => tt, Or.inr ?_, a, b⟩
          show stat (if _ then _ else _)
          split
          · exact st0
          · exact st1
theorem Owk.trap {as : List spL} {w : spW} {f : spF} : Owk T n w f (opTrap as w f) := by
  unfold opTrap
  split
  · exact Owk.same st2
  · split
    · exact Owk.same st2
    · exact ⟨⟨wM w, by omega, Wr.rf⟩, fun _ _ => Nat.le_add_right _ _, Or.inr st0, fun q => q, rfl⟩
theorem Owk.set {as : List spL} {w : spW} {f : spF} : Owk T n w f (opSet as w f) := by
  unfold opSet
  split
  · exact Owk.same st2
  · exact ⟨⟨wM w, by omega, Wr.rf⟩, fun _ _ => Nat.le_add_right _ _, Or.inr st0, fun q => q, rfl⟩
theorem Owk.asgn {k : Int64} {a : spL} {w : spW} {f : spF} : Owk T n w f (opAsgn k a w f) := by
  unfold opAsgn
  split
  · exact ⟨⟨wM w + 1, Nat.le_refl _, Wr.rf⟩, fun _ _ => Nat.le_add_right _ _, Or.inr st1, fun q => q, rfl⟩
  · rename_i f1 e
    obtain ⟨a, b⟩ := asgn_ok (T := T) (n := n) e
    exact ⟨⟨wM w + 1, Nat.le_refl _, Wr.rf⟩, fun _ _ => Nat.le_add_right _ _, Or.inr st0, a, b⟩
theorem pot40 {w : spW} {oh : Option Nat} (h : (wI w).length ≤ 40) : pot w oh ≤ 40 := by
  cases oh with
  | none => exact Nat.zero_le _
  | some o =>
    unfold pot
    simp only []
    split
    · exact h
    · split
      · omega
      · exact Nat.zero_le _
theorem Owk.cat {w : spW} {f : spF} {k : Nat} {q : Int32 × spW} (h : catN k w f = some q) : Owk T n w f (q.1, q.2, f) := by
  obtain ⟨a, b, c⟩ := Wr.cat k w q h
  refine ⟨⟨wM w, by omega, a⟩, fun hF hI => ?_, c, fun q => q, rfl⟩
  have := b hF
  have p := pot40 (oh := fH f 0) hI
  show totU q.2 ≤ _
  omega
theorem exit_st {as : List spL} {f : spF} {v : Int32} (hf : stat (fS f)) (h : opExit as f = some v) : stat v := by
  unfold opExit at h
  split at h
  · cases h; exact hf
  · rename_i a
    split at h
    · cases h
    · rename_i c
      cases h
      rcases nuL_nI a with q | ⟨j, j1, j2⟩
      · exact absurd q c
      · rw [j2, mod256 j1]; exact ⟨j % 256, by omega, rfl⟩
  · cases h
/-- what a task wants, what it leaves -/
def okT (T : spT) (n : Nat) (c : spC) (x : spX) : Prop := match c with
  | (0, v, _, _, _) => v = -1 ∨ isK T n (· = 1) v
  | (1, v, _, _, _) => v = -1 ∨ isK T n (· = 2) v
  | (2, v, _, _, _) => isK T n (· = 2) v
  | (3, v, _, _, _) => v = -1 ∨ isK T n (· = 3) v
  | (4, v, _, _, _) => isK T n (· = 3) v
  | (5, v, l, r, _) => (v = -1 ∨ isK T n kCmd v) ∧ stat l ∧ stat r
  | (6, v, _, _, _) => isK T n kCmd v
  | (7, v, _, _, _) => isK T n kCmd v
  | (8, v, l, _, _) => isK T n (· = 7) v ∧ stat l
  | (9, v, _, _, _) => isK T n (· = 1) v
  | (12, _, _, _, some j) => j < (xj x).length ∧ (jbAt x j).1 = 0
  | _ => True
def Hz (T : spT) (n : Nat) (c : spC) (x : spX) : Prop := okT T n c x ∧ okS T n x.2 ∧ (wX (xw x) = false → okW (xw x) (if c.1 = 7 then 1 else 0) (if c.1 = 6 then 1 else 0))
def Pz (T : spT) (n : Nat) (c : spC) (x x' : spX) : Prop := okS T n x'.2 ∧ Le (xw x) (xw x') ∧ (c.1 ≠ 10 → fN (xf x') = fN (xf x)) ∧ (wX (xw x') = false → okW (xw x') 0 0)
def IHz (T : spT) (n : Nat) (rec : spC → spX → Option spX) : Prop := ∀ c x x', rec c x = some x' → Hz T n c x → Pz T n c x x'
variable {rec : spC → spX → Option spX} {c c1 c2 : spC} {x x1 x' : spX}
theorem Pz.tr (a : Pz T n c1 x x1) (b : Pz T n c2 x1 x') (h1 : c1.1 ≠ 10) (h2 : c2.1 ≠ 10) : Pz T n c x x' := ⟨b.1, a.2.1.tr b.2.1, fun _ => (b.2.2.1 h2).trans (a.2.2.1 h1), b.2.2.2⟩
theorem Pz.cc (a : Pz T n c1 x x') (h1 : c1.1 ≠ 10) : Pz T n c x x' := ⟨a.1, a.2.1, fun _ => a.2.2.1 h1, a.2.2.2⟩
theorem Hz.w0 (h : Hz T n c x) (h6 : c.1 ≠ 6) : wX (xw x) = false → okW (xw x) 0 0 := fun e => by
  have := h.2.2 e
  rw [if_neg h6] at this
  exact this.lo
theorem pz_st {v : Int32} (h : Hz T n c x) (h6 : c.1 ≠ 6) (hv : stat v) : Pz T n c x (zSt x v) := ⟨⟨⟨hv, h.2.1.1.2⟩, h.2.1.2⟩, Le.rf, fun _ => rfl, h.w0 h6⟩
theorem pz_en {v : Int32} (h : Hz T n c x) (h6 : c.1 ≠ 6) (hv : stat v) : Pz T n c x (zEnd x v) := ⟨⟨⟨hv, h.2.1.1.2⟩, h.2.1.2⟩, Le.rf, fun _ => rfl, h.w0 h6⟩
theorem pz_rf (h : Hz T n c x) (h6 : c.1 ≠ 6) : Pz T n c x x := ⟨h.2.1, Le.rf, fun _ => rfl, h.w0 h6⟩
theorem pz_un {v : Int32} (h : Hz T n c x) (h6 : c.1 ≠ 6) (hv : stat v) : Pz T n c x (zUn x v) := by
  unfold zUn
  split
  · exact pz_rf h h6
  · exact pz_st h h6 hv
/-- a part's end, then the next -/
theorem Pz.hz (a : Pz T n c1 x x1) (ht : okT T n c2 x1) (h7 : c2.1 ≠ 7) (h6 : c2.1 ≠ 6) : Hz T n c2 x1 := ⟨ht, a.1, fun e => by rw [if_neg h7, if_neg h6]; exact a.2.2.2 e⟩
theorem mi_scr (ih : IHz T n rec) (wt : WT T n) {v : Int32} (h : gScr T rec v x = some x') (hz : Hz T n (cScr v) x) : Pz T n (cScr v) x x' := by
  unfold gScr at h
  split at h
  · cases h; exact pz_st hz (by simp) st0
  · rename_i c1
    split at h
    · cases h; exact pz_st hz (by simp) st0
    · rename_i c2
      have hk : v = -1 ∨ isK T n (· = 1) v := hz.1
      rcases hk with e | ⟨i, e1, e2, e3⟩
      · exact absurd e c1
      have := ((wt.2 i v e1 e2).1 e3).is
      exact (ih _ _ _ h ⟨this, hz.2.1, fun e => hz.w0 (by simp) e⟩).cc (by simp)
theorem mi_chs (ih : IHz T n rec) (wt : WT T n) {v : Int32} (h : gChs T rec v x = some x') (hz : Hz T n (cChs v) x) : Pz T n (cChs v) x x' := by
  unfold gChs at h
  split at h
  · cases h; exact pz_rf hz (by simp)
  · rename_i c1
    have hk : v = -1 ∨ isK T n (· = 2) v := hz.1
    rcases hk with e | ⟨i, e1, e2, e3⟩
    · exact absurd (Or.inl e) c1
    obtain ⟨x1, hx1, h2⟩ := Option.bind_eq_some_iff.mp h
    have nx := ((wt.2 i v e1 e2).2.1 e3).2.is
    have p1 : Pz T n (cChs v) x x1 := by
      split at hx1
      · cases hx1
        unfold mkJob
        split
        · exact pz_st hz (by simp) st1
        · refine ⟨⟨⟨st0, hz.2.1.1.2⟩, fun q hq => ?_⟩, Le.rf, fun _ => rfl, hz.w0 (by simp)⟩
          rcases List.mem_append.mp hq with g | g
          · exact hz.2.1.2 q g
          · rw [List.mem_singleton.mp g]
            exact ⟨Nat.zero_le _, st0, ⟨i, e1, e2, e3⟩, hz.2.1.1⟩
      · exact (ih _ _ _ hx1 ⟨⟨i, e1, e2, e3⟩, hz.2.1, fun e => hz.w0 (by simp) e⟩).cc (by simp)
    exact p1.tr (ih _ _ _ h2 (p1.hz (c2 := cChs (tN T v)) nx (by simp) (by simp))) (by simp) (by simp)
theorem mi_ch (ih : IHz T n rec) (wt : WT T n) {v : Int32} (h : gCh T rec v x = some x') (hz : Hz T n (cCh v) x) : Pz T n (cCh v) x x' := by
  obtain ⟨i, e1, e2, e3⟩ : isK T n (· = 2) v := hz.1
  have nx := ((wt.2 i v e1 e2).2.1 e3).1.is
  exact (ih _ _ _ h ⟨Or.inr nx, hz.2.1, fun e => hz.w0 (by simp) e⟩).cc (by simp)
theorem mi_pps (ih : IHz T n rec) (wt : WT T n) {v : Int32} (h : gPps T rec v x = some x') (hz : Hz T n (cPps v) x) : Pz T n (cPps v) x x' := by
  unfold gPps at h
  split at h
  · cases h; exact pz_rf hz (by simp)
  · rename_i c1
    have hk : v = -1 ∨ isK T n (· = 3) v := hz.1
    rcases hk with e | ⟨i, e1, e2, e3⟩
    · exact absurd (Or.inl e) c1
    have nx := ((wt.2 i v e1 e2).2.2.1 e3).2.is
    split at h
    · exact (ih _ _ _ h ⟨nx, hz.2.1, fun e => hz.w0 (by simp) e⟩).cc (by simp)
    · obtain ⟨x1, hx1, h2⟩ := Option.bind_eq_some_iff.mp h
      have p1 : Pz T n (cPp v) x x1 := ih _ _ _ hx1 ⟨⟨i, e1, e2, e3⟩, hz.2.1, fun e => hz.w0 (by simp) e⟩
      exact p1.tr (ih _ _ _ h2 (p1.hz (c2 := cPps (tN T v)) nx (by simp) (by simp))) (by simp) (by simp)
theorem mi_pp (ih : IHz T n rec) (wt : WT T n) {v : Int32} (h : gPp T rec v x = some x') (hz : Hz T n (cPp v) x) : Pz T n (cPp v) x x' := by
  obtain ⟨i, e1, e2, e3⟩ : isK T n (· = 3) v := hz.1
  have nx := ((wt.2 i v e1 e2).2.2.1 e3).1.is
  unfold gPp at h
  obtain ⟨x1, hx1, h2⟩ := Option.bind_eq_some_iff.mp h
  have p1 : Pz T n (cPp v) x x1 := by
    split at hx1
    · exact (ih _ _ _ hx1 ⟨nx, hz.2.1, fun e => (hz.w0 (by simp) e).lo⟩).cc (by simp)
    · exact (ih _ _ _ hx1 ⟨⟨Or.inr nx, st0, st0⟩, hz.2.1, fun e => hz.w0 (by simp) e⟩).cc (by simp)
  cases h2
  have hz1 : Hz T n (cPp v) x1 := p1.hz ⟨i, e1, e2, e3⟩ (by simp) (by simp)
  unfold neg1
  split
  · refine p1.tr (c2 := cPp v) (pz_st hz1 (by simp) ?_) (by simp) (by simp)
    split
    · exact st1
    · exact st0
  · exact p1
theorem okW.pip {w : spW} {f : spF} {a : Option Nat} {l : Bool} (h : okW w 0 0) : okW (pipd w f a l).1 0 1 := by
  unfold pipd
  cases l with
  | true => exact h.lo
  | false =>
    obtain ⟨h1, h2, h3, h4, h5, h6, h7⟩ := h
    refine ⟨h1, h2, ?_, ?_, fun q hq hk => ?_, h6, h7⟩
    · show ((wU w ++ [[]]).map fun l : List spL => l.length).sum + 40 * 0 ≤ 40 * wB w
      rw [List.map_append, List.sum_append]
      simp
      have : (List.map (fun l : List spL => l.length) (wU w)).sum = totU w := rfl
      omega
    · show (wU w ++ [[]]).length ≤ wB w + 1
      rw [List.length_append, List.length_singleton]; omega
    · show q.2.1 < (wU w ++ [[]]).length
      rw [List.length_append, List.length_singleton]
      have hq : q ∈ (wO w ++ [(6, (wU w).length, 0)]) ++ [(5, (wU w).length, 0)] := hq
      rcases List.mem_append.mp hq with g | g
      · rcases List.mem_append.mp g with g | g
        · have := h5 q g hk; omega
        · rw [List.mem_singleton.mp g]; exact Nat.lt_succ_self _
      · rw [List.mem_singleton.mp g]; exact Nat.lt_succ_self _
theorem Le.pip {w : spW} {f : spF} {a : Option Nat} {l : Bool} : Le w (pipd w f a l).1 := by
  unfold pipd
  cases l with
  | true => exact Le.rf
  | false =>
    refine ⟨fun i q h => ⟨q.2.2, ?_⟩, ?_, Nat.le_refl _, fun h => h⟩
    · show ((wO w ++ [(6, (wU w).length, 0)]) ++ [(5, (wU w).length, 0)])[i]? = _
      have lt := (List.getElem?_eq_some_iff.mp h).1
      rw [List.getElem?_append_left (by rw [List.length_append]; omega), List.getElem?_append_left lt]; exact h
    · show _ ≤ (wU w ++ [[]]).length
      rw [List.length_append]; omega
theorem okF.pip {w : spW} {f : spF} {a : Option Nat} {l : Bool} (h : okF T n f) : okF T n (pipd w f a l).2.1 := by
  unfold pipd
  cases a <;> cases l <;> exact h
theorem mi_sev (ih : IHz T n rec) (wt : WT T n) {v l r : Int32} {p : Option Nat} (h : gSev T rec v l r p x = some x') (hz : Hz T n (cSev v l r p) x) : Pz T n (cSev v l r p) x x' := by
  obtain ⟨hk, hl, hr⟩ : (v = -1 ∨ isK T n kCmd v) ∧ stat l ∧ stat r := hz.1
  unfold gSev at h
  split at h
  · cases h
    split
    · exact pz_rf hz (by simp)
    · refine pz_st hz (by simp) ?_
      split
      · exact hr
      · exact hl
  · rename_i c1
    have nX : wX (xw x) = false := by
      cases e : wX (xw x) with
      | false => rfl
      | true => exact absurd (Or.inr e) c1
    rcases hk with e | ⟨i, e1, e2, e3⟩
    · exact absurd (Or.inl e) c1
    have nx := ((wt.2 i v e1 e2).2.2.2.1 e3).1.is
    obtain ⟨y1, hy1, h2⟩ := Option.bind_eq_some_iff.mp h
    obtain ⟨y2, hy2, h3⟩ := Option.bind_eq_some_iff.mp h2
    have w0 := hz.w0 (by simp) nX
    have p1 := ih _ _ _ hy1 ⟨⟨i, e1, e2, e3⟩, ⟨okF.pip hz.2.1.1, fun q hq => absurd hq List.not_mem_nil⟩, fun _ => okW.pip w0⟩
    have p2 : okS T n y2.2 ∧ Le (xw y1) (xw y2) ∧ (wX (xw y2) = false → okW (xw y2) 0 0) := by
      split at hy2
      · rename_i cx; cases hy2; exact ⟨p1.1, Le.rf, fun e => by rw [cx] at e; cases e⟩
      · have := ih _ _ _ hy2 (p1.hz (c2 := cFin) trivial (by simp) (by simp))
        exact ⟨this.1, this.2.1, this.2.2.2⟩
    have sx := p2.1.1.1
    have p3 := ih _ _ _ h3 ⟨⟨nx, sx, by split; exact hr; exact sx⟩, hz.2.1, fun e => p2.2.2 e⟩
    exact ⟨p3.1, ((Le.pip (w := frk (xw x))).tr (p1.2.1.tr p2.2.1)).tr p3.2.1, fun _ => p3.2.2.1 (by simp), p3.2.2.2⟩
theorem mi_cmd (ih : IHz T n rec) (wt : WT T n) {v : Int32} (h : gCmd T rec v x = some x') (hz : Hz T n (cCmd v) x) : Pz T n (cCmd v) x x' := by
  unfold gCmd at h
  split at h
  · cases h
    exact ⟨hz.2.1, ⟨fun a q h => ⟨q.2.2, h⟩, Nat.le_refl _, Nat.le_refl _, fun _ => rfl⟩, fun _ => rfl, fun e => by cases e⟩
  · rename_i cB
    obtain ⟨x1, hx1, h2⟩ := Option.bind_eq_some_iff.mp h
    cases h2
    obtain ⟨a1, a2, a3, a4⟩ := Wr.reds (T := T) (n := n) (redsOf T v) (uB (xw x) (wB (xw x) + 1)) (xf x)
    have wk : wX (xw x) = false → okW (redOps (redsOf T v) (uB (xw x) (wB (xw x) + 1)) (xf x)).2.1 1 0 := fun e => by
      obtain ⟨k1, k2, k3, k4, k5, k6, k7⟩ : okW (xw x) 0 1 := hz.2.2 e
      refine a1.ok (a := 1) (b := 0) ⟨by show wB (xw x) + 1 ≤ 300; omega, by show wM (xw x) + 1 ≤ wB (xw x) + 1; omega, by show totU (xw x) + 40 * 1 ≤ 40 * (wB (xw x) + 1); omega, by show (wU (xw x)).length ≤ wB (xw x) + 1 + 0; omega, k5, k6, k7⟩ ?_
      rw [a2]; show totU (xw x) + 40 * 1 ≤ 40 * (wB (xw x) + 1); omega
    have xX : wX (redOps (redsOf T v) (uB (xw x) (wB (xw x) + 1)) (xf x)).2.1 = wX (xw x) := a1.2.2.1
    have l0 : Le (xw x) (redOps (redsOf T v) (uB (xw x) (wB (xw x) + 1)) (xf x)).2.1 := Le.tr (b := uB (xw x) (wB (xw x) + 1)) ⟨fun a q h => ⟨q.2.2, h⟩, Nat.le_refl _, by show wB (xw x) ≤ wB (xw x) + 1; omega, fun h => h⟩ a1.le
    have p1 : okS T n x1.2 ∧ Le (xw x) (xw x1) ∧ fN (xf x1) = fN (xf x) ∧ (wX (xw x1) = false → okW (xw x1) 0 0) := by
      split at hx1
      · have q := ih _ _ _ hx1 ⟨hz.1, ⟨a3 hz.2.1.1, hz.2.1.2⟩, fun e => wk (xX ▸ e)⟩
        exact ⟨q.1, l0.tr q.2.1, (q.2.2.1 (by simp)).trans a4, q.2.2.2⟩
      · cases hx1
        exact ⟨⟨⟨st1, (a3 hz.2.1.1).2⟩, hz.2.1.2⟩, l0, a4, fun e => (wk (xX ▸ e)).lo⟩
    unfold cmdEnd
    simp only []
    split
    · split
      · exact ⟨p1.1, p1.2.1, fun _ => p1.2.2.1, p1.2.2.2⟩
      · exact ⟨p1.1, p1.2.1, fun _ => p1.2.2.1, p1.2.2.2⟩
    · split
      · exact ⟨p1.1, p1.2.1, fun _ => p1.2.2.1, p1.2.2.2⟩
      · exact ⟨p1.1, p1.2.1, fun _ => p1.2.2.1, p1.2.2.2⟩
theorem Owk.pz {v : Int32} {r : Int32 × spW × spF} (hz : Hz T n (cBdy v) x) (o : Owk T n (xw x) (xf x) r) : Pz T n (cBdy v) x (zRes x r) := by
  obtain ⟨⟨m, m1, o1⟩, o2, o3, o4, o5⟩ := o
  have le : Le (xw x) r.2.1 := Le.tr (b := uM (xw x) m) ⟨fun a q h => ⟨q.2.2, h⟩, Nat.le_refl _, Nat.le_refl _, fun h => h⟩ o1.le
  have ok : wX r.2.1 = false → okW r.2.1 0 0 := fun e => by
    have e' : wX (xw x) = false := by rw [← e]; exact o1.2.2.1.symm
    obtain ⟨k1, k2, k3, k4, k5, k6, k7⟩ : okW (xw x) 1 0 := hz.2.2 e'
    have := o2 k7 k6
    exact o1.ok (a := 0) (b := 0) ⟨k1, by show m + 0 ≤ wB (xw x); omega, by show totU (xw x) + 40 * 0 ≤ 40 * wB (xw x); omega, k4, k5, k6, k7⟩ (by show totU r.2.1 + 40 * 0 ≤ 40 * wB (xw x); omega)
  unfold zRes
  split
  · exact ⟨⟨⟨⟨149, by omega, rfl⟩, (o4 hz.2.1.1).2⟩, hz.2.1.2⟩, le, fun _ => o5, ok⟩
  · rename_i c
    rcases o3 with e | e
    · exact absurd e c
    · exact ⟨⟨⟨e, (o4 hz.2.1.1).2⟩, hz.2.1.2⟩, le, fun _ => o5, ok⟩
end MXMI
