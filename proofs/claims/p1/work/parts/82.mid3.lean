/-! THE MIDDLE KEEPS WHAT IT SHOULD, the rest -/
section MXMJ2
variable {T : spT} {n : Nat} {rec : spC → spX → Option spX} {c c1 c2 : spC} {x x1 x' : spX}
theorem Hz.to {c2 : spC} (h : Hz T n c x) (h6 : c.1 ≠ 6) (ht : okT T n c2 x) (g7 : c2.1 ≠ 7) : Hz T n c2 x := ⟨ht, h.2.1, fun e => by
  rw [if_neg g7]
  split
  · exact (h.w0 h6 e).lo
  · exact h.w0 h6 e⟩
theorem mi_rnd (ih : IHz T n rec) {v : Int32} (hk : isK T n (· = 1) (tA T v)) (h : gRnd T rec v x = some x') (hz : Hz T n (cBdy v) x) : Pz T n (cBdy v) x x' := by
  unfold gRnd at h
  obtain ⟨y1, hy1, h2⟩ := Option.bind_eq_some_iff.mp h
  have p1 := ih _ _ _ hy1 ⟨Or.inr hk, ⟨(hz.2.1.1 : okF T n (subF (xf x))), fun q hq => absurd hq List.not_mem_nil⟩, fun e => (hz.w0 (by simp) e : okW (frk (xw x)) 0 0)⟩
  have l1 : Le (xw x) (xw y1) := Le.tr (b := frk (xw x)) Le.rf p1.2.1
  split at h2
  · rename_i cx
    cases h2
    exact ⟨hz.2.1, l1, fun _ => rfl, fun e => by rw [cx] at e; cases e⟩
  · obtain ⟨y2, hy2, h3⟩ := Option.bind_eq_some_iff.mp h2
    have p2 := ih _ _ _ hy2 (p1.hz (c2 := cFin) trivial (by simp) (by simp))
    split at h3
    · cases h3; exact ⟨hz.2.1, l1.tr p2.2.1, fun _ => rfl, p2.2.2.2⟩
    · cases h3; exact ⟨⟨⟨p2.1.1.1, hz.2.1.1.2⟩, hz.2.1.2⟩, l1.tr p2.2.1, fun _ => rfl, p2.2.2.2⟩
theorem mi_if (ih : IHz T n rec) {v : Int32} (hA : isK T n (· = 2) (tA T v)) (hB : isK T n (· = 1) (tB T v)) (hC : tC T v = -1 ∨ isK T n (· = 1) (tC T v)) (h : gIf T rec v x = some x') (hz : Hz T n (cBdy v) x) : Pz T n (cBdy v) x x' := by
  unfold gIf at h
  obtain ⟨x1, hx1, h2⟩ := Option.bind_eq_some_iff.mp h
  have p1 := ih _ _ _ hx1 (hz.to (c2 := cCh (tA T v)) (by simp) hA (by simp))
  split at h2
  · cases h2; exact p1.cc (by simp)
  · refine p1.tr (ih _ _ _ h2 (p1.hz ?_ (by simp) (by simp))) (by simp) (by simp)
    show (if _ then _ else _) = (-1 : Int32) ∨ _
    split
    · exact Or.inr hB
    · exact hC
theorem mi_whl (ih : IHz T n rec) (wt : WT T n) {v l : Int32} (h : gWhl T rec v l x = some x') (hz : Hz T n (cWhl v l) x) : Pz T n (cWhl v l) x x' := by
  obtain ⟨⟨i, e1, e2, e3⟩, hl⟩ : isK T n (· = 7) v ∧ stat l := hz.1
  obtain ⟨hA, hB⟩ := ((wt.2 i v e1 e2).2.2.2.2.2.2.2.1 e3)
  unfold gWhl at h
  split at h
  · cases h; exact pz_rf hz (by simp)
  · split at h
    · cases h; exact pz_st hz (by simp) hl
    · obtain ⟨x1, hx1, h2⟩ := Option.bind_eq_some_iff.mp h
      have p1 := ih _ _ _ hx1 (hz.to (c2 := cScr (tB T v)) (by simp) (Or.inr hB.is) (by simp))
      split at h2
      · cases h2; exact p1.cc (by simp)
      · obtain ⟨x2, hx2, h3⟩ := Option.bind_eq_some_iff.mp h2
        have p2 := ih _ _ _ hx2 (p1.hz (c2 := cCh (tA T v)) hA.is (by simp) (by simp))
        have p12 : Pz T n (cWhl v l) x x2 := p1.tr p2 (by simp) (by simp)
        exact p12.tr (ih _ _ _ h3 (p12.hz (c2 := cWhl v (fS (xf x1))) ⟨⟨i, e1, e2, e3⟩, p1.1.1.1⟩ (by simp) (by simp))) (by simp) (by simp)
theorem mi_cal (ih : IHz T n rec) {v : Int32} (h : gCal rec v x = some x') (hz : Hz T n (cCal v) x) : Pz T n (cCal v) x x' := by
  unfold gCal at h
  split at h
  · cases h; exact pz_st hz (by simp) ⟨126, by omega, rfl⟩
  · obtain ⟨x1, hx1, h2⟩ := Option.bind_eq_some_iff.mp h
    cases h2
    have p1 := ih _ _ _ hx1 ⟨Or.inr hz.1, hz.2.1, fun e => hz.w0 (by simp) e⟩
    refine ⟨p1.1, p1.2.1, fun _ => ?_, p1.2.2.2⟩
    have e : fN (xf x1) = fN (xf x) + 1 := p1.2.2.1 (by simp)
    show fN (xf x1) - 1 = _
    omega
theorem tb_mem {β : Type} {l : List (Int64 × β)} {k : Int64} {i : Nat} {d : Int64 × β} (h : tbF l k = some i) : l.getD i d ∈ l := by
  obtain ⟨hi, -⟩ := tbF_at h
  rw [gd_at hi]; exact List.getElem_mem _
theorem mi_fnc (ih : IHz T n rec) {v : Int32} {k : Int64} (h : gFnc rec k x = some x') (hz : Hz T n (cBdy v) x) : Pz T n (cBdy v) x x' := by
  unfold gFnc at h
  split at h
  · cases h; exact pz_st hz (by simp) ⟨127, by omega, rfl⟩
  · rename_i i e
    exact (ih _ _ _ h (hz.to (c2 := cCal _) (by simp) (hz.2.1.1.2 _ (tb_mem e)) (by simp))).cc (by simp)
theorem mi_rse (ih : IHz T n rec) {v : Int32} {as : List spL} (h : gRse rec as x = some x') (hz : Hz T n (cBdy v) x) : Pz T n (cBdy v) x x' := by
  unfold gRse at h
  split at h
  · cases h; exact pz_st hz (by simp) st2
  · split at h
    · cases h; exact pz_st hz (by simp) st2
    · rename_i g eg
      split at h
      · cases h; exact pz_st hz (by simp) st2
      · split at h
        · cases h
          refine pz_en hz (by simp) ?_
          have : ∀ g, g < 3 → stat (128 + (if g = 2 then 15 else nI (g + 1))) := by
            intro g hg
            rcases g with _ | _ | _ | g
            · exact ⟨129, by omega, rfl⟩
            · exact ⟨130, by omega, rfl⟩
            · exact ⟨143, by omega, rfl⟩
            · omega
          exact this g (by omega)
        · obtain ⟨x1, hx1, h2⟩ := Option.bind_eq_some_iff.mp h
          cases h2
          have p1 : Pz T n (cBdy v) x x1 := by
            split at hx1
            · split at hx1
              · cases hx1; exact pz_rf hz (by simp)
              · rename_i i e
                exact (ih _ _ _ hx1 (hz.to (c2 := cCal _) (by simp) (hz.2.1.1.2 _ (tb_mem e)) (by simp))).cc (by simp)
            · cases hx1; exact pz_rf hz (by simp)
          exact p1.tr (c2 := cPps 0) ((pz_un ⟨(trivial : okT T n cFin x1), p1.1, fun e => p1.2.2.2 e⟩ (by simp) st0 : Pz T n cFin x1 (zUn x1 0)).1 |> fun a => (show Pz T n (cPps 0) x1 (zUn x1 0) from by
            unfold zUn at a ⊢
            split at a <;> split
            · exact ⟨a, Le.rf, fun _ => rfl, p1.2.2.2⟩
            · rename_i q1 q2; exact absurd q1 q2
            · rename_i q1 q2; exact absurd q2 q1
            · exact ⟨a, Le.rf, fun _ => rfl, p1.2.2.2⟩)) (by simp) (by simp)
theorem jb_ok (h : okS T n x.2) {j : Nat} (hj : j < (xj x).length) : okJ T n (jbAt x j) := by
  unfold jbAt
  rw [gd_at hj]; exact h.2 _ (List.getElem_mem _)
theorem mi_wt (ih : IHz T n rec) {v : Int32} {as : List spL} {fg : Bool} (h : gWt rec fg as x = some x') (hz : Hz T n (cBdy v) x) : Pz T n (cBdy v) x x' := by
  have un : ∀ x1 st, Pz T n (cBdy v) x x1 → stat st → Pz T n (cBdy v) x (zUn x1 st) := fun x1 st p1 hs => by
    unfold zUn
    split
    · exact p1
    · exact ⟨⟨⟨hs, p1.1.1.2⟩, p1.1.2⟩, p1.2.1, p1.2.2.1, p1.2.2.2⟩
  unfold gWt at h
  split at h
  · obtain ⟨x1, hx1, h2⟩ := Option.bind_eq_some_iff.mp h
    cases h2
    exact un _ _ ((ih _ _ _ hx1 (hz.to (c2 := cJbs 0) (by simp) trivial (by simp))).cc (by simp)) st0
  · split at h
    · cases h; exact pz_st hz (by simp) st2
    · simp only [] at h
      split at h
      · cases h; exact pz_st hz (by simp) st2
      · rename_i cn
        split at h
        · cases h; exact pz_st hz (by simp) ⟨127, by omega, rfl⟩
        · rename_i cr
          split at h
          · cases h; exact pz_st hz (by simp) ⟨127, by omega, rfl⟩
          · rename_i cz
            obtain ⟨x1, hx1, h2⟩ := Option.bind_eq_some_iff.mp h
            cases h2
            have lt : (nuL (as.getD 0 [])).toNatClampNeg - 1 < (xj x).length := by
              rcases Nat.lt_or_ge ((nuL (as.getD 0 [])).toNatClampNeg - 1) (xj x).length with g | g
              · exact g
              · exfalso
                rcases nuL_nI (as.getD 0 []) with q | ⟨j, j1, j2⟩
                · exact cn q
                · rw [j2, nI_clamp (by omega)] at g
                  rw [j2] at cr
                  have c1 : ¬ nI j < 1 := fun q => cr (Or.inl q)
                  have c2 : ¬ nI (xj x).length < nI j := fun q => cr (Or.inr q)
                  have b1 : 1 ≤ j := by
                    rcases Nat.eq_zero_or_pos j with e | e
                    · subst e; exact absurd (by decide) c1
                    · exact e
                  by_cases bg : (xj x).length < 2 ^ 31
                  · exact c2 ((nI_ltI bg (by omega)).mpr (by omega))
                  · omega
            have p1 : Pz T n (cBdy v) x x1 := (ih _ _ _ hx1 (hz.to (c2 := cJob _ _) (by simp) ⟨lt, Decidable.byContradiction cz⟩ (show (12 : Nat) ≠ 7 by decide))).cc (show (12 : Nat) ≠ 10 by decide)
            refine un _ _ p1 ?_
            unfold jbAt
            by_cases hj : (nuL (as.getD 0 [])).toNatClampNeg - 1 < (xj x1).length
            · rw [gd_at hj]; exact (p1.1.2 _ (List.getElem_mem _)).2.1
            · rw [gd_out (by omega)]; exact st0
theorem mi_pln (ih : IHz T n rec) {v : Int32} {k : Nat} {nm : Int64} {as : List spL} (h : gPln rec k nm as x = some x') (hz : Hz T n (cBdy v) x) : Pz T n (cBdy v) x x' := by
  unfold gPln at h
  split at h
  · exact mi_fnc ih h hz
  split at h
  · cases h; exact pz_st hz (by simp) st0
  split at h
  · cases h; exact pz_st hz (by simp) st1
  split at h
  · cases h; exact Owk.pz hz Owk.echo
  split at h
  · cases h; exact Owk.pz hz Owk.read
  split at h
  · split at h
    · obtain ⟨q, hq, h2⟩ := Option.bind_eq_some_iff.mp h
      cases h2
      exact Owk.pz hz (Owk.cat hq)
    · cases h; exact pz_st hz (by simp) st2
  split at h
  · cases h
    refine pz_st hz (by simp) ?_
    split
    · exact st0
    · exact st2
  split at h
  · cases h; exact Owk.pz hz Owk.trap
  split at h
  · cases h; exact Owk.pz hz Owk.set
  split at h
  · cases h
    split
    · exact pz_st hz (by simp) st2
    · rename_i st e
      exact pz_en hz (by simp) (exit_st hz.2.1.1.1 e)
  split at h
  · exact mi_rse ih h hz
  · exact mi_wt ih h hz
theorem mi_bdy (ih : IHz T n rec) (wt : WT T n) {v : Int32} (h : gBdy T rec v x = some x') (hz : Hz T n (cBdy v) x) : Pz T n (cBdy v) x x' := by
  obtain ⟨i, e1, e2, e3⟩ : isK T n kCmd v := hz.1
  obtain ⟨-, -, -, -, k4, k5, k6, k7, k8, k9, k10⟩ := wt.2 i v e1 e2
  unfold gBdy at h
  split at h
  · rename_i c; exact mi_rnd ih (k4 c).is h hz
  · split at h
    · rename_i c; exact (ih _ _ _ h (hz.to (c2 := cScr _) (by simp) (Or.inr (k5 c).is) (by simp))).cc (by simp)
    · split at h
      · rename_i c
        obtain ⟨a, b, cc⟩ := k6 c
        exact mi_if ih a.is b.is cc.is h hz
      · split at h
        · rename_i c
          obtain ⟨a, b⟩ := k7 c
          obtain ⟨x1, hx1, h2⟩ := Option.bind_eq_some_iff.mp h
          have p1 := ih _ _ _ hx1 (hz.to (c2 := cCh (tA T v)) (by simp) a.is (by simp))
          exact p1.tr (ih _ _ _ h2 (p1.hz (c2 := cWhl v 0) ⟨⟨i, e1, e2, c⟩, st0⟩ (by simp) (by simp))) (by simp) (by simp)
        · split at h
          · rename_i c
            cases h
            have ka := (k8 c).is
            have fu : ∀ q ∈ tbP (fU (xf x)) (tM T v) (tA T v), isK T n (· = 1) q.2 := fun q hq => by
              unfold tbP at hq
              split at hq
              · rcases List.mem_or_eq_of_mem_set hq with g | g
                · exact hz.2.1.1.2 q g
                · rw [g]; exact ka
              · rcases List.mem_append.mp hq with g | g
                · exact hz.2.1.1.2 q g
                · rw [List.mem_singleton.mp g]; exact ka
            unfold gDef
            split
            · exact ⟨⟨⟨st0, fu⟩, hz.2.1.2⟩, Le.rf, fun _ => rfl, hz.w0 (by simp)⟩
            · split
              · exact pz_st hz (by simp) st1
              · exact ⟨⟨⟨st0, fu⟩, hz.2.1.2⟩, Le.rf, fun _ => rfl, hz.w0 (by simp)⟩
          · split at h
            · cases h; exact Owk.pz hz Owk.asgn
            · exact mi_pln ih h hz
theorem mi_fin (ih : IHz T n rec) (h : gFin rec x = some x') (hz : Hz T n cFin x) : Pz T n cFin x x' := by
  have w0 := hz.w0 (by simp)
  unfold gFin at h
  simp only [] at h
  split at h
  · obtain ⟨x2, hx2, h2⟩ := Option.bind_eq_some_iff.mp h
    have p2 : okS T n x2.2 ∧ Le (xw x) (xw x2) ∧ (wX (xw x2) = false → okW (xw x2) 0 0) := by
      split at hx2
      · cases hx2; exact ⟨hz.2.1, Le.rf, w0⟩
      · rename_i i e
        have := ih _ _ _ hx2 (⟨hz.2.1.1.2 _ (tb_mem e), hz.2.1, fun e => w0 e⟩ : Hz T n (cCal _) _)
        exact ⟨this.1, this.2.1, this.2.2.2⟩
    split at h2
    · cases h2; exact ⟨p2.1, p2.2.1, fun q => absurd rfl q, p2.2.2⟩
    · have hz2 : Hz T n (cJbs 0) (zBase (if xe x2 = true then x2 else zSt x2 (fS (xf x)))) := by
        refine ⟨trivial, ?_, ?_⟩
        · split
          · exact p2.1
          · exact ⟨⟨hz.2.1.1.1, p2.1.1.2⟩, p2.1.2⟩
        · split
          · exact fun e => p2.2.2 e
          · exact fun e => p2.2.2 e
      have p3 := ih _ _ _ h2 hz2
      refine ⟨p3.1, ?_, fun q => absurd rfl q, p3.2.2.2⟩
      have l3 := p3.2.1
      split at l3
      · exact p2.2.1.tr l3
      · exact p2.2.1.tr l3
  · have p3 := ih _ _ _ h (⟨trivial, hz.2.1, fun e => w0 e⟩ : Hz T n (cJbs 0) (zBase x))
    exact ⟨p3.1, p3.2.1, fun q => absurd rfl q, p3.2.2.2⟩
theorem mi_jbs (ih : IHz T n rec) {j : Nat} (h : gJbs rec j x = some x') (hz : Hz T n (cJbs j) x) : Pz T n (cJbs j) x x' := by
  unfold gJbs at h
  split at h
  · cases h; exact pz_rf hz (by simp)
  · rename_i c
    obtain ⟨x1, hx1, h2⟩ := Option.bind_eq_some_iff.mp h
    have p1 : Pz T n (cJbs j) x x1 := by
      split at hx1
      · rename_i c0
        exact (ih _ _ _ hx1 (hz.to (c2 := cJob j 1) (by simp) ⟨by rcases Nat.lt_or_ge j (xj x).length with g | g; exact g; exact absurd (Or.inl g) c, c0⟩ (by simp))).cc (by simp)
      · cases hx1; exact pz_rf hz (by simp)
    exact p1.tr (ih _ _ _ h2 (p1.hz (c2 := cJbs (j + 1)) trivial (by simp) (by simp))) (by simp) (by simp)
theorem okS.job {S : spS} (h : okS T n S) {j : Nat} {q : spJ} (hq : okJ T n q) : ∀ p ∈ S.2.2.set j q, okJ T n p := fun p hp => by
  rcases List.mem_or_eq_of_mem_set hp with g | g
  · exact h.2 p g
  · rw [g]; exact hq
theorem mi_job (ih : IHz T n rec) {j : Nat} {b : Int32} (h : gJob rec j b x = some x') (hz : Hz T n (cJob j b) x) : Pz T n (cJob j b) x x' := by
  have hj : j < (xj x).length := hz.1.1
  obtain ⟨k1, k2, k3, k4⟩ := jb_ok hz.2.1 hj
  unfold gJob at h
  simp only [] at h
  obtain ⟨y1, hy1, h2⟩ := Option.bind_eq_some_iff.mp h
  obtain ⟨y2, hy2, h3⟩ := Option.bind_eq_some_iff.mp h2
  have p1 := ih _ _ _ hy1 ⟨k3, ⟨k4, fun q hq => absurd hq List.not_mem_nil⟩, fun e => hz.w0 (by simp) e⟩
  have p2 : okS T n y2.2 ∧ Le (xw y1) (xw y2) ∧ (wX (xw y2) = false → okW (xw y2) 0 0) := by
    split at hy2
    · rename_i cx; cases hy2; exact ⟨p1.1, Le.rf, fun e => by rw [cx] at e; cases e⟩
    · have := ih _ _ _ hy2 (p1.hz (c2 := cFin) trivial (by simp) (by simp))
      exact ⟨this.1, this.2.1, this.2.2.2⟩
  have le : Le (xw x) (xw y2) := p1.2.1.tr p2.2.1
  have s1 : okS T n (zJob x j (jbAt x j).2.2.1 (jbAt x j).2.1 2).2 := ⟨hz.2.1.1, hz.2.1.job ⟨by omega, k2, k3, k4⟩⟩
  split at h3
  · rename_i cx
    cases h3
    exact ⟨s1, le, fun _ => rfl, fun e => by rw [cx] at e; cases e⟩
  · cases h3
    refine ⟨⟨hz.2.1.1, ?_⟩, le, fun _ => rfl, p2.2.2⟩
    have e : (jbAt (xw y2, (zJob x j (jbAt x j).2.2.1 (jbAt x j).2.1 2).2) j).2.2.2 = (jbAt x j).2.2.2 := by
      show (((xj x).set j (2, (jbAt x j).2.1, (jbAt x j).2.2.1, (jbAt x j).2.2.2)).getD j (0, 0, 0, xf x)).2.2.2 = _
      rw [getD_set_self hj]
    exact s1.job (j := j) (q := (1, fS (xf y2), (jbAt x j).2.2.1, (jbAt (xw y2, (zJob x j (jbAt x j).2.2.1 (jbAt x j).2.1 2).2) j).2.2.2)) ⟨by omega, p2.1.1.1, k3, by rw [e]; exact k4⟩
theorem mi_step (ih : IHz T n rec) (wt : WT T n) : IHz T n (gStep T rec) := by
  rintro ⟨t, v, l, r, p⟩ x x' h hz
  unfold gStep at h
  split at h
  · rename_i e; cases e; exact (mi_scr ih wt h ⟨hz.1, hz.2.1, hz.2.2⟩).cc (by simp)
  · rename_i e; cases e; exact (mi_chs ih wt h ⟨hz.1, hz.2.1, hz.2.2⟩).cc (by simp)
  · rename_i e; cases e; exact (mi_ch ih wt h ⟨hz.1, hz.2.1, hz.2.2⟩).cc (by simp)
  · rename_i e; cases e; exact (mi_pps ih wt h ⟨hz.1, hz.2.1, hz.2.2⟩).cc (by simp)
  · rename_i e; cases e; exact (mi_pp ih wt h ⟨hz.1, hz.2.1, hz.2.2⟩).cc (by simp)
  · rename_i e; cases e; exact (mi_sev ih wt h ⟨hz.1, hz.2.1, hz.2.2⟩).cc (by simp)
  · rename_i e; cases e; exact (mi_cmd ih wt h ⟨hz.1, hz.2.1, hz.2.2⟩).cc (by simp)
  · rename_i e; cases e; exact (mi_bdy ih wt h ⟨hz.1, hz.2.1, hz.2.2⟩).cc (by simp)
  · rename_i e; cases e; exact (mi_whl ih wt h ⟨hz.1, hz.2.1, hz.2.2⟩).cc (by simp)
  · rename_i e; cases e; exact (mi_cal ih h ⟨hz.1, hz.2.1, hz.2.2⟩).cc (by simp)
  · rename_i e; cases e
    have := mi_fin ih h ⟨trivial, hz.2.1, hz.2.2⟩
    exact ⟨this.1, this.2.1, fun q => absurd rfl q, this.2.2.2⟩
  · rename_i e; cases e; exact (mi_jbs ih h ⟨trivial, hz.2.1, hz.2.2⟩).cc (by simp)
  · rename_i e; cases e; exact (mi_job ih h ⟨hz.1, hz.2.1, hz.2.2⟩).cc (by simp)
  · cases h
theorem mi_all (wt : WT T n) : ∀ k, IHz T n (gEx T k)
  | 0 => fun c x x' h _ => by cases h
  | k + 1 => mi_step (mi_all wt k) wt
end MXMJ2
