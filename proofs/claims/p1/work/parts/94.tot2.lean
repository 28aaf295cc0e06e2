/-! EVERY RUN ENDS: what a task finds, what it leaves -/
section MXTB
variable {T : spT} {n : Nat} {dp : Int32 → Nat} {w w1 w2 : spW} {f f1 : spF} {v v1 l r : Int32} {x x1 x2 x' y : spX} {c c1 c2 : spC} {k d g q q2 j : Nat} {as : List spL}
/-- a shell of rank q: its handles, its jobs that wait -/
def Iv (dp : Int32 → Nat) (q : Nat) (x : spX) : Prop := hvN (xw x) (xf x) ∧ fN (xf x) ≤ 4 ∧ (xj x).length ≤ 8 ∧ ∀ e ∈ xj x, e.1 = 0 → hvN (xw x) e.2.2.2 ∧ fN e.2.2.2 ≤ 4 ∧ fB e.2.2.2 = fN e.2.2.2 ∧ q ≤ 18 * fN e.2.2.2 + 3 * dp e.2.2.1
/-- where a task stands -/
def Ip (dp : Int32 → Nat) (q : Nat) (c : spC) (x : spX) : Prop := match c with
  | (0, v, _, _, _) => v = -1 ∨ q ≤ 18 * fN (xf x) + 3 * dp v
  | (1, v, _, _, _) => v = -1 ∨ q ≤ 18 * fN (xf x) + 3 * dp v
  | (2, v, _, _, _) => q ≤ 18 * fN (xf x) + 3 * dp v + 1
  | (3, v, _, _, _) => v = -1 ∨ q ≤ 18 * fN (xf x) + 3 * dp v + 1
  | (4, v, _, _, _) => q ≤ 18 * fN (xf x) + 3 * dp v + 1
  | (5, v, _, _, p) => (v = -1 ∨ q ≤ 18 * fN (xf x) + 3 * dp v + 1) ∧ ∃ u, hvU (xw x) u (xf x) ∧ Ahe (xw x) u p ∧ u ≤ (wU (xw x)).length
  | (6, v, _, _, _) => q ≤ 18 * fN (xf x) + 3 * dp v + 2
  | (7, v, _, _, _) => q ≤ 18 * fN (xf x) + 3 * dp v + 2
  | (8, v, _, _, _) => q ≤ 18 * fN (xf x) + 3 * dp v + 2
  | (9, _, _, _, _) => q ≤ 18 * fN (xf x) + 17
  | (10, _, _, _, _) => fN (xf x) = fB (xf x) ∧ q ≤ 18 * fN (xf x) + 17
  | (11, _, _, _, some _) => True
  | (12, _, _, _, some _) => True
  | _ => False
def Rs (T : spT) (dp : Int32 → Nat) (k : Nat) (c : spC) (x : spX) (q d g : Nat) : Prop := ∃ x', gEx T k c x = some x' ∧ bEx T k d g c x ∧ Iv dp q x' ∧ fB (xf x') = fB (xf x)
/-- a task without idle numbers -/
def cnc (c : spC) : spC := match c with
  | (0, v, _, _, _) => cScr v
  | (1, v, _, _, _) => cChs v
  | (2, v, _, _, _) => cCh v
  | (3, v, _, _, _) => cPps v
  | (4, v, _, _, _) => cPp v
  | (5, v, l, r, p) => cSev v l r p
  | (6, v, _, _, _) => cCmd v
  | (7, v, _, _, _) => cBdy v
  | (8, v, l, _, _) => cWhl v l
  | (9, v, _, _, _) => cCal v
  | (10, _, _, _, _) => cFin
  | (11, _, _, _, some j) => cJbs j
  | (12, _, b, _, some j) => cJob j b
  | _ => cFin
def Tot (T : spT) (n : Nat) (dp : Int32 → Nat) (k : Nat) : Prop := ∀ c x q d g, Hz T n c x → Iv dp q x → Ip dp q c x → wX (xw x) = false → Fu c x q < k → Dn c x q ≤ d → 90 ≤ g + q → (h : cnc c = c := by rfl) → Rs T dp k c x q d g
theorem Iv.le (h : Iv dp q x) (l : Le (xw x) w) : Iv dp q (w, x.2) := ⟨h.1.le l, h.2.1, h.2.2.1, fun e he e0 => ⟨(h.2.2.2 e he e0).1.le l, (h.2.2.2 e he e0).2⟩⟩
/-- another status, other tables, other actions: the handles stay -/
theorem Iv.fh (h : Iv dp q x) {f1 : spF} {e : Bool} (e1 : fH f1 = fH (xf x)) (e2 : fN f1 = fN (xf x)) : Iv dp q (xw x, f1, e, xj x) := ⟨h.1.fh e1, by show fN f1 ≤ 4; rw [e2]; exact h.2.1, h.2.2⟩
theorem Iv.st (h : Iv dp q x) {v : Int32} : Iv dp q (zSt x v) := h
theorem Iv.en (h : Iv dp q x) {v : Int32} : Iv dp q (zEnd x v) := h
theorem Iv.un (h : Iv dp q x) {v : Int32} : Iv dp q (zUn x v) := by
  unfold zUn
  split
  · exact h
  · exact h
theorem un_fB : fB (xf (zUn x v)) = fB (xf x) := by
  unfold zUn
  split <;> rfl
theorem Iv.res {rr : Int32 × spW × spF} (h : Iv dp q x) (l : Le (xw x) rr.2.1) (e1 : fH rr.2.2 = fH (xf x)) (e2 : fN rr.2.2 = fN (xf x)) : Iv dp q (zRes x rr) := by
  have a : Iv dp q (zwf x rr.2.1 rr.2.2) := (h.le l).fh (x := (rr.2.1, x.2)) (f1 := rr.2.2) (e := xe x) e1 e2
  unfold zRes
  split
  · exact a
  · exact a
theorem res_fB {rr : Int32 × spW × spF} (e : fB rr.2.2 = fB (xf x)) : fB (xf (zRes x rr)) = fB (xf x) := by
  unfold zRes
  split <;> exact e
theorem asgn_H {a : Int64} {b : spL} (h : asgn f a b = some f1) : fH f1 = fH f ∧ fB f1 = fB f := by
  unfold asgn at h
  split at h
  · cases h; exact ⟨rfl, rfl⟩
  · split at h
    · cases h
    · cases h; exact ⟨rfl, rfl⟩
theorem opRead_H : fH (opRead as w f).2.2 = fH f ∧ fB (opRead as w f).2.2 = fB f := by
  unfold opRead
  split
  · exact ⟨rfl, rfl⟩
  · simp only []
    split
    · exact ⟨rfl, rfl⟩
    · split
      · exact ⟨rfl, rfl⟩
      · split
        · exact ⟨rfl, rfl⟩
        · rename_i f1 e
          exact asgn_H e
theorem opTrap_H : fH (opTrap as w f).2.2 = fH f ∧ fB (opTrap as w f).2.2 = fB f := by
  unfold opTrap
  split
  · exact ⟨rfl, rfl⟩
  · split
    · exact ⟨rfl, rfl⟩
    · exact ⟨rfl, rfl⟩
theorem opSet_H : fH (opSet as w f).2.2 = fH f ∧ fB (opSet as w f).2.2 = fB f := by
  unfold opSet
  split
  · exact ⟨rfl, rfl⟩
  · exact ⟨rfl, rfl⟩
theorem opAsgn_H {a : Int64} {b : spL} : fH (opAsgn a b w f).2.2 = fH f ∧ fB (opAsgn a b w f).2.2 = fB f := by
  unfold opAsgn
  split
  · exact ⟨rfl, rfl⟩
  · rename_i f1 e
    exact asgn_H e
theorem Owk.lee {rr : Int32 × spW × spF} (o : Owk T n w f rr) : Le w rr.2.1 := by
  obtain ⟨⟨m, -, o1⟩, -⟩ := o
  exact Le.tr (b := uM w m) ⟨fun a q h => ⟨q.2.2, h⟩, Nat.le_refl _, Nat.le_refl _, fun h => h⟩ o1.le
theorem pU_le (l : Le (xw x) (xw x1)) (e : fN (xf x1) = fN (xf x)) : pU x1 ≤ pU x := by
  have := l.2.2.1
  unfold pU
  rw [e]
  omega
/-- the shell's potential sinks, or the task comes nearer to its end -/
theorem fu_lt {a b k : Nat} (h : Fu c x q < k + 1) (hp : pU x1 + rkE a ≤ b) (hb : b < pU x + rkE q) : Fu c1 x1 a < k := by
  unfold Fu at h ⊢
  have := lop_le (c := c1)
  omega
theorem fu_le {a k : Nat} (h : Fu c x q < k + 1) (hp : pU x1 + rkE a ≤ pU x + rkE q) (hl : lop c1 < lop c) : Fu c1 x1 a < k := by
  unfold Fu at h ⊢
  omega
theorem hlt_f (h : hlt x = false) : wX (xw x) = false ∧ xe x = false := by
  have h : (wX (xw x) || xe x) = false := h
  exact Bool.or_eq_false_iff.mp h
theorem hlt_X (h : wX (xw x) = true) : hlt x = true := by show (wX (xw x) || xe x) = true; rw [h]; rfl
theorem bst {B : spC → spX → Prop} (h : bStep T (gEx T k) (bEx T k) d g c x) : bEx T (k + 1) d g c x := h
/-! loops that have stopped -/
theorem st_chs (hd : 20 ≤ d) (h : hlt x = true) (i : Iv dp q x) : Rs T dp (k + 1) (cChs v) x q d g := by
  refine ⟨x, ?_, bst (B := fun _ _ => True) ⟨hd, Or.inr (Or.inl h)⟩, i, rfl⟩
  show gChs T (gEx T k) v x = some x
  unfold gChs
  rw [if_pos (Or.inr h)]
theorem st_pps (hd : 20 ≤ d) (h : hlt x = true) (i : Iv dp q x) : Rs T dp (k + 1) (cPps v) x q d g := by
  refine ⟨x, ?_, bst (B := fun _ _ => True) ⟨hd, Or.inr (Or.inl h)⟩, i, rfl⟩
  show gPps T (gEx T k) v x = some x
  unfold gPps
  rw [if_pos (Or.inr h)]
theorem st_sev {p : Option Nat} (hd : 20 ≤ d) (h : wX (xw x) = true) (i : Iv dp q x) : Rs T dp (k + 1) (cSev v l r p) x q d g := by
  refine ⟨x, ?_, bst (B := fun _ _ => True) ⟨hd, Or.inr (Or.inl h)⟩, i, rfl⟩
  show gSev T (gEx T k) v l r p x = some x
  unfold gSev
  rw [if_pos (Or.inr h), if_pos h]
theorem st_whl (hd : 20 ≤ d) (h : hlt x = true) (i : Iv dp q x) : Rs T dp (k + 1) (cWhl v l) x q d g := by
  refine ⟨x, ?_, bst (B := fun _ _ => True) ⟨hd, Or.inl h⟩, i, rfl⟩
  show gWhl T (gEx T k) v l x = some x
  unfold gWhl
  rw [if_pos h]
theorem st_jbs (hd : 20 ≤ d) (h : wX (xw x) = true) (i : Iv dp q x) : Rs T dp (k + 1) (cJbs j) x q d g := by
  refine ⟨x, ?_, bst (B := fun _ _ => True) ⟨hd, Or.inr (Or.inl h)⟩, i, rfl⟩
  show gJbs (gEx T k) j x = some x
  unfold gJbs
  rw [if_pos (Or.inr h)]
theorem hX_cases (x : spX) : wX (xw x) = true ∨ wX (xw x) = false := by
  cases wX (xw x) with
  | true => exact Or.inl rfl
  | false => exact Or.inr rfl
theorem Dn20 (h : Dn c x q ≤ d) : 20 ≤ d := by
  have : 20 ≤ cst c := by
    unfold cst
    split <;> omega
  unfold Dn at h
  omega
theorem isK.nn {p : Int32 → Prop} {v : Int32} (h : isK T n p v) (hn : n ≤ 3000) : v ≠ -1 := by
  obtain ⟨i, rfl, hi, -⟩ := h
  exact fun e => (nI_neg1 (by omega)).mp e
/-! the steps: scripts, chains, pipelines -/
theorem tt_scr (ih : Tot T n dp k) (wt : WT T n) (wd : WD T n dp) (hz : Hz T n (cScr v) x) (iv : Iv dp q x) (ip : Ip dp q (cScr v) x) (nX : wX (xw x) = false) (hk : Fu (cScr v) x q < k + 1) (hd : Dn (cScr v) x q ≤ d) (hg : 90 ≤ g + q) : Rs T dp (k + 1) (cScr v) x q d g := by
  have h20 := Dn20 hd
  by_cases c1 : v = -1
  · refine ⟨zSt x 0, ?_, bst (B := fun _ _ => True) ⟨h20, Or.inl c1⟩, iv.st, rfl⟩
    show gScr T (gEx T k) v x = _
    unfold gScr
    rw [if_pos c1]
  by_cases c2 : tA T v = -1
  · refine ⟨zSt x 0, ?_, bst (B := fun _ _ => True) ⟨h20, Or.inr (Or.inl c2)⟩, iv.st, rfl⟩
    show gScr T (gEx T k) v x = _
    unfold gScr
    rw [if_neg c1, if_pos c2]
  have hk1 : v = -1 ∨ isK T n (· = 1) v := hz.1
  obtain ⟨i, e1, e2, e3⟩ := hk1.resolve_left c1
  have nx := (wt.2 i v e1 e2).1 e3
  have dd := (wd i v e1 e2).2.1 e3 c2
  have ip : v = -1 ∨ q ≤ 18 * fN (xf x) + 3 * dp v := ip
  have ip1 := ip.resolve_left c1
  obtain ⟨x', h1, h2, h3, h4⟩ := ih (cChs (tA T v)) x q d g (hz.to (c2 := cChs (tA T v)) (show (0 : Nat) ≠ 6 by decide) nx.is (show (1 : Nat) ≠ 7 by decide)) iv (Or.inr (by omega)) nX (fu_le hk (Nat.le_refl _) (lop_nx e1 e2 wt.1 nx (by omega) (by omega))) hd hg
  refine ⟨x', ?_, bst (B := fun _ _ => True) ⟨h20, Or.inr (Or.inr h2)⟩, h3, h4⟩
  show gScr T (gEx T k) v x = _
  unfold gScr
  rw [if_neg c1, if_neg c2]
  exact h1
theorem tt_chs (ih : Tot T n dp k) (wt : WT T n) (wd : WD T n dp) (hz : Hz T n (cChs v) x) (iv : Iv dp q x) (ip : Ip dp q (cChs v) x) (nX : wX (xw x) = false) (hk : Fu (cChs v) x q < k + 1) (hd : Dn (cChs v) x q ≤ d) (hg : 90 ≤ g + q) : Rs T dp (k + 1) (cChs v) x q d g := by
  have h20 := Dn20 hd
  by_cases c1 : v = -1
  · refine ⟨x, ?_, bst (B := fun _ _ => True) ⟨h20, Or.inl c1⟩, iv, rfl⟩
    show gChs T (gEx T k) v x = _
    unfold gChs
    rw [if_pos (Or.inl c1)]
  by_cases ch : hlt x = true
  · exact st_chs h20 ch iv
  have hk1 : v = -1 ∨ isK T n (· = 2) v := hz.1
  obtain ⟨i, e1, e2, e3⟩ := hk1.resolve_left c1
  have i3 : i < 3000 := Nat.lt_of_lt_of_le e2 wt.1
  have nx := ((wt.2 i v e1 e2).2.1 e3).2
  have ip : v = -1 ∨ q ≤ 18 * fN (xf x) + 3 * dp v := ip
  have ip1 := ip.resolve_left c1
  have one : ∃ x1, (if tB T v = 1 then some (mkJob v x) else gEx T k (cCh v) x) = some x1 ∧ (tB T v ≠ 1 → bEx T k (d - 1) g (cCh v) x) ∧ Iv dp q x1 ∧ fB (xf x1) = fB (xf x) ∧ Pz T n (cChs v) x x1 := by
    by_cases cb : tB T v = 1
    · rw [if_pos cb]
      refine ⟨_, rfl, fun e => absurd cb e, ?_, ?_, ?_⟩
      · unfold mkJob
        split
        · exact iv.st
        · rename_i c8
          refine ⟨iv.1, iv.2.1, ?_, fun e he e0 => ?_⟩
          · show (xj x ++ [(0, 0, v, subF (xf x))]).length ≤ 8
            rw [List.length_append, List.length_singleton]; omega
          · rcases List.mem_append.mp he with g | g
            · exact iv.2.2.2 e g e0
            · rw [List.mem_singleton.mp g]
              exact ⟨iv.1, iv.2.1, rfl, ip1⟩
      · unfold mkJob
        split <;> rfl
      · unfold mkJob
        split
        · exact pz_st hz (show (1 : Nat) ≠ 6 by decide) st1
        · refine ⟨⟨⟨st0, hz.2.1.1.2⟩, fun q hq => ?_⟩, Le.rf, fun _ => rfl, hz.w0 (show (1 : Nat) ≠ 6 by decide)⟩
          rcases List.mem_append.mp hq with g | g
          · exact hz.2.1.2 q g
          · rw [List.mem_singleton.mp g]
            exact ⟨Nat.zero_le _, st0, ⟨i, e1, e2, e3⟩, hz.2.1.1⟩
    · rw [if_neg cb]
      have hz1 := hz.to (c2 := cCh v) (show (1 : Nat) ≠ 6 by decide) ⟨i, e1, e2, e3⟩ (show (2 : Nat) ≠ 7 by decide)
      obtain ⟨x1, h1, h2, h3, h4⟩ := ih (cCh v) x q (d - 1) g hz1 iv (show q ≤ _ by omega) nX (fu_le hk (Nat.le_refl _) (lop_sm e1 i3 (by omega))) (by unfold Dn cst at hd ⊢; simp only [] at hd ⊢; omega) hg
      exact ⟨x1, h1, fun _ => h2, h3, h4, (mi_all wt k _ _ _ h1 hz1).cc (show (2 : Nat) ≠ 10 by decide)⟩
  obtain ⟨x1, h1, h2, h3, h4, pz⟩ := one
  have two : Rs T dp k (cChs (tN T v)) x1 q d g := by
    rcases hX_cases x1 with cX | cX
    · obtain ⟨k, rfl⟩ : ∃ k', k = k' + 1 := ⟨k - 1, by unfold Fu lop at hk; simp only [] at hk; have := (lopV_le (t := 19) (v := v)).1; omega⟩
      exact st_chs h20 (hlt_X cX) h3
    · have eN : fN (xf x1) = fN (xf x) := pz.2.2.1 (show (1 : Nat) ≠ 10 by decide)
      refine ih _ x1 q d g (pz.hz (c2 := cChs (tN T v)) nx.is (show (1 : Nat) ≠ 7 by decide) (show (1 : Nat) ≠ 6 by decide)) h3 ?_ cX (fu_le hk (Nat.add_le_add_right (pU_le pz.2.1 eN) _) (lop_nx e1 e2 wt.1 nx (by omega) (by omega))) ?_ hg
      · show tN T v = -1 ∨ _
        by_cases cn : tN T v = -1
        · exact Or.inl cn
        · have := ((wd i v e1 e2).2.2.1 e3).2.2 cn
          right; rw [eN]; omega
      · have := pU_le pz.2.1 eN
        unfold Dn cst at hd ⊢; simp only [] at hd ⊢; omega
  obtain ⟨x2, g1, g2, g3, g4⟩ := two
  refine ⟨x2, ?_, bst (B := fun _ _ => True) ⟨h20, Or.inr (Or.inr ⟨h2, fun y hy => ?_⟩)⟩, g3, g4.trans h4⟩
  · show gChs T (gEx T k) v x = _
    unfold gChs
    rw [if_neg (fun e => e.elim c1 ch), h1]
    exact g1
  · rw [h1] at hy
    cases hy
    exact g2
theorem tt_ch (ih : Tot T n dp k) (wt : WT T n) (wd : WD T n dp) (hz : Hz T n (cCh v) x) (iv : Iv dp q x) (ip : Ip dp q (cCh v) x) (nX : wX (xw x) = false) (hk : Fu (cCh v) x q < k + 1) (hd : Dn (cCh v) x q ≤ d) (hg : 90 ≤ g + q) : Rs T dp (k + 1) (cCh v) x q d g := by
  have h20 := Dn20 hd
  obtain ⟨i, e1, e2, e3⟩ : isK T n (· = 2) v := hz.1
  have nx := ((wt.2 i v e1 e2).2.1 e3).1
  have dd := ((wd i v e1 e2).2.2.1 e3).1
  have ip : q ≤ 18 * fN (xf x) + 3 * dp v + 1 := ip
  obtain ⟨x', h1, h2, h3, h4⟩ := ih (cPps (tA T v)) x q d g (hz.to (c2 := cPps (tA T v)) (show (2 : Nat) ≠ 6 by decide) (Or.inr nx.is) (show (3 : Nat) ≠ 7 by decide)) iv (Or.inr (by omega)) nX (fu_le hk (Nat.le_refl _) (lop_nx e1 e2 wt.1 (Or.inr nx) (by omega) (by omega))) hd hg
  exact ⟨x', h1, bst (B := fun _ _ => True) ⟨h20, h2⟩, h3, h4⟩
theorem tt_pps (ih : Tot T n dp k) (wt : WT T n) (wd : WD T n dp) (hz : Hz T n (cPps v) x) (iv : Iv dp q x) (ip : Ip dp q (cPps v) x) (nX : wX (xw x) = false) (hk : Fu (cPps v) x q < k + 1) (hd : Dn (cPps v) x q ≤ d) (hg : 90 ≤ g + q) : Rs T dp (k + 1) (cPps v) x q d g := by
  have h20 := Dn20 hd
  by_cases c1 : v = -1
  · refine ⟨x, ?_, bst (B := fun _ _ => True) ⟨h20, Or.inl c1⟩, iv, rfl⟩
    show gPps T (gEx T k) v x = _
    unfold gPps
    rw [if_pos (Or.inl c1)]
  by_cases ch : hlt x = true
  · exact st_pps h20 ch iv
  have nh : ¬ (v = -1 ∨ hlt x = true) := fun e => e.elim c1 ch
  have hk1 : v = -1 ∨ isK T n (· = 3) v := hz.1
  obtain ⟨i, e1, e2, e3⟩ := hk1.resolve_left c1
  have i3 : i < 3000 := Nat.lt_of_lt_of_le e2 wt.1
  have nx := ((wt.2 i v e1 e2).2.2.1 e3).2
  have ip : v = -1 ∨ q ≤ 18 * fN (xf x) + 3 * dp v + 1 := ip
  have ip1 := ip.resolve_left c1
  have nxt : ∀ x1, Iv dp q x1 → Pz T n (cPps v) x x1 → Rs T dp k (cPps (tN T v)) x1 q d g := by
    intro x1 h3 pz
    rcases hX_cases x1 with cX | cX
    · obtain ⟨k, rfl⟩ : ∃ k', k = k' + 1 := ⟨k - 1, by unfold Fu lop at hk; simp only [] at hk; have := (lopV_le (t := 17) (v := v)).1; omega⟩
      exact st_pps h20 (hlt_X cX) h3
    · have eN : fN (xf x1) = fN (xf x) := pz.2.2.1 (show (3 : Nat) ≠ 10 by decide)
      refine ih _ x1 q d g (pz.hz (c2 := cPps (tN T v)) nx.is (show (3 : Nat) ≠ 7 by decide) (show (3 : Nat) ≠ 6 by decide)) h3 ?_ cX (fu_le hk (Nat.add_le_add_right (pU_le pz.2.1 eN) _) (lop_nx e1 e2 wt.1 nx (by omega) (by omega))) ?_ hg
      · show tN T v = -1 ∨ _
        by_cases cn : tN T v = -1
        · exact Or.inl cn
        · have := ((wd i v e1 e2).2.2.2.1 e3).2 cn
          right; rw [eN]; omega
      · have := pU_le pz.2.1 eN
        unfold Dn cst at hd ⊢; simp only [] at hd ⊢; omega
  by_cases sk : (tC T v = 1 ∧ fS (xf x) ≠ 0) ∨ (tC T v = 2 ∧ fS (xf x) = 0)
  · obtain ⟨x2, g1, g2, g3, g4⟩ := nxt x iv (pz_rf hz (show (3 : Nat) ≠ 6 by decide))
    refine ⟨x2, ?_, bst (B := fun _ _ => True) ⟨h20, Or.inr (Or.inr ⟨fun _ => g2, fun e => absurd sk e⟩)⟩, g3, g4⟩
    show gPps T (gEx T k) v x = _
    unfold gPps
    rw [if_neg nh, if_pos sk]
    exact g1
  · have hz1 := hz.to (c2 := cPp v) (show (3 : Nat) ≠ 6 by decide) ⟨i, e1, e2, e3⟩ (show (4 : Nat) ≠ 7 by decide)
    obtain ⟨x1, h1, h2, h3, h4⟩ := ih (cPp v) x q (d - 1) g hz1 iv ip1 nX (fu_le hk (Nat.le_refl _) (lop_sm e1 i3 (by omega))) (by unfold Dn cst at hd ⊢; simp only [] at hd ⊢; omega) hg
    obtain ⟨x2, g1, g2, g3, g4⟩ := nxt x1 h3 ((mi_all wt k _ _ _ h1 hz1).cc (show (4 : Nat) ≠ 10 by decide))
    refine ⟨x2, ?_, bst (B := fun _ _ => True) ⟨h20, Or.inr (Or.inr ⟨fun e => absurd e sk, fun _ => ⟨h2, fun y hy => ?_⟩⟩)⟩, g3, g4.trans h4⟩
    · show gPps T (gEx T k) v x = _
      unfold gPps
      rw [if_neg nh, if_neg sk, h1]
      exact g1
    · rw [h1] at hy
      cases hy
      exact g2
theorem neg1_I {b : Bool} (h : Iv dp q x) : Iv dp q (neg1 x b) ∧ fB (xf (neg1 x b)) = fB (xf x) := by
  unfold neg1
  split
  · exact ⟨h, rfl⟩
  · exact ⟨h, rfl⟩
theorem tt_pp (ih : Tot T n dp k) (wt : WT T n) (wd : WD T n dp) (hz : Hz T n (cPp v) x) (iv : Iv dp q x) (ip : Ip dp q (cPp v) x) (nX : wX (xw x) = false) (hk : Fu (cPp v) x q < k + 1) (hd : Dn (cPp v) x q ≤ d) (hg : 90 ≤ g + q) : Rs T dp (k + 1) (cPp v) x q d g := by
  have h20 := Dn20 hd
  obtain ⟨i, e1, e2, e3⟩ : isK T n (· = 3) v := hz.1
  have nx := ((wt.2 i v e1 e2).2.2.1 e3).1
  have dd := ((wd i v e1 e2).2.2.2.1 e3).1
  have ip : q ≤ 18 * fN (xf x) + 3 * dp v + 1 := ip
  by_cases c1 : tN T (tA T v) = -1
  · obtain ⟨x1, h1, h2, h3, h4⟩ := ih (cCmd (tA T v)) x q (d - 1) g (hz.to (c2 := cCmd (tA T v)) (show (4 : Nat) ≠ 6 by decide) nx.is (show (6 : Nat) ≠ 7 by decide)) iv (show q ≤ _ by omega) nX (fu_le hk (Nat.le_refl _) (lop_nx e1 e2 wt.1 (Or.inr nx) (by omega) (by omega))) (by unfold Dn cst at hd ⊢; simp only [] at hd ⊢; omega) hg
    refine ⟨neg1 x1 (decide (tB T v = 1)), ?_, bst (B := fun _ _ => True) ⟨h20, fun _ => h2, fun e => absurd c1 e⟩, (neg1_I h3).1, (neg1_I h3).2.trans h4⟩
    show gPp T (gEx T k) v x = _
    unfold gPp
    rw [if_pos c1, h1]
    rfl
  · have w0 := hz.w0 (show (4 : Nat) ≠ 6 by decide) nX
    have hvu : hvU (xw x) (wU (xw x)).length (xf x) := fun i a ha hk => by
      have lt := iv.1.1 i a ha
      have e : rO (xw x) a = (wO (xw x))[a] := gd_at lt
      rw [e] at hk ⊢
      exact w0.2.2.2.2.1 _ (List.getElem_mem _) hk
    obtain ⟨x1, h1, h2, h3, h4⟩ := ih (cSev (tA T v) 0 0 none) x q (d - 1) g (hz.to (c2 := cSev (tA T v) 0 0 none) (show (4 : Nat) ≠ 6 by decide) ⟨Or.inr nx.is, st0, st0⟩ (show (5 : Nat) ≠ 7 by decide)) iv ⟨Or.inr (by omega), (wU (xw x)).length, hvu, fun o e => (by cases e), Nat.le_refl _⟩ nX (fu_le hk (Nat.le_refl _) (lop_nx e1 e2 wt.1 (Or.inr nx) (by omega) (by omega))) (by unfold Dn cst at hd ⊢; simp only [] at hd ⊢; omega) hg
    refine ⟨neg1 x1 (decide (tB T v = 1)), ?_, bst (B := fun _ _ => True) ⟨h20, fun e => absurd e c1, fun _ => h2⟩, (neg1_I h3).1, (neg1_I h3).2.trans h4⟩
    show gPp T (gEx T k) v x = _
    unfold gPp
    rw [if_neg c1, h1]
    rfl
end MXTB
