/-! The commands' ends in one form: OpE -/
section MXOP
variable {h h1 h2 hA hB : mxH} {d x g c s n : Nat} {w w' : spW} {D : pmC} {F : spF} {nc na : Nat} {fa fd : Nat → Nat} {A : Nat → Option Nat} {oh : Option Nat} {l l0 : spL} {v : Int32} {p q : Nat → Prop} {as : List spL}
/-- where a command of the shell's own is done -/
def LK (h : mxH) (A : Nat → Option Nat) (g x : Nat) (D : pmC) (nc na : Nat) (fa fd : Nat → Nat) (s n : Nat) (w : spW) (F : spF) : Prop := AC h g x D nc na fa fd F ∧ (x = 146 ∨ 365 ≤ x) ∧ WC h A s w ∧ CU h n ∧ CH h A x (fH F)
/-- ... and its end -/
def OpE (D : pmC) (A : Nat → Option Nat) (x s n : Nat) (h : mxH) (q : Int32 × spW × spF) (r : mxRes) (h1 : mxH) : Prop := r = .inl (some (.int q.1)) ∧ LC A x h h1 ∧ WC h1 A s q.2.1 ∧ CF D (CLn h1) h1 x q.2.2 ∧ CU h1 n ∧ ∀ v l, CLn h v l → CLn h1 v l
theorem opTrap_w : (opTrap as w F).2.1 = w := by
  unfold opTrap
  split
  · rfl
  · split <;> rfl
theorem opSet_w : (opSet as w F).2.1 = w := by
  unfold opSet
  split <;> rfl
theorem CU.mono {n' : Nat} (c : CU h n) (hn : n ≤ n') : CU h n' := by
  obtain ⟨c1, i, c2, c3, c4, c5, c6, c7, l, c8, c9⟩ := c
  exact ⟨c1, i, c2, c3, c4, c5, c6, c7, l, by omega, c9⟩
theorem nn_tx (c : WC h A s w) (o : Nat) (ho : A o ≠ none) : ¬ (o = 283 ∨ o = 284) := by
  rintro (rfl | rfl)
  · exact c.2.2.2.nn (sc_ne5b c.1 (by decide)) ho
  · exact c.2.2.2.nn (sc_ne5b c.1 (by decide)) ho
theorem tx_LC (b : Nat) (hb : b = 283 ∨ b = 284) : pLC A x b := Or.inr (Or.inr (Or.inr (Or.inl (by omega))))
theorem o_trap (hd : 4 ≤ d) (k : LK h A g x D nc na fa fd s n w F) (sg : SGN h) (hc : c < nc) : mx_SM mY_X1_trap d [.ref 283, .ref g, .ref x, .int (nI c)] h (OpE D A x s n h (opTrap ((kAr D c).map (evA F)) w F)) := by
  refine (k_X1_trap (w := w) hd k.1 sg hc).mono ?_
  rintro r h1 ⟨rfl, e, cf⟩
  obtain ⟨a, hx, cw, cu, ch⟩ := k
  have hxt := a.2.2.1
  have eq : CLn h1 = CLn h := CLn_cg (fun b g1 g2 => e.2.2.2.2.2.2.1 b (fun c => by omega))
  refine ⟨rfl, LC.ofL e (fun b hb => tx_LC b hb) (fun b hb => Or.inr (Or.inr (Or.inr hb))) (nn_tx cw) (fun k _ => by rw [e.2.2.2.2.2.2.1 x (fun c => by omega)]), ?_, by rw [eq]; exact cf, CU_cg cu (fun b g1 g2 => e.2.2.2.2.2.2.1 b (fun c => by omega)), fun v l c => by rw [eq]; exact c⟩
  rw [opTrap_w]
  exact cw.cgL e (fun b hb c => by
    rcases hb with hb | hb
    · omega
    · exact nn_tx cw b hb c) (by omega)
theorem o_set (hd : 4 ≤ d) (k : LK h A g x D nc na fa fd s n w F) (hc : c < nc) : mx_SM mY_X1_set d [.ref 283, .ref g, .ref x, .int (nI c)] h (OpE D A x s n h (opSet ((kAr D c).map (evA F)) w F)) := by
  refine (k_X1_set (w := w) hd k.1 hc).mono ?_
  rintro r h1 ⟨rfl, e, e4, cf⟩
  obtain ⟨a, hx, cw, cu, ch⟩ := k
  have nx := (sb_ne5 a.2.1).1
  have eq : CLn h1 = CLn h := CLn_cg (fun b g1 g2 => e.2.2.2.2.2.2.2 b (fun c => by omega))
  have nn : ∀ o, A o ≠ none → ¬ ((o = 283 ∨ o = 284) ∨ o = x) := fun o ho c => by
    rcases c with c | rfl
    · exact nn_tx cw o ho c
    · exact cw.2.2.2.nn nx ho
  refine ⟨rfl, LC.ofL (e.toL (q := fun _ => False)) (fun b hb => ?_) (fun b hb => hb.elim) nn (fun k hk => e4 k (by omega)), ?_, by rw [eq]; exact cf, CU_cg cu (fun b g1 g2 => e.2.2.2.2.2.2.2 b (fun c => by omega)), fun v l c => by rw [eq]; exact c⟩
  · rcases hb with hb | hb
    · exact tx_LC b hb
    · exact Or.inr (Or.inr (Or.inr (Or.inr (Or.inl hb))))
  · rw [opSet_w]
    exact cw.cgL (e.toL (q := fun _ => False)) (fun b hb c => by
      rcases hb with hb | hb
      · omega
      · exact nn b hb c) (fun c => c)
theorem CF.mkd (cf : CF D (CLn h) h x F) (m : MkD h h1 n v l) (hx : x = 146 ∨ 365 ≤ x) : CF D (CLn h1) h1 x F :=
  cf.cg (fun i hi => m.1.2.2.2.2.2.2.2 (x + i) (fun c => by have := c.1; have := c.2; omega)) (fun i hi => by rw [m.1.2.2.2.2.2.1]) m.2.2.2
theorem WC.tbp {N : Nat} {k : Int64} (cw : WC h A s w) (sx : SB h x) (hx : x = 146 ∨ 365 ≤ x) : WC (tb_put h (x + 1) (x + 2) (x + 3) N k v) A s w ∧ CLn (tb_put h (x + 1) (x + 2) (x + 3) N k v) = CLn h ∧ ∀ n, CU h n → CU (tb_put h (x + 1) (x + 2) (x + 3) N k v) n := by
  have e : ExL (fun b => b = x + 1 ∨ b = x + 3) (fun b => b = x + 2) h (tb_put h (x + 1) (x + 2) (x + 3) N k v) := tb_put_ex
  obtain ⟨-, n1, -, n3, -⟩ := sb_ne5 sx
  refine ⟨cw.cgL e (fun b hb c => ?_) (fun c => by omega), CLn_cg (fun b g1 g2 => e.2.2.2.2.2.2.1 b (fun c => by omega)), fun n cu => CU_cg cu (fun b g1 g2 => e.2.2.2.2.2.2.1 b (fun c => by omega))⟩
  rcases hb with hb | hb
  · omega
  · rcases c with rfl | rfl
    · exact cw.2.2.2.nn n1 hb
    · exact cw.2.2.2.nn n3 hb
theorem CU_tx (cu : CU h n) (e : ExI pTX h h1) : CU h1 n := CU_cg cu (fun b g1 g2 => e.2.2.2.2.2.2.2 b (fun c => by rcases c with c | c <;> omega))
theorem CLn_tx (e : ExI pTX h h1) : CLn h1 = CLn h := CLn_cg (fun b g1 g2 => e.2.2.2.2.2.2.2 b (fun c => by rcases c with c | c <;> omega))
theorem o_assign (hd : 4 ≤ d) (k : LK h A g x D nc na fa fd s n w F) (hc : c < nc) (hn : n < 3199) : mx_SM mY_X1_assign d [.ref 283, .ref g, .ref x, .int (nI c)] h (OpE D A x s (n + 1) h (opAsgn (kNm D c) (((kAr D c).map (evA F)).getD 0 []) w F)) := by
  obtain ⟨a, hx, cw, cu, ch⟩ := k
  refine (k_X1_assign hd a hx hc cu hn).mono ?_
  rintro r h1 ⟨hA, hB, v, eA, mk, en⟩
  have aA := a.ex eA
  have wA := cw.tx eA
  have wB := wA.mkd mk
  have l0 := (LC.ofT eA cw a.2.2.1).tr (LC.ofM mk wA hx)
  have ln : ∀ v l, CLn h v l → CLn hB v l := fun v l c => mk.2.2.2 v l (by rw [CLn_tx eA]; exact c)
  rcases en with ⟨ea, rfl, rfl⟩ | ⟨F1, ea, rfl, rfl, cf⟩
  · have eo : opAsgn (kNm D c) (((kAr D c).map (evA F)).getD 0 []) w F = (1, uM w (wM w + 1), F) := by unfold opAsgn; rw [ea]
    rw [eo]
    exact ⟨rfl, l0, wB, aA.2.2.2.2.2.1.mkd mk hx, mk.2.1, ln⟩
  · have eo : opAsgn (kNm D c) (((kAr D c).map (evA F)).getD 0 []) w F = (0, uM w (wM w + 1), F1) := by unfold opAsgn; rw [ea]
    rw [eo]
    have sB := aA.2.1.fp mk.1.fp
    obtain ⟨t1, t2, t3⟩ := wB.tbp (N := (fV F).length) (k := kNm D c) (v := v) sB hx
    exact ⟨rfl, l0.tr (LC.ofP sB wB hx), t1, by rw [t2]; exact cf, t3 _ mk.2.1, fun v l c => by rw [t2]; exact ln v l c⟩
/-- reading and writing leave the lines, the shell -/
theorem FrR.cells (f : FrR A h h1) (c : WC h A s w) (sx : SB h x) (hx : x = 146 ∨ 365 ≤ x) : (∀ b, 131 ≤ b → b ≤ 134 → hpI h1 b = hpI h b) ∧ ∀ i, (i = 0 ∨ i = 1 ∨ i = 3 ∨ i = 4 ∨ i = 6) → hpI h1 (x + i) = hpI h (x + i) := by
  obtain ⟨n0, n1, n2, n3, n4, n6⟩ := sb_ne5 sx
  refine ⟨fun b g1 g2 => f.1.2.2.2.2.2.2.2 b ?_, fun i hi => f.1.2.2.2.2.2.2.2 (x + i) ?_⟩
  · rintro (hb | hb | hb | hb)
    · omega
    · omega
    · have := hb.1; omega
    · rcases Nat.eq_or_lt_of_le g1 with e | e
      · exact c.2.2.2.nn (sc_ne5b c.1 (by omega)) hb
      · exact c.2.2.2.nn (sc_ne5 c.1 (by omega)) hb
  · rintro (hb | hb | hb | hb)
    · omega
    · omega
    · have := hb.1; have := hb.2; omega
    · rcases hi with rfl | rfl | rfl | rfl | rfl
      · exact c.2.2.2.nn n0 hb
      · exact c.2.2.2.nn n1 hb
      · exact c.2.2.2.nn n3 hb
      · exact c.2.2.2.nn n4 hb
      · exact c.2.2.2.nn n6 hb
theorem FrR.more (f : FrR A h h1) (c : WC h A s w) (sx : SB h x) (hx : x = 146 ∨ 365 ≤ x) (cf : CF D (CLn h) h x F) : CLn h1 = CLn h ∧ CF D (CLn h1) h1 x F ∧ ∀ n, CU h n → CU h1 n := by
  obtain ⟨c1, c2⟩ := f.cells c sx hx
  have eq : CLn h1 = CLn h := CLn_cg (fun b g1 g2 => c1 b (by omega) g2)
  exact ⟨eq, cf.cg c2 (fun i hi => by rw [f.1.2.2.2.2.2.1]) (fun v l q => by rw [eq]; exact q), fun n cu => CU_cg cu c1⟩
theorem o_echo (hd : 4 ≤ d) (k : LK h A g x D nc na fa fd s n w F) (hc : c < nc) (hn : n < 3199) (room : totU w < 12040) : mx_SM mY_X1_echo d [.ref 283, .ref g, .ref x, .int (nI c)] h (OpE D A x s (n + 1) h (opEcho ((kAr D c).map (evA F)) w F)) := by
  obtain ⟨a, hx, cw, cu, ch⟩ := k
  refine (k_X1_echo (w := uM w (wM w + 1)) (oh := fH F 1) hd a hc cw (ch 1 (by decide)) cu hn room).mono ?_
  rintro r h1 ⟨hA, hB, v, eA, mk, rfl, wC, fr⟩
  have aA := a.ex eA
  have wA := cw.tx eA
  have wB := wA.mkd mk
  have sB := aA.2.1.fp mk.1.fp
  obtain ⟨m1, m2, m3⟩ := fr.more wB sB hx (aA.2.2.2.2.2.1.mkd mk hx)
  exact ⟨rfl, ((LC.ofT eA cw a.2.2.1).tr (LC.ofM mk wA hx)).tr (LC.ofR fr wB sB hx), wC, m2, m3 _ mk.2.1, fun v l c => by rw [m1]; exact mk.2.2.2 v l (by rw [CLn_tx eA]; exact c)⟩
end MXOP
