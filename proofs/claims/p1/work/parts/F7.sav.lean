/-! Machine.saveHandles, setBackHandles -/
section MXSV
variable {C : cC} {h h1 h2 : mxH} {s s' d t k sl o v : Nat} {w w' : spW} {A A' A2 : Nat → Option Nat} {G : List cE} {T : List cT} {Ks : List spH} {P : cP} {cur : Option Nat} {pl rn : Int32} {XL FS VS OS inh inh' RS RS' : List Nat} {D : pmC} {e : cE} {x : Nat} {fh hs : spH} {F F' : spF} {en en' : Bool} {jb : List spJ} {js : List Nat} {l : List spH} {y : cT}
theorem rcnt_perm {R : Nat → Nat → Option Nat} {o : Nat} {l l' : List Nat} (p : l.Perm l') : rcnt R o l = rcnt R o l' := by
  induction p with
  | nil => rfl
  | cons a _ ih => show hcnt (R a) o 10 + rcnt R o _ = hcnt (R a) o 10 + rcnt R o _; rw [ih]
  | swap a b l => show hcnt (R b) o 10 + (hcnt (R a) o 10 + rcnt R o l) = hcnt (R a) o 10 + (hcnt (R b) o 10 + rcnt R o l); omega
  | trans _ _ i1 i2 => exact i1.trans i2
theorem OI.perm (q : OI h RS inh) (p : RS.Perm RS') : OI h RS' inh := by
  obtain ⟨q1, q2, q3, q4, q5, fl, q6, q7, q8⟩ := q
  exact ⟨p.nodup_iff.mp q1, by rw [← p.length_eq]; exact q2, fun a ha => q3 a (p.mem_iff.mpr ha), fun o ho => by rw [← rcnt_perm p]; exact q4 o ho, fun o ho => by rw [← rcnt_perm p]; exact q5 o ho, fl, q6, q7, fun o => by rw [← rcnt_perm p]; exact q8 o⟩
theorem hcnt_none {f : Nat → Option Nat} {o : Nat} : ∀ n, (∀ k, k < n → f k = none) → hcnt f o n = 0
  | 0, _ => rfl
  | n + 1, e => by
    show hcnt f o n + (if f n = some o then 1 else 0) = 0
    rw [hcnt_none n (fun k hk => e k (by omega)), e n (by omega), if_neg (fun c => nomatch c)]
/-- one more row of handles, which holds nothing -/
theorem CO.cg4b (c : CO h A w) (fp : FP h h1) (eI : ∀ o, mx_kd h o 5 → hpI h1 o = hpI h o) : CO h1 A w := by
  refine ⟨fun o a ho => ?_, c.2⟩
  obtain ⟨k, q, q1⟩ := c.1 o a ho
  refine ⟨fp.kd k, q, ?_⟩
  rw [eI o k]; exact q1
theorem OI.grow {a : Nat} (q : OI h RS inh) (fp : FP h h1) (k5 : ∀ o, mx_kd h1 o 5 ↔ mx_kd h o 5) (ha : a ∉ RS) (hl : RS.length + 1 < 1000000) (ka : mx_kd h1 a 18) (za : hpZ h1 a = 10) (ra : ∀ k, k < 10 → hpR h1 a k = none) (eR : ∀ b ∈ RS, ∀ k, k < 10 → hpR h1 b k = hpR h b k) (eO : ∀ o, mx_kd h o 5 → hpI h1 o 4 = hpI h o 4 ∧ hpR h1 o 5 = hpR h o 5) (e3 : hpR h1 135 0 = hpR h 135 0) : OI h1 (a :: RS) inh := by
  obtain ⟨q1, q2, q3, q4, q5, fl, q6, q7, q8⟩ := q
  have rc : ∀ o, rcnt (hpR h1) o (a :: RS) = rcnt (hpR h) o RS := fun o => by
    show hcnt (hpR h1 a) o 10 + rcnt (hpR h1) o RS = _
    rw [hcnt_none 10 ra, Nat.zero_add]
    exact rcnt_congr RS eR
  refine ⟨List.nodup_cons.mpr ⟨ha, q1⟩, by rw [List.length_cons]; exact hl, fun b hb => ?_, fun o ho => ?_, fun o ho => ?_, fl, ?_, q7, fun o => ?_⟩
  · rcases List.mem_cons.mp hb with rfl | hb
    · exact ⟨ka, za, fun k hk o e => by rw [ra k hk] at e; exact nomatch e⟩
    · obtain ⟨c1, c2, c3⟩ := q3 b hb
      exact ⟨fp.kd c1, by rw [(fp.2 b c1.1).2.1]; exact c2, fun k hk o e => (k5 o).mpr (c3 k hk o (by rw [← eR b hb k hk]; exact e))⟩
  · rw [rc, (eO o ((k5 o).mp ho)).1]
    exact q4 o ((k5 o).mp ho)
  · rw [rc]
    exact ⟨(k5 o).mpr (q5 o ho).1, (q5 o ho).2⟩
  · rw [e3]
    have : ∀ (fl : List Nat) (r : Option Nat), (∀ o ∈ fl, hpR h1 o 5 = hpR h o 5) → FLc (hpR h) r fl → FLc (hpR h1) r fl := by
      intro fl
      induction fl with
      | nil => intro r _ c; exact c
      | cons o fl ih => intro r e c; exact ⟨c.1, by rw [e o List.mem_cons_self]; exact ih _ (fun b hb => e b (List.mem_cons_of_mem _ hb)) c.2⟩
    exact this fl _ (fun o ho => (eO o ((q8 o).mp ho).1).2) q6
  · rw [rc, k5]
    exact q8 o
theorem CV.push (c : CV h A VS l) (e : VS[l.length]? = some v) (hr : ∀ k, k < 10 → RHc A (hpR h (v + 1) k) (hs k)) : CV h A VS (hs :: l) := by
  obtain ⟨c1, c2, c3, c4, c5⟩ := c
  have lt := (List.getElem?_eq_some_iff.mp e).1
  refine ⟨c1, c2, by rw [List.length_cons]; exact lt, c4, fun i hi => ?_⟩
  rcases i with _ | i
  · exact ⟨v, by rw [show (hs :: l).length - 1 - 0 = l.length from rfl]; exact e, hr⟩
  · rw [List.length_cons] at hi
    obtain ⟨u, e1, e2⟩ := c5 i (by omega)
    exact ⟨u, by rw [show (hs :: l).length - 1 - (i + 1) = l.length - 1 - i by rw [List.length_cons]; omega]; exact e1, e2⟩
theorem CV.pop (c : CV h A VS (hs :: l)) : CV h A VS l ∧ ∃ v, VS[l.length]? = some v ∧ ∀ k, k < 10 → RHc A (hpR h (v + 1) k) (hs k) := by
  obtain ⟨c1, c2, c3, c4, c5⟩ := c
  rw [List.length_cons] at c3
  refine ⟨⟨c1, c2, by omega, c4, fun i hi => ?_⟩, ?_⟩
  · obtain ⟨u, e1, e2⟩ := c5 (i + 1) (by rw [List.length_cons]; omega)
    rw [show (hs :: l).length - 1 - (i + 1) = l.length - 1 - i by rw [List.length_cons]; omega] at e1
    exact ⟨u, e1, e2⟩
  · obtain ⟨u, e1, e2⟩ := c5 0 (by rw [List.length_cons]; omega)
    exact ⟨u, e1, e2⟩
theorem CG.newV (g : CG C h s w A G T Ks P cur pl rn XL FS VS OS inh) (h3 : VS.length < 300) (hv : v = hpN h) (eN : hpN h1 = hpN h + 2) (eC : hpC h1 = hpC h + 2) (eS : hpS h1 = hpS h + 12) (eK : ∀ b, b < v → hpK h1 b = hpK h b ∧ hpZ h1 b = hpZ h b ∧ hpI h1 b = hpI h b ∧ hpL h1 b = hpL h b) (eR : ∀ b, b < v → b ≠ 286 → hpR h1 b = hpR h b) (e286 : hpR h1 286 = fup (hpR h 286) VS.length (some v)) (hd : hd_at h1 v 135 (v + 1)) (hr : ∀ k, hpR h1 (v + 1) k = none) : CG C h1 s w A G T Ks P cur pl rn XL FS (VS ++ [v]) OS inh := by
  obtain ⟨k0, fc, ⟨w1, w2, w3, w4⟩, oi, cu0, cgs, cgp, ⟨g1, g2, g3, g4, g5, g6, g7, g8⟩, cgr, cgq, ⟨n1, n2, n3, n4, n5, n6, n7⟩⟩ := g
  have so : ∀ e ∈ G, SB h e.1 ∧ (e.1 = 146 ∨ 365 ≤ e.1) := fun e he => cgs.at he
  obtain ⟨s1, s2, s3, s4, s5, s6⟩ := cgs
  have N := w1.1
  have k286 := sc_k286 w1
  have fp : FP h h1 := ⟨by omega, fun a ha => ⟨(eK a (by omega)).1, (eK a (by omega)).2.1, fun k hk => by
    rw [eR a (by omega) (fun c => by rw [c, k286] at hk; exact absurd hk List.not_mem_nil)]⟩⟩
  have k5 : ∀ o, mx_kd h1 o 5 ↔ mx_kd h o 5 := fun o => by
    constructor
    · rintro ⟨c1, c2⟩
      have lt : o < v := by
        rcases Nat.lt_or_ge o v with c | c
        · exact c
        · have : o = v ∨ o = v + 1 := by omega
          rcases this with rfl | rfl
          · rw [hd.1] at c2; exact absurd c2 (by decide)
          · rw [hd.2.2.2.2.1] at c2; exact absurd c2 (by decide)
      exact ⟨by omega, by rw [← (eK o lt).1]; exact c2⟩
    · exact fun c => fp.kd c
  have rI : ∀ b, b < v → hpI h1 b = hpI h b := fun b hb => (eK b hb).2.2.1
  have rL : ∀ b, b < v → hpL h1 b = hpL h b := fun b hb => (eK b hb).2.2.2
  have el : CLn h1 = CLn h := CLn_cg (fun b q1 q2 => rI b (by omega))
  have mV : ∀ y ∈ VS, y + 1 ∈ cRS XL VS := fun y hy => by unfold cRS; simp; exact Or.inr (Or.inr (Or.inr hy))
  have mP : ∀ y ∈ pastX, y + 9 ∈ cRS XL VS := fun y hy => by unfold cRS; simp; exact Or.inr (Or.inr (Or.inl hy))
  have rlt : ∀ sl ∈ cRS XL VS, sl < v ∧ sl ≠ 286 := fun sl hs => by
    have q := (oi.2.2.1 sl hs).1
    refine ⟨by have := q.1; omega, fun c => ?_⟩
    have := q.2
    rw [c, k286] at this
    exact absurd this (by decide)
  have rows : ∀ sl ∈ cRS XL VS, ∀ k, k < 10 → hpR h1 sl k = hpR h sl k := fun sl hs k _ => by rw [eR sl (rlt sl hs).1 (rlt sl hs).2]
  have vN : v ∉ VS := fun m => by have := (rlt (v + 1) (mV v m)).1; omega
  have lRS : (cRS XL VS).length = XL.length + 7 + VS.length := by
    unfold cRS
    rw [List.length_append, List.length_cons, List.length_append, List.length_map, List.length_map, List.length_map]
    show XL.length + (6 + VS.length + 1) = _
    omega
  have pm : ((v + 1) :: cRS XL VS).Perm (cRS XL (VS ++ [v])) := by
    have : cRS XL (VS ++ [v]) = cRS XL VS ++ [v + 1] := by unfold cRS; simp
    rw [this]
    exact (List.perm_append_singleton (v + 1) (cRS XL VS)).symm
  refine ⟨k0, fc.tr k0.2.1 fp fun a ha => ?_, ⟨w1.fp fp, ?_, ?_, w4.cg4b fp (fun o ho => rI o (by have := ho.1; omega))⟩, OI.perm (oi.grow fp k5 (fun m => by have := (rlt _ m).1; omega) (by omega) ⟨by omega, hd.2.2.2.2.1⟩ hd.2.2.2.2.2 (fun k _ => hr k) rows (fun o ho => ⟨by rw [rI o (by have := ho.1; omega)], by rw [eR o (by have := ho.1; omega) (fun c => by have := ho.2; rw [c, k286] at this; exact absurd this (by decide))]⟩) (by rw [eR 135 (by omega) (by decide)])) pm, CU_cg cu0 (fun b q1 q2 => rI b (by omega)), ⟨fun e he => ?_, s2, s3, s4, fun y hy => ⟨(s5 y hy).1.fp fp, (s5 y hy).2⟩, ?_⟩, fun e he => ?_, ⟨?_, ?_, g3, ?_, ?_, ?_, ?_, fun k hk => ?_⟩, ?_, ⟨fun y hy k hk => ?_, fun v l q => by rw [el]; exact cgq.2 v l q⟩, ?_⟩
  · have cin := cst_in ha
    exact ⟨rI a (by omega), rL a (by omega), fun _ => eR a (by omega) (by omega)⟩
  · show CW (CLn h1) (hpI h1 140) (hpI h1 (140 + 2)) (hpI h1 (140 + 3)) (hpI h1 (140 + 4)) (hpI h1 (140 + 5)) (hpI h1 (140 + 19)) (hpL h1 (140 + 1)) s w
    rw [el, rL (140 + 1) (by omega), rI 140 (by omega), rI (140 + 2) (by omega), rI (140 + 3) (by omega), rI (140 + 4) (by omega), rI (140 + 5) (by omega), rI (140 + 19) (by omega)]
    exact w2
  · show CP (CLn h1) (hpI h1 135) (hpI h1 136) (hpI h1 137) (hpI h1 138) (hpI h1 139) w
    rw [el, rI 135 (by omega), rI 136 (by omega), rI 137 (by omega), rI 138 (by omega), rI 139 (by omega)]
    exact w3
  · obtain ⟨sy, hy⟩ := so e he
    have zn := sy.1
    exact (s1 e he).cg fp (fun j hj => rI _ (by omega)) (fun j hj => rL _ (by omega)) (fun j hj _ k _ => by rw [eR _ (by omega) (by omega)]) (fun _ _ c => c) (fun v l c => by rw [el]; exact c)
  · rw [eR 282 (by omega) (by decide)]
    refine s6.cg (fun y hy => ?_)
    have sy := s5 y ((s3 y).mpr (List.mem_append_right _ hy))
    rw [eR y (by have := sy.1.1; omega) (by omega)]
  · obtain ⟨sy, hy⟩ := so e he
    have c := cgp e he
    rw [eR e.1 (by have := sy.1; omega) (by omega), rI e.1 (by have := sy.1; omega)]
    exact c
  · rw [rI 285 (by omega)]; exact g1
  · rw [rI 282 (by omega)]; exact g2
  · obtain ⟨c1, c2, c3, c4, c5⟩ := g4
    have L1 : (VS ++ [v]).length = VS.length + 1 := by rw [List.length_append]; rfl
    refine ⟨fun i hi => ?_, fun i q1 q2 => ?_, by omega, by omega, fun i hi => ?_⟩
    · rw [e286]
      by_cases c : i < VS.length
      · rw [List.getElem_append_left c, fup_n (by omega)]
        obtain ⟨h1', h2', h3', h4', h5', h6', h7'⟩ := c1 i c
        have mi := mV _ (List.getElem_mem c)
        have l1 := (rlt _ mi).1
        refine ⟨h1', ?_⟩
        unfold hd_at
        rw [(eK VS[i] (by omega)).1, (eK (VS[i] + 1) (by omega)).1, (eK (VS[i] + 1) (by omega)).2.1, (eK 135 (by omega)).1, eR VS[i] (by omega) (fun c => by rw [c, k286] at h2'; exact absurd h2' (by decide))]
        exact ⟨h2', h3', h4', h5', h6', h7'⟩
      · have ei : i = VS.length := by omega
        subst ei
        rw [fup_e, List.getElem_append_right (Nat.le_refl _)]
        simp only [Nat.sub_self, List.getElem_cons_zero]
        exact ⟨trivial, hd⟩
    · rw [e286, fup_n (by omega)]
      exact c2 i (by omega) q2
    · obtain ⟨u, e1, e2⟩ := c5 i hi
      refine ⟨u, by rw [List.getElem?_append_left (List.getElem?_eq_some_iff.mp e1).1]; exact e1, fun k hk => ?_⟩
      rw [rows (u + 1) (mV u (List.mem_of_getElem? e1)) k hk]
      exact e2 k hk
  · rw [rI 282 (by omega)]; exact g5
  · intro u hu
    rcases List.mem_append.mp hu with c | c
    · exact g6 u c
    · rw [List.mem_singleton.mp c]; omega
  · exact List.nodup_append.mpr ⟨g7, List.nodup_cons.mpr ⟨List.not_mem_nil, List.nodup_nil⟩, fun a ha b hb e => vN (by rw [← List.mem_singleton.mp hb, ← e]; exact ha)⟩
  · rw [rows 288 (by unfold cRS; simp) k hk]
    exact g8 k hk
  · unfold CGr at cgr ⊢
    rw [rI 282 (by omega), eR 282 (by omega) (by decide)]
    exact cgr
  · rw [rows (y + 9) (mP y hy) k hk]
    refine ⟨(cgq.1 y hy k hk).1, fun o ho => ?_⟩
    have q := (cgq.1 y hy k hk).2 o ho
    have lt := ((oi.2.2.1 (y + 9) (mP y hy)).2.2 k hk o ho).1
    exact ⟨q.1, fun c hc => by rw [rI o (by omega)]; exact q.2 c hc⟩
  · have L1 : (VS ++ [v]).length = VS.length + 1 := by rw [List.length_append]; rfl
    have L2 : (cRS XL (VS ++ [v])).length = (cRS XL VS).length + 1 := by rw [← pm.length_eq]; rfl
    exact ⟨n1, fun o => by rw [k5]; exact n2 o, by omega, n4, by omega, by omega, by omega⟩
end MXSV
