/-! THE CLASS'S OPEN FILES: rows copied and closed, an open file made -/
section MXOM
variable {h h' : mxH} {RS inh : List Nat} {sl sl2 i d : Nat} {new : Option Nat}
theorem inh_same (q : OI h RS inh) (hn : ∀ b, new = some b → rcnt (hpR h) b RS ≠ 0) : inh.filter (fun o => decide (new ≠ some o)) = inh := by
  rw [List.filter_eq_self]
  intro o ho
  refine decide_eq_true fun e => hn o e (q.2.2.2.2.1 o ho).2
theorem OI.n135 (q : OI h RS inh) : RS.length < 1000000 := q.2.1
theorem oi_copy (hne : sl ≠ sl2) (hs : sl ∈ RS) (hs2 : sl2 ∈ RS) : ∀ m i (h : mxH), i + m = 10 → OI h RS inh → hpK h 135 = 0 →
    OI (hd_copy 135 sl sl2 m i h) RS inh ∧ FrO h (hd_copy 135 sl sl2 m i h) ∧ ∀ a ∈ RS, ∀ k, k < 10 → hpR (hd_copy 135 sl sl2 m i h) a k = if a = sl ∧ i ≤ k then hpR h sl2 k else hpR h a k := by
  intro m
  induction m with
  | zero =>
    intro i h hi q _
    exact ⟨q, FrO.rf, fun a _ k hk => by rw [if_neg (fun e => by omega)]; rfl⟩
  | succ m ih =>
    intro i h hi q hc
    have hi10 : i < 10 := by omega
    have pos : ∀ b, hpR h sl2 i = some b → rcnt (hpR h) b RS ≠ 0 := fun b e => by
      have := rcnt_pos RS hs2 hi10 e
      omega
    obtain ⟨q1, f1, r1⟩ := q.put (new := hpR h sl2 i) hc hs hi10 (fun b e => (q.2.2.1 sl2 hs2).2.2 i hi10 b e) (fun b e => Or.inl (pos b e))
    rw [inh_same q pos] at q1
    obtain ⟨q2, f2, r2⟩ := ih (i + 1) (hd_put h 135 sl i (hpR h sl2 i)) (by omega) q1 (by rw [f1.2.2.2.1]; exact hc)
    refine ⟨q2, f1.tr f2, fun a ha k hk => ?_⟩
    show hpR (hd_copy 135 sl sl2 m (i + 1) (hd_put h 135 sl i (hpR h sl2 i))) a k = _
    have e2 : hpR (hd_put h 135 sl i (hpR h sl2 i)) sl2 k = hpR h sl2 k := (r1 sl2 hs2 k hk).trans (if_neg fun e => hne e.1.symm)
    rw [r2 a ha k hk]
    by_cases c : a = sl
    · by_cases c2 : i + 1 ≤ k
      · rw [if_pos ⟨c, c2⟩, if_pos ⟨c, by omega⟩]; exact e2
      · rw [if_neg (fun e => c2 e.2), r1 a ha k hk]
        by_cases c3 : k = i
        · rw [if_pos ⟨c, c3⟩, if_pos ⟨c, by omega⟩, c3]
        · rw [if_neg (fun e => c3 e.2), if_neg (fun e => absurd e.2 (by omega))]
    · rw [if_neg (fun e => c e.1), r1 a ha k hk, if_neg (fun e => c e.1), if_neg (fun e => c e.1)]
theorem oi_close (hs : sl ∈ RS) : ∀ m i (h : mxH), i + m = 10 → OI h RS inh → hpK h 135 = 0 →
    OI (hd_close 135 sl m i h) RS inh ∧ FrO h (hd_close 135 sl m i h) ∧ ∀ a ∈ RS, ∀ k, k < 10 → hpR (hd_close 135 sl m i h) a k = if a = sl ∧ i ≤ k then none else hpR h a k := by
  intro m
  induction m with
  | zero =>
    intro i h hi q _
    exact ⟨q, FrO.rf, fun a _ k hk => by rw [if_neg (fun e => by omega)]; rfl⟩
  | succ m ih =>
    intro i h hi q hc
    have hi10 : i < 10 := by omega
    obtain ⟨q1, f1, r1⟩ := q.put (new := none) hc hs hi10 (fun b e => by cases e) (fun b e => by cases e)
    rw [inh_same q (fun b e => by cases e)] at q1
    obtain ⟨q2, f2, r2⟩ := ih (i + 1) (hd_put h 135 sl i none) (by omega) q1 (by rw [f1.2.2.2.1]; exact hc)
    refine ⟨q2, f1.tr f2, fun a ha k hk => ?_⟩
    show hpR (hd_close 135 sl m (i + 1) (hd_put h 135 sl i none)) a k = _
    rw [r2 a ha k hk]
    by_cases c : a = sl
    · by_cases c2 : i + 1 ≤ k
      · rw [if_pos ⟨c, c2⟩, if_pos ⟨c, by omega⟩]
      · rw [if_neg (fun e => c2 e.2), r1 a ha k hk]
        by_cases c3 : k = i
        · rw [if_pos ⟨c, c3⟩, if_pos ⟨c, by omega⟩]
        · rw [if_neg (fun e => c3 e.2), if_neg (fun e => absurd e.2 (by omega))]
    · rw [if_neg (fun e => c e.1), r1 a ha k hk, if_neg (fun e => c e.1), if_neg (fun e => c e.1)]
theorem OI.row (q : OI h RS inh) (hs : sl ∈ RS) : hd_row h sl := fun j hj b e => ((q.2.2.1 sl hs).2.2 j hj b e).2
/-- Handles.copyFrom, closeAll, put, at over sound rows -/
theorem c_X2_copyFrom (hd : 1 ≤ d) {x x2 : Nat} (q : OI h RS inh) (hx : hd_at h x 135 sl) (hx2 : hd_at h x2 135 sl2) (hne : sl ≠ sl2) (hs : sl ∈ RS) (hs2 : sl2 ∈ RS) : mx_SM mY_X2_copyFrom d [.ref x, .ref x2] h (mx_KV (fun h1 => OI h1 RS inh ∧ FrO h h1 ∧ ∀ a ∈ RS, ∀ k, k < 10 → hpR h1 a k = if a = sl then hpR h sl2 k else hpR h a k) fun _ _ => False) := by
  obtain ⟨q1, q2, q3⟩ := oi_copy hne hs hs2 10 0 h rfl q hx.2.2.2.1
  refine mx_xKV (k_X2_copyFrom hd hx (q.row hs) hx2 (q.row hs2)) ⟨q1, q2, fun a ha k hk => ?_⟩
  rw [q3 a ha k hk]
  by_cases c : a = sl
  · rw [if_pos ⟨c, Nat.zero_le _⟩, if_pos c]
  · rw [if_neg (fun e => c e.1), if_neg c]
theorem c_X2_closeAll (hd : 1 ≤ d) {x : Nat} (q : OI h RS inh) (hx : hd_at h x 135 sl) (hs : sl ∈ RS) : mx_SM mY_X2_closeAll d [.ref x] h (mx_KV (fun h1 => OI h1 RS inh ∧ FrO h h1 ∧ ∀ a ∈ RS, ∀ k, k < 10 → hpR h1 a k = if a = sl then none else hpR h a k) fun _ _ => False) := by
  obtain ⟨q1, q2, q3⟩ := oi_close hs 10 0 h rfl q hx.2.2.2.1
  refine mx_xKV (k_X2_closeAll hd hx (q.row hs)) ⟨q1, q2, fun a ha k hk => ?_⟩
  rw [q3 a ha k hk]
  by_cases c : a = sl
  · rw [if_pos ⟨c, Nat.zero_le _⟩, if_pos c]
  · rw [if_neg (fun e => c e.1), if_neg c]
theorem c_X2_put {x : Nat} (q : OI h RS inh) (hx : hd_at h x 135 sl) (hs : sl ∈ RS) (hi : i < 10) (hn : ∀ b, new = some b → mx_kd h b 5) (hf : ∀ b, new = some b → rcnt (hpR h) b RS ≠ 0 ∨ b ∈ inh) : mx_SM mY_X2_put d [.ref x, .int (nI i), va_rf new] h (mx_KV (fun h1 => OI h1 RS (inh.filter fun o => decide (new ≠ some o)) ∧ FrO h h1 ∧ Rput h h1 RS sl i new) fun _ _ => False) :=
  mx_xKV (k_X2_put hx hi (fun b e => (hn b e).2) (fun b e => ((q.2.2.1 sl hs).2.2 i hi b e).2)) (q.put hx.2.2.2.1 hs hi hn hf)
/-- what is changed when an open file is made -/
def FrN (h h' : mxH) (o : Nat) : Prop := (hpN h' = hpN h ∨ (o = hpN h ∧ hpN h' = hpN h + 1)) ∧ hpC h' + hpN h = hpC h + hpN h' ∧ hpS h' + 6 * hpN h = hpS h + 6 * hpN h' ∧ hpL h' = (if hpN h' = hpN h then hpL h else fup (hpL h) o fun _ => 0) ∧ FP h h' ∧ (∀ a k, a ≠ o → hpI h' a k = hpI h a k) ∧ ∀ a k, a ≠ o → (a ≠ 135 ∨ k ≠ 0) → hpR h' a k = hpR h a k
theorem OI.mk1 (q : OI h RS inh) (hc : mx_kd h 135 0) {kd fl pp ps : Int32} : OI (hd_open h 135 kd fl pp ps) RS (hd_opened h 135 :: inh) ∧ FrN h (hd_open h 135 kd fl pp ps) (hd_opened h 135) ∧ rcnt (hpR h) (hd_opened h 135) RS = 0 ∧ hd_opened h 135 ∉ inh ∧ mx_kd (hd_open h 135 kd fl pp ps) (hd_opened h 135) 5 ∧
    hpI (hd_open h 135 kd fl pp ps) (hd_opened h 135) 0 = kd ∧ hpI (hd_open h 135 kd fl pp ps) (hd_opened h 135) 1 = fl ∧ hpI (hd_open h 135 kd fl pp ps) (hd_opened h 135) 2 = pp ∧ hpI (hd_open h 135 kd fl pp ps) (hd_opened h 135) 3 = ps ∧ (hpN (hd_open h 135 kd fl pp ps) ≠ hpN h → hpR h 135 0 = none) := by
  obtain ⟨q1, q2, q3, q4, q5, fls, q6, q7, q8⟩ := q
  have fI : ∀ (g : mxH) (o a k : Nat), a ≠ o → hpI (hd_fill g o kd fl pp ps) a k = hpI g a k := fun g o a k ha => by
    unfold hd_fill
    rw [hpI_sIn ha, hpI_sIn ha, hpI_sIn ha, hpI_sIn ha, hpI_sIn ha]
    rfl
  have f0 : ∀ (g : mxH) (o : Nat), hpI (hd_fill g o kd fl pp ps) o 0 = kd ∧ hpI (hd_fill g o kd fl pp ps) o 1 = fl ∧ hpI (hd_fill g o kd fl pp ps) o 2 = pp ∧ hpI (hd_fill g o kd fl pp ps) o 3 = ps ∧ hpI (hd_fill g o kd fl pp ps) o 4 = 0 := fun g o => by
    have e : ∀ k, hpI (hd_fill g o kd fl pp ps) o k = if k = 4 then 0 else if k = 3 then ps else if k = 2 then pp else if k = 1 then fl else if k = 0 then kd else hpI g o k := fun k => by
      unfold hd_fill
      rw [hpI_sI, if_pos rfl, hpI_sI, if_pos rfl, hpI_sI, if_pos rfl, hpI_sI, if_pos rfl, hpI_sI, if_pos rfl]
      rfl
    exact ⟨by rw [e]; rfl, by rw [e]; rfl, by rw [e]; rfl, by rw [e]; rfl, by rw [e]; rfl⟩
  have fR : ∀ (g : mxH) (o a k : Nat), hpR (hd_fill g o kd fl pp ps) a k = if a = o ∧ k = 5 then none else hpR g a k := fun g o a k => by
    show hpR (hsR g o 5 none) a k = _
    rw [hpR_sR]
    by_cases c : a = o
    · subst c
      rw [if_pos rfl]
      by_cases c2 : k = 5
      · rw [if_pos c2, if_pos ⟨rfl, c2⟩]
      · rw [if_neg c2, if_neg (fun q => c2 q.2)]
    · rw [if_neg c, if_neg (fun q => c q.1)]
  unfold hd_open hd_opened
  cases e : hpR h 135 0 with
  | none =>
    simp only []
    obtain ⟨g1, g2, g3, g4, g5⟩ := f0 (hnw h 5 0 6) (hpN h)
    obtain ⟨s1, s2, s3, s4, s5, s6⟩ := hd_fill_same (h := hnw h 5 0 6) (o := hpN h) (kd := kd) (fl := fl) (pp := pp) (ps := ps)
    have s1 : hpN (hd_fill (hnw h 5 0 6) (hpN h) kd fl pp ps) = hpN h + 1 := s1
    have s2 : hpC (hd_fill (hnw h 5 0 6) (hpN h) kd fl pp ps) = hpC h + 1 := s2
    have s3 : hpS (hd_fill (hnw h 5 0 6) (hpN h) kd fl pp ps) = hpS h + 6 := s3
    have sK : ∀ a, hpK (hd_fill (hnw h 5 0 6) (hpN h) kd fl pp ps) a = if a = hpN h then 5 else hpK h a := fun a => by rw [s4, hpK_nw]
    have sZ : ∀ a, a ≠ hpN h → hpZ (hd_fill (hnw h 5 0 6) (hpN h) kd fl pp ps) a = hpZ h a := fun a ha => by rw [s5, hpZ_nw, if_neg ha]
    have s6 : hpL (hd_fill (hnw h 5 0 6) (hpN h) kd fl pp ps) = fup (hpL h) (hpN h) fun _ => 0 := s6
    have R0 : ∀ a k, a ≠ hpN h → hpR (hd_fill (hnw h 5 0 6) (hpN h) kd fl pp ps) a k = hpR h a k := fun a k ha => by
      rw [fR, if_neg (fun q => ha q.1), hpR_nw, if_neg ha]
    have I0 : ∀ a k, a ≠ hpN h → hpI (hd_fill (hnw h 5 0 6) (hpN h) kd fl pp ps) a k = hpI h a k := fun a k ha => by
      rw [fI _ _ _ _ ha, hpI_nw, if_neg ha]
    have fp : FP h (hd_fill (hnw h 5 0 6) (hpN h) kd fl pp ps) := by
      refine ⟨by rw [s1]; omega, fun a ha => ⟨?_, sZ a (Nat.ne_of_lt ha), fun k _ => R0 a k (Nat.ne_of_lt ha)⟩⟩
      rw [sK, if_neg (Nat.ne_of_lt ha)]
    generalize hd_fill (hnw h 5 0 6) (hpN h) kd fl pp ps = H at g1 g2 g3 g4 g5 s1 s2 s3 sK sZ s6 R0 I0 fp ⊢
    have ef : fls = [] := by
      cases fls with
      | nil => rfl
      | cons o l =>
        have := q6.1
        rw [e] at this; cases this
    subst ef
    have R : ∀ a, a < hpN h → ∀ k, hpR H a k = hpR h a k := fun a ha k => R0 a k (Nat.ne_of_lt ha)
    have cn : ∀ o, rcnt (hpR H) o RS = rcnt (hpR h) o RS := fun o => rcnt_congr RS fun a ha k _ => R a (q3 a ha).1.1 k
    have nz : ∀ l : List Nat, (∀ a ∈ l, a ∈ RS) → rcnt (hpR h) (hpN h) l = 0 := fun l => by
      induction l with
      | nil => intro _; rfl
      | cons a l ih =>
        intro hl
        have h1 : hcnt (hpR h a) (hpN h) 10 = 0 := by
          have : ∀ n, n ≤ 10 → hcnt (hpR h a) (hpN h) n = 0 := fun n => by
            induction n with
            | zero => intro _; rfl
            | succ n ih2 =>
              intro hn
              unfold hcnt
              rw [ih2 (by omega), if_neg]
              intro e
              have := ((q3 a (hl a List.mem_cons_self)).2.2 n (by omega) _ e).1
              omega
          exact this 10 (Nat.le_refl _)
        unfold rcnt
        rw [h1, ih fun b hb => hl b (List.mem_cons_of_mem _ hb)]
    have kN : ∀ o, mx_kd H o 5 ↔ (mx_kd h o 5 ∨ o = hpN h) := fun o => by
      unfold mx_kd
      rw [s1, sK]
      by_cases c : o = hpN h
      · rw [if_pos c]
        exact ⟨fun _ => Or.inr c, fun _ => ⟨by omega, rfl⟩⟩
      · rw [if_neg c]
        constructor
        · rintro ⟨a, b⟩; exact Or.inl ⟨by omega, b⟩
        · rintro (⟨a, b⟩ | b)
          · exact ⟨by omega, b⟩
          · exact absurd b c
    have ninh : hpN h ∉ inh := fun m => by have := (q5 _ m).1.1; omega
    refine ⟨⟨q1, q2, fun a ha => ?_, fun o ho => ?_, fun o ho => ?_, [], ?_, List.nodup_nil, fun o => ?_⟩, ⟨Or.inr ⟨rfl, s1⟩, by rw [s1, s2]; omega, by rw [s1, s3]; omega, ?_, fp, fun a k ha => I0 a k ha, fun a k ha _ => R0 a k ha⟩, nz RS (fun _ h => h), ninh, (kN _).mpr (Or.inr rfl), g1, g2, g3, g4, fun _ => trivial⟩
    · obtain ⟨a1, a2, a3⟩ := q3 a ha
      refine ⟨fp.kd a1, by rw [sZ a (Nat.ne_of_lt a1.1)]; exact a2, fun k hk o eo => ?_⟩
      rw [R a a1.1] at eo
      exact (kN o).mpr (Or.inl (a3 k hk o eo))
    · rw [cn]
      by_cases c : o = hpN h
      · rw [c, g5, nz RS (fun _ h => h)]; rfl
      · rw [I0 _ _ c]
        exact q4 o (((kN o).mp ho).resolve_right c)
    · rw [cn]
      rcases List.mem_cons.mp ho with c | c
      · subst c; exact ⟨(kN _).mpr (Or.inr rfl), nz RS (fun _ h => h)⟩
      · obtain ⟨a, b⟩ := q5 o c
        exact ⟨(kN o).mpr (Or.inl a), b⟩
    · show hpR H 135 0 = none
      rw [R 135 hc.1]; exact e
    · constructor
      · intro m; exact absurd m List.not_mem_nil
      · rintro ⟨a, b, c⟩
        rw [cn] at b
        rcases (kN o).mp a with a | a
        · exact (q8 o).mpr ⟨a, b, fun m => c (List.mem_cons_of_mem _ m)⟩
        · exact absurd (by rw [a]; exact List.mem_cons_self) c
    · rw [if_neg (by omega)]; exact s6
  | some o =>
    simp only []
    cases fls with
    | nil => have := q6; rw [e] at this; cases this
    | cons o2 rest =>
      obtain ⟨c1, c2⟩ := q6
      rw [e] at c1
      have eo : o2 = o := (Option.some.inj c1).symm
      subst eo
      obtain ⟨ko, zo, io⟩ := (q8 o2).mp List.mem_cons_self
      obtain ⟨n1, n2⟩ := List.nodup_cons.mp q7
      have n135 : o2 ≠ 135 := mx_neK ko.2 hc.2 (by decide)
      obtain ⟨g1, g2, g3, g4, g5⟩ := f0 (hsR h 135 0 (hpR h o2 5)) o2
      have R : ∀ a k, hpR (hd_fill (hsR h 135 0 (hpR h o2 5)) o2 kd fl pp ps) a k = if a = o2 ∧ k = 5 then none else if a = 135 ∧ k = 0 then hpR h o2 5 else hpR h a k := fun a k => by
        rw [fR, hpR_sR]
        by_cases c : a = o2 ∧ k = 5
        · rw [if_pos c, if_pos c]
        · rw [if_neg c, if_neg c]
          by_cases c3 : a = 135
          · subst c3
            rw [if_pos rfl]
            by_cases c4 : k = 0
            · rw [if_pos c4, if_pos ⟨rfl, c4⟩]
            · rw [if_neg c4, if_neg (fun q => c4 q.2)]
          · rw [if_neg c3, if_neg (fun q => c3 q.1)]
      have I0 : ∀ a k, a ≠ o2 → hpI (hd_fill (hsR h 135 0 (hpR h o2 5)) o2 kd fl pp ps) a k = hpI h a k := fun a k ha => by
        rw [fI _ _ _ _ ha]
        rfl
      obtain ⟨s1, s2, s3, s4, s5, s6⟩ := hd_fill_same (h := hsR h 135 0 (hpR h o2 5)) (o := o2) (kd := kd) (fl := fl) (pp := pp) (ps := ps)
      have s1 : hpN (hd_fill (hsR h 135 0 (hpR h o2 5)) o2 kd fl pp ps) = hpN h := s1
      have s2 : hpC (hd_fill (hsR h 135 0 (hpR h o2 5)) o2 kd fl pp ps) = hpC h := s2
      have s3 : hpS (hd_fill (hsR h 135 0 (hpR h o2 5)) o2 kd fl pp ps) = hpS h := s3
      have s4 : hpK (hd_fill (hsR h 135 0 (hpR h o2 5)) o2 kd fl pp ps) = hpK h := s4
      have s5 : hpZ (hd_fill (hsR h 135 0 (hpR h o2 5)) o2 kd fl pp ps) = hpZ h := s5
      have s6 : hpL (hd_fill (hsR h 135 0 (hpR h o2 5)) o2 kd fl pp ps) = hpL h := s6
      generalize hd_fill (hsR h 135 0 (hpR h o2 5)) o2 kd fl pp ps = H at g1 g2 g3 g4 g5 s1 s2 s3 s4 s5 s6 R I0 ⊢
      have kN : ∀ b k, mx_kd H b k ↔ mx_kd h b k := fun b k => by
        unfold mx_kd
        rw [s1, s4]
      have rows : ∀ a, hpK h a = 18 → ∀ k, hpR H a k = hpR h a k := fun a ha k => by
        rw [R, if_neg (fun q => mx_neK ha ko.2 (by decide) q.1), if_neg (fun q => mx_neK ha hc.2 (by decide) q.1)]
      have cn : ∀ o, rcnt (hpR H) o RS = rcnt (hpR h) o RS := fun o => rcnt_congr RS fun a ha k _ => rows a (q3 a ha).1.2 k
      refine ⟨⟨q1, q2, fun a ha => ?_, fun o ho => ?_, fun o ho => ?_, rest, ?_, n2, fun o => ?_⟩, ⟨Or.inl s1, by rw [s1, s2], by rw [s1, s3], ?_, ⟨Nat.le_of_eq s1.symm, fun a ha => ⟨by rw [s4], by rw [s5], fun k hk => ?_⟩⟩, fun a k ha => I0 a k ha, fun a k ha hk => ?_⟩, zo, io, (kN _ _).mpr ko, g1, g2, g3, g4, fun c => absurd s1 c⟩
      · obtain ⟨a1, a2, a3⟩ := q3 a ha
        refine ⟨(kN _ _).mpr a1, by rw [s5]; exact a2, fun k hk o eo => (kN _ _).mpr (a3 k hk o ?_)⟩
        rw [rows a a1.2] at eo
        exact eo
      · rw [cn]
        by_cases c : o = o2
        · subst c; rw [g5, zo]; rfl
        · rw [I0 _ _ c]; exact q4 o ((kN _ _).mp ho)
      · rw [cn]
        rcases List.mem_cons.mp ho with c | c
        · subst c; exact ⟨(kN _ _).mpr ko, zo⟩
        · obtain ⟨a, b⟩ := q5 o c
          exact ⟨(kN _ _).mpr a, b⟩
      · rw [R, if_neg (fun q => n135 q.1.symm), if_pos ⟨rfl, rfl⟩]
        refine FLc.congr rest _ (fun x hx => ?_) c2
        have kx := ((q8 x).mp (List.mem_cons_of_mem _ hx)).1.2
        have nx : x ≠ o2 := fun e => n1 (by rw [← e]; exact hx)
        rw [R, if_neg (fun q => nx q.1), if_neg (fun q => mx_neK kx hc.2 (by decide) q.1)]
      · rw [cn, kN]
        constructor
        · intro m
          obtain ⟨a, b, c⟩ := (q8 o).mp (List.mem_cons_of_mem _ m)
          refine ⟨a, b, fun g => ?_⟩
          rcases List.mem_cons.mp g with g | g
          · rw [g] at m; exact n1 m
          · exact c g
        · rintro ⟨a, b, c⟩
          rcases List.mem_cons.mp ((q8 o).mpr ⟨a, b, fun g => c (List.mem_cons_of_mem _ g)⟩) with g | g
          · exact absurd (by rw [g]; exact List.mem_cons_self) c
          · exact g
      · rw [if_pos s1]; exact s6
      · rw [R]
        by_cases c : a = o2 ∧ k = 5
        · obtain ⟨c, -⟩ := c
          subst c
          rw [ko.2] at hk
          exact absurd hk List.not_mem_nil
        · rw [if_neg c, if_neg]
          rintro ⟨c3, c4⟩
          subst c3
          subst c4
          rw [hc.2] at hk
          exact absurd hk (by decide)
      · rw [R, if_neg (fun q => ha q.1), if_neg (fun q => hk.elim (fun g => g q.1) (fun g => g q.2))]
theorem c_X0_open (hd : 2 ≤ d) {kd fl pp ps : Int32} (q : OI h RS inh) (hc : mx_kd h 135 0) : mx_SM mY_X0_open d [.ref 135, .int kd, .int fl, .int pp, .int ps] h (mx_KR (fun v h1 => ∃ o, v = some o ∧ OI h1 RS (o :: inh) ∧ FrN h h1 o ∧ rcnt (hpR h) o RS = 0 ∧ o ∉ inh ∧ mx_kd h1 o 5 ∧ hpI h1 o 0 = kd ∧ hpI h1 o 1 = fl ∧ hpI h1 o 2 = pp ∧ hpI h1 o 3 = ps ∧ (hpN h1 ≠ hpN h → hpR h 135 0 = none)) fun _ _ => False) := by
  have fr : ∀ o, hpR h 135 0 = some o → mx_kd h o 5 := fun o e => by
    obtain ⟨q1, q2, q3, q4, q5, fls, q6, q7, q8⟩ := q
    cases fls with
    | nil => have := q6; rw [e] at this; cases this
    | cons o2 rest =>
      obtain ⟨c1, c2⟩ := q6
      rw [e] at c1
      have eo : o = o2 := Option.some.inj c1
      subst eo
      exact ((q8 o).mp List.mem_cons_self).1
  exact mx_xKR (v := some (hd_opened h 135)) (k_X0_open hd hc.2 fr) ⟨_, rfl, q.mk1 hc⟩
end MXOM
