/-! THE PIPES: Channels' makePipe, putIn, takeFrom -/
section MXPP
/-- only rows of ints at these places differ -/
def ExI (p : Nat → Prop) (h h1 : mxH) : Prop := hpN h1 = hpN h ∧ hpC h1 = hpC h ∧ hpS h1 = hpS h ∧ hpK h1 = hpK h ∧ hpZ h1 = hpZ h ∧ hpL h1 = hpL h ∧ hpR h1 = hpR h ∧ ∀ b, ¬ p b → hpI h1 b = hpI h b
variable {p : Nat → Prop} {h h1 h2 : mxH} {a k d : Nat}
theorem ExI.rf : ExI p h h := ⟨rfl, rfl, rfl, rfl, rfl, rfl, rfl, fun _ _ => rfl⟩
theorem ExI.rI {f : Nat → Int32} (e : ExI p h h1) (ha : p a) : ExI p h (hrI h1 a f) := ⟨e.1, e.2.1, e.2.2.1, e.2.2.2.1, e.2.2.2.2.1, e.2.2.2.2.2.1, e.2.2.2.2.2.2.1, fun b hb => by rw [hpI_rI, if_neg (show ¬ b = a from fun c => hb (by rw [c]; exact ha))]; exact e.2.2.2.2.2.2.2 b hb⟩
theorem ExI.I {v : Int32} (e : ExI p h h1) (ha : p a) : ExI p h (hsI h1 a k v) := e.rI ha
theorem ExI.tr (e : ExI p h h1) (f : ExI p h1 h2) : ExI p h h2 := ⟨f.1.trans e.1, f.2.1.trans e.2.1, f.2.2.1.trans e.2.2.1, f.2.2.2.1.trans e.2.2.2.1, f.2.2.2.2.1.trans e.2.2.2.2.1, f.2.2.2.2.2.1.trans e.2.2.2.2.2.1, f.2.2.2.2.2.2.1.trans e.2.2.2.2.2.2.1, fun b hb => (f.2.2.2.2.2.2.2 b hb).trans (e.2.2.2.2.2.2.2 b hb)⟩
theorem ExI.fp (e : ExI p h h1) : FP h h1 := by
  refine ⟨Nat.le_of_eq e.1.symm, fun a _ => ⟨by rw [e.2.2.2.1], by rw [e.2.2.2.2.1], fun k _ => by rw [e.2.2.2.2.2.2.1]⟩⟩
abbrev pPI : Nat → Prop := fun b => 135 ≤ b ∧ b ≤ 139
variable {qn qn' fi la ql c : Nat → Int32} {ln : Int32 → spL → Prop} {w : spW}
theorem CQ_congr : ∀ {l : List Nat} {v : Int32}, (∀ x, x ∈ l → qn' x = qn x) → CQ qn v l → CQ qn' v l
  | [], _, _, h => h
  | x :: l, _, e, h => ⟨h.1, h.2.1, by rw [e x List.mem_cons_self]; exact CQ_congr (fun y hy => e y (List.mem_cons_of_mem _ hy)) h.2.2⟩
theorem CQ_lt : ∀ {l : List Nat} {v : Int32}, CQ qn v l → ∀ x, x ∈ l → x < 12040
  | [], _, _, x, hx => absurd hx List.not_mem_nil
  | y :: l, _, h, x, hx => by
    rcases List.mem_cons.mp hx with e | e
    · rw [e]; exact h.2.1
    · exact CQ_lt h.2.2 x e
/-- one more node behind the last one -/
theorem CQ_snoc {q : Nat} (hq : q < 12040) : ∀ {l : List Nat} {v : Int32} {x : Nat}, l.getLast? = some x → l.Nodup → q ∉ l → CQ qn v l → CQ (fup (fup qn q (-1)) x (nI q)) v (l ++ [q])
  | [], _, _, e, _, _, _ => nomatch e
  | [y], v, x, e, _, hn, h => by
    obtain rfl : y = x := Option.some.inj e
    have n1 : q ≠ y := fun c => hn (by rw [c]; exact List.mem_cons_self)
    refine ⟨h.1, h.2.1, by rw [fup_e], hq, ?_⟩
    show fup (fup qn q (-1)) y (nI q) q = -1
    rw [fup_n n1, fup_e]
  | y :: z :: l, v, x, e, nd, hn, h => by
    have e' : (z :: l).getLast? = some x := by rw [← e]; rfl
    have hx : x ∈ z :: l := List.mem_of_getLast? e'
    have n1 : y ≠ x := fun c => (List.nodup_cons.mp nd).1 (by rw [c]; exact hx)
    have n2 : y ≠ q := fun c => hn (by rw [c]; exact List.mem_cons_self)
    refine ⟨h.1, h.2.1, ?_⟩
    rw [fup_n n1, fup_n n2]
    exact CQ_snoc hq e' (List.nodup_cons.mp nd).2 (fun c => hn (List.mem_cons_of_mem _ c)) h.2.2
/-- the pipes with a node in hand -/
def CPB (ln : Int32 → spL → Prop) (c fi la ql qn : Nat → Int32) (w : spW) (e : Option Nat) (Qs : Nat → List Nat) (fr : List Nat) (made : Nat) : Prop := c 3 = nI (wU w).length ∧ (wU w).length ≤ 302 ∧ c 6 = nI made ∧ made ≤ 12040 ∧ CQ qn (c 7) fr ∧
  (∀ a, a < (wU w).length → CQ qn (fi a) (Qs a) ∧ (Qs a = [] → la a = -1) ∧ (∀ x, (Qs a).getLast? = some x → la a = nI x) ∧ (Qs a).length = ((wU w).getD a []).length ∧ ∀ k (h1 : k < (Qs a).length) (h2 : k < ((wU w).getD a []).length), ln (ql (Qs a)[k]) ((wU w).getD a [])[k]) ∧
  (fr.Nodup ∧ (∀ a, (Qs a).Nodup) ∧ (∀ a x, x ∈ Qs a → x ∉ fr) ∧ ∀ a b x, a ≠ b → x ∈ Qs a → x ∉ Qs b) ∧ (∀ a, (wU w).length ≤ a → Qs a = []) ∧ (∀ x, x ∈ fr → x < made) ∧ (∀ a x, x ∈ Qs a → x < made) ∧ fr.length + totU w + (if e.isSome = true then 1 else 0) = made ∧
  ∀ q, e = some q → q ∉ fr ∧ (∀ a, q ∉ Qs a) ∧ q < made
theorem CPB.of (h : CP ln c fi la ql qn w) : ∃ Qs fr made, CPB ln c fi la ql qn w none Qs fr made := by
  obtain ⟨Qs, fr, made, a1, a2, a3, a4, a5, a6, a7, a8, a9, a10, a11⟩ := h
  exact ⟨Qs, fr, made, a1, a2, a3, a4, a5, a6, a7, a8, a9, a10, a11, fun q e => nomatch e⟩
theorem CPB.to {Qs : Nat → List Nat} {fr : List Nat} {made : Nat} (h : CPB ln c fi la ql qn w none Qs fr made) : CP ln c fi la ql qn w := by
  obtain ⟨a1, a2, a3, a4, a5, a6, a7, a8, a9, a10, a11, -⟩ := h
  exact ⟨Qs, fr, made, a1, a2, a3, a4, a5, a6, a7, a8, a9, a10, a11⟩
theorem k_X0_takeNode (s : SC h) {Qs : Nat → List Nat} {fr : List Nat} {made : Nat} (b : CPB ln (hpI h 135) fi la ql (hpI h 139) w none Qs fr made) (room : totU w < 12040) :
    mx_SM mY_X0_takeNode d [.ref 135] h (fun r h1 => ∃ q c fr' made', r = .inl (some (.int (nI q))) ∧ h1 = hrI h 135 c ∧ q < 12040 ∧ CPB ln c fi la ql (hpI h 139) w (some q) Qs fr' made') := by
  obtain ⟨a1, a2, a3, a4, a5, a6, ⟨a7, a7b, a7c, a7d⟩, a8, a9, a10, a11, -⟩ := b
  simp only [Option.isSome_none, Bool.false_eq_true, if_false, Nat.add_zero] at a11
  refine b_X0_takeNode 135 ⟨sc_k135 s, ?_⟩
  cases fr with
  | nil =>
    have e7 : hpI h 135 7 = -1 := a5
    have em : made < 12040 := by simp only [List.length_nil, Nat.zero_add] at a11; omega
    rw [e7]
    refine ⟨fun _ => b_X0_takeNode_28 135 ⟨sc_k135 s, ?_⟩, fun c => absurd (by decide) c⟩
    rw [a3]
    refine ⟨fun c => absurd c (show ¬ nI 12040 ≤ nI made from nI_ge em (by omega)), fun _ => ?_⟩
    rintro _ rfl
    rw [nI_1, hpI_sI, if_pos rfl, if_pos rfl, nI_pred]
    refine ⟨made, fup (hpI h 135) 6 (nI (made + 1)), [], made + 1, rfl, rfl, em, ?_⟩
    refine ⟨by rw [fup_n (by decide)]; exact a1, a2, by rw [fup_e], by omega, by rw [fup_n (by decide)]; exact a5, a6, ⟨a7, a7b, a7c, a7d⟩, a8, fun x hx => absurd hx List.not_mem_nil, fun a x hx => Nat.lt_succ_of_lt (a10 a x hx), ?_, ?_⟩
    · simp only [List.length_nil, Nat.zero_add] at a11
      simp only [List.length_nil, Nat.zero_add, Option.isSome_some, if_true]
      omega
    · intro q e
      obtain rfl : made = q := Option.some.inj e
      exact ⟨List.not_mem_nil, fun a c => absurd (a10 a _ c) (Nat.lt_irrefl _), Nat.lt_succ_self _⟩
  | cons q fr' =>
    obtain ⟨e7, q1, q2⟩ := a5
    rw [e7]
    refine ⟨fun c => absurd c (nI_pos (by omega)), fun _ => ⟨fun c => absurd c (show ¬ nI 12040 ≤ nI q from nI_ge q1 (by omega)), fun _ => ⟨139, sc_r135_5 s, sc_k139 s, by rw [sc_z139 s]; exact vp_in_nI q1 (by omega), ?_⟩⟩⟩
    rw [nI_clamp (by omega)]
    rintro _ rfl
    refine ⟨q, fup (hpI h 135) 7 (hpI h 139 q), fr', made, rfl, rfl, q1, ?_⟩
    have nd := List.nodup_cons.mp a7
    refine ⟨by rw [fup_n (by decide)]; exact a1, a2, by rw [fup_n (by decide)]; exact a3, a4, by rw [fup_e]; exact q2, a6, ⟨nd.2, a7b, fun a x hx c => a7c a x hx (List.mem_cons_of_mem _ c), a7d⟩, a8, fun x hx => a9 x (List.mem_cons_of_mem _ hx), a10, ?_, ?_⟩
    · simp only [List.length_cons] at a11
      simp only [Option.isSome_some, if_true]
      omega
    · intro x e
      obtain rfl : q = x := Option.some.inj e
      exact ⟨nd.1, fun a c => a7c a _ c List.mem_cons_self, a9 _ List.mem_cons_self⟩
/-- the node in hand holds a line and is put behind the last one -/
theorem CPB.put {Qs : Nat → List Nat} {fr : List Nat} {made q a : Nat} {v : Int32} {l : spL} {fi' : Nat → Int32} (b : CPB ln c fi la ql qn w (some q) Qs fr made) (ha : a < (wU w).length) (hv : ln v l)
    (h1 : CQ qn' (fi' a) (Qs a ++ [q])) (h2 : ∀ x, x ≠ a → fi' x = fi x) (h3 : ∀ x, x ∉ Qs a → x ≠ q → qn' x = qn x) : CP ln c fi' (fup la a (nI q)) (fup ql q v) qn' (uU w ((wU w).set a ((wU w).getD a [] ++ [l]))) := by
  obtain ⟨a1, a2, a3, a4, a5, a6, ⟨a7, a7b, a7c, a7d⟩, a8, a9, a10, a11, a12⟩ := b
  obtain ⟨q1, q2, q3⟩ := a12 q rfl
  simp only [Option.isSome_some, if_true] at a11
  have eL : ((wU w).set a ((wU w).getD a [] ++ [l])).length = (wU w).length := List.length_set ..
  have eT := totU_set (w := w) (p := a) (x := (wU w).getD a [] ++ [l]) ha
  rw [List.length_append, List.length_singleton] at eT
  refine ⟨fup Qs a (Qs a ++ [q]), fr, made, by show c 3 = nI ((wU w).set a _).length; rw [eL]; exact a1, by show ((wU w).set a _).length ≤ 302; rw [eL]; exact a2, a3, a4, CQ_congr (fun x hx => h3 x (fun c => a7c a x c hx) (fun c => q1 (by rw [← c]; exact hx))) a5, fun y hy => ?_, ⟨a7, fun y => ?_, fun y x hx => ?_, fun y z x hyz hx => ?_⟩, fun y hy => ?_, a9, fun y x hx => ?_, by omega⟩
  · have hy' : y < (wU w).length := by rw [← eL]; exact hy
    show CQ qn' (fi' y) (fup Qs a (Qs a ++ [q]) y) ∧ (fup Qs a (Qs a ++ [q]) y = [] → fup la a (nI q) y = -1) ∧ (∀ x, (fup Qs a (Qs a ++ [q]) y).getLast? = some x → fup la a (nI q) y = nI x) ∧ (fup Qs a (Qs a ++ [q]) y).length = (((wU w).set a ((wU w).getD a [] ++ [l])).getD y []).length ∧ ∀ k (h1 : k < (fup Qs a (Qs a ++ [q]) y).length) (h2 : k < (((wU w).set a ((wU w).getD a [] ++ [l])).getD y []).length), ln (fup ql q v (fup Qs a (Qs a ++ [q]) y)[k]) (((wU w).set a ((wU w).getD a [] ++ [l])).getD y [])[k]
    by_cases e : y = a
    · subst e
      obtain ⟨b1, b2, b3, b4, b5⟩ := a6 y ha
      have e1 : fup Qs y (Qs y ++ [q]) y = Qs y ++ [q] := fup_e
      have e2 : ((wU w).set y ((wU w).getD y [] ++ [l])).getD y [] = (wU w).getD y [] ++ [l] := getD_set_self ha
      rw [e2, e1, fup_e]
      refine ⟨h1, fun c => absurd c (by simp), fun x hx => ?_, by rw [List.length_append, List.length_append, b4]; rfl, fun k k1 k2 => ?_⟩
      · rw [List.getLast?_concat] at hx
        rw [Option.some.inj hx]
      · by_cases ek : k < (Qs y).length
        · rw [List.getElem_append_left ek, List.getElem_append_left (show k < ((wU w).getD y []).length by omega), fup_n (fun c => q2 y (by rw [← c]; exact List.getElem_mem _))]
          exact b5 k ek _
        · have k3 : k = (Qs y).length := by rw [List.length_append, List.length_singleton] at k1; omega
          rw [List.getElem_append_right (by omega), List.getElem_append_right (by omega)]
          simp only [List.getElem_singleton, fup_e]
          exact hv
    · obtain ⟨b1, b2, b3, b4, b5⟩ := a6 y hy'
      have e1 : fup Qs a (Qs a ++ [q]) y = Qs y := fup_n e
      have e2 : ((wU w).set a ((wU w).getD a [] ++ [l])).getD y [] = (wU w).getD y [] := getD_set_ne (fun c => e c.symm)
      rw [e2, e1, fup_n e, h2 y e]
      exact ⟨CQ_congr (fun x hx => h3 x (a7d y a x e hx) (fun c => q2 y (by rw [← c]; exact hx))) b1, b2, b3, b4, fun k k1 k2 => by rw [fup_n (fun c => q2 y (by rw [← c]; exact List.getElem_mem _))]; exact b5 k k1 k2⟩
  · by_cases e : y = a
    · subst e
      rw [fup_e, List.nodup_append]
      exact ⟨a7b y, (by simp), fun x hx z hz c => q2 y (by rw [← List.mem_singleton.mp hz, ← c]; exact hx)⟩
    · rw [fup_n e]; exact a7b y
  · by_cases e : y = a
    · subst e
      rw [fup_e] at hx
      rcases List.mem_append.mp hx with x1 | x1
      · exact a7c y x x1
      · rw [List.mem_singleton.mp x1]; exact q1
    · rw [fup_n e] at hx; exact a7c y x hx
  · by_cases e : y = a
    · have e' : z ≠ a := fun c => hyz (e.trans c.symm)
      subst e
      rw [fup_e] at hx
      rw [fup_n e']
      rcases List.mem_append.mp hx with x1 | x1
      · exact a7d y z x hyz x1
      · rw [List.mem_singleton.mp x1]; exact q2 z
    · rw [fup_n e] at hx
      by_cases e' : z = a
      · subst e'
        rw [fup_e]
        intro c
        rcases List.mem_append.mp c with x1 | x1
        · exact a7d y z x hyz hx x1
        · exact q2 y (by rw [← List.mem_singleton.mp x1]; exact hx)
      · rw [fup_n e']; exact a7d y z x hyz hx
  · have hy' : (wU w).length ≤ y := by rw [← eL]; exact hy
    rw [fup_n (by omega)]; exact a8 y hy'
  · by_cases e : y = a
    · subst e
      rw [fup_e] at hx
      rcases List.mem_append.mp hx with x1 | x1
      · exact a10 y x x1
      · rw [List.mem_singleton.mp x1]; exact q3
    · rw [fup_n e] at hx; exact a10 y x hx
end MXPP
