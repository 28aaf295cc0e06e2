/-! RULES of makings, static rows, ends, throws, calls -/
section MXN
variable {y : mxY} {d pc : Nat} {lv : List (Nat × Value)} {st : List Value} {h : mxH} {Q : mxRes → mxH → Prop}
theorem mx_trL_ext {ad ad' : Nat → Nat} (he : mx_ext h ad ad') {lv : List (Nat × Value)} (ho : ∀ q ∈ lv, mx_ok h q.2) : mx_trL ad' lv = mx_trL ad lv := List.map_congr_left fun q hq => by rw [mx_tr_ext he (ho q hq)]
theorem mx_trS_ext {ad ad' : Nat → Nat} (he : mx_ext h ad ad') {st : List Value} (ho : ∀ v ∈ st, mx_ok h v) : mx_trS ad' st = mx_trS ad st := List.map_congr_left fun v hv => mx_tr_ext he (ho v hv)
theorem mx_map_ext {ad ad' : Nat → Nat} {r : Option Nat} (hr : ∀ z, r = some z → ad' z = ad z) : r.map ad' = r.map ad := by
  cases r with
  | none => rfl
  | some z => exact congrArg some (hr z rfl)
theorem mx_at.ad {D : va_G} {cA : Nat → ClassId} {ad ad' : Nat → Nat} {b : Nat} {H : Heap} (hat : mx_at D cA ad h b H) (hb : ad' b = ad b) (hr : ∀ k z, hpR h b k = some z → ad' z = ad z) : mx_at D cA ad' h b H := by
  have ef : mx_fv ad' h b = mx_fv ad h b := by
    funext k
    simp only [mx_fv]
    rw [show mx_val ad' (mx_ty (hpK h b) k) (hpI h b k) (hpL h b k) (hpR h b k) = mx_val ad (mx_ty (hpK h b) k) (hpI h b k) (hpL h b k) (hpR h b k) from ?_]
    cases mx_ty (hpK h b) k <;> first | rfl | (simp only [mx_val]; rw [mx_map_ext (hr k)])
  have er : (fun j => (hpR h b j).map ad') = fun j => (hpR h b j).map ad := by funext j; exact mx_map_ext (hr j)
  obtain ⟨p1, p2, p3, p4⟩ := hat
  exact ⟨by rw [ef, hb]; exact p1, by rw [hb]; exact p2, by rw [hb]; exact p3, by rw [er, hb]; exact p4⟩
theorem mx_Rep.push {D : va_G} {cA : Nat → ClassId} {base : Nat} {x0 : Nat → Nat} {xc : mxXc} {ad : Nat → Nat} {H H1 : Heap} {kd len z : Nat} (hR : mx_Rep D cA base x0 xc ad h H) (hb : base ≤ H.size) (hz : H1.size = H.size + 1) (oq : ∀ q, q < H.size → H1[q]? = H[q]?)
    (hat : mx_at D cA (fup ad (hpN h) H.size) (hnw h kd len z) (hpN h) H1) : mx_Rep D cA base x0 xc (fup ad (hpN h) H.size) (hnw h kd len z) H1 ∧ mx_ext h ad (fup ad (hpN h) H.size) := by
  obtain ⟨r1, r2, r3, r4, r5⟩ := hR
  have hx : mx_ext h ad (fup ad (hpN h) H.size) := fun a ha => if_neg (Nat.ne_of_lt ha)
  have hself : fup ad (hpN h) H.size (hpN h) = H.size := if_pos rfl
  refine ⟨⟨Nat.le_succ_of_le r1, fun a ha => ?_, fun a ha ha2 => ?_, fun a b ha ha2 hb1 hb2 he => ?_, fun a k w ha hw => ?_⟩, hx⟩
  · have hne : a ≠ hpN h := by omega
    rw [hx a (by omega), hpK_nw, hpZ_nw, hpI_nw, hpL_nw, if_neg hne, if_neg hne, if_neg hne, if_neg hne]
    exact r2 a ha
  · rw [hpN_nw] at ha2
    by_cases hn : a = hpN h
    · subst hn
      rw [hself]
      exact ⟨hb, by omega, hat⟩
    · have hlt : a < hpN h := by omega
      obtain ⟨q1, q2, q3⟩ := r3 a ha hlt
      rw [hx a hlt]
      refine ⟨q1, by omega, ?_⟩
      have q4 := q3.ad (hx a hlt) (fun k w hw => hx w (r5 a k w hlt hw))
      refine q4.cong ?_ ?_ ?_ ?_ ?_ ?_
      · rw [hpK_nw, if_neg hn]
      · rw [hpZ_nw, if_neg hn]
      · rw [hpI_nw, if_neg hn]
      · rw [hpL_nw, if_neg hn]
      · rw [hpR_nw, if_neg hn]
      · rw [hx a hlt]; exact oq _ q2
  · rw [hpN_nw] at ha2 hb2
    by_cases hn : a = hpN h
    · by_cases hm : b = hpN h
      · rw [hn, hm]
      · rw [hn, hself, hx b (by omega)] at he
        have := (r3 b hb1 (by omega)).2.1
        omega
    · by_cases hm : b = hpN h
      · rw [hm, hself, hx a (by omega)] at he
        have := (r3 a ha (by omega)).2.1
        omega
      · rw [hx a (by omega), hx b (by omega)] at he
        exact r4 a b ha (by omega) hb1 (by omega) he
  · rw [hpN_nw] at ha ⊢
    rw [hpR_nw] at hw
    by_cases hn : a = hpN h
    · rw [if_pos hn] at hw; cases hw
    · rw [if_neg hn] at hw
      have := r5 a k w (by omega) hw
      omega
/-- a making: the new thing lies at the heap's end -/
theorem mx_make {pc' kd len z : Nat} {st0 : List Value} (hst : ∀ v ∈ st, v ∈ st0)
    (hw : ∀ (p : Program) (l : Launch) (e : Env) (R : Room) (s : State) (m : MethodId) (args : Array Value) (below : List Frame) (meth : Method) (c : Code) (D : va_G) (cA : Nat → ClassId) (base : Nat) (x0 : Nat → Nat) (xc : mxXc),
      mx_C y d p l R s m args meth c → mx_G D cA base x0 xc s s.heap →
      ∀ (H : Heap) (locs : List Loc) (cells slots : Nat) (ls : Array Slot) (ad ad1 : Nat → Nat) (Qf : State → Prop), cells + 1 ≤ R.cells → slots + z ≤ R.slots → ad1 (hpN h) = H.size →
        (∀ (H1 : Heap), H1.size = H.size + 1 → (∀ q, q < H.size → H1[q]? = H[q]?) → mx_at D cA ad1 (hnw h kd len z) (hpN h) H1 → W p l e R s m args below meth c H1 locs (cells + 1) (slots + z) Qf (F0 m pc' ls (.ref H.size :: mx_trS ad st))) → W p l e R s m args below meth c H locs cells slots Qf (F0 m pc ls (mx_trS ad st0)))
    (k : mx_SX y d pc' lv (.ref (hpN h) :: st) (hnw h kd len z) Q) : mx_SX y d pc lv st0 h Q := by
  refine mx_step (h1 := hnw h kd len z) ⟨Nat.le_succ _, Nat.le_succ _, Nat.le_add_right _ _⟩ ?_ k
  intro p l e R s m args below meth c D cA base x0 xc hC hG H locs cells slots ls ad hR hS hl ho1 ho2 hc hs Qf k9
  have e1 : hpC (hnw h kd len z) - hpC h = 1 := by rw [hpC_nw]; omega
  have e2 : hpS (hnw h kd len z) - hpS h = z := by rw [hpS_nw]; omega
  rw [e1, e2] at k9
  rw [e1] at hc
  rw [e2] at hs
  have hos : ∀ v ∈ st, mx_ok h v := fun v hv => ho2 v (hst v hv)
  have hmono : ∀ v, mx_ok h v → mx_ok (hnw h kd len z) v := fun v hv => mx_ok.mono (Nat.le_succ _) hv
  refine hw p l e R s m args below meth c D cA base x0 xc hC hG H locs cells slots ls ad (fup ad (hpN h) H.size) Qf hc hs (if_pos rfl) (fun H1 hz oq hat => ?_)
  obtain ⟨hR1, hx⟩ := hR.push (Nat.le_trans hG.2.1 hS.1) hz oq hat
  have k8 := k9 H1 locs ls _ hx hR1 ⟨Nat.le_trans hS.1 (by omega), fun q h1 h2 => (oq q (Nat.lt_of_lt_of_le h1 hS.1)).trans (hS.2.1 q h1 h2), hS.2.2⟩ (by rw [mx_trL_ext hx ho1]; exact hl) (fun q hq => hmono _ (ho1 q hq)) (mx_push (v := .ref (hpN h)) (Nat.lt_succ_self _) (fun v hv => hmono _ (hos v hv)))
  have e3 : mx_trS (fup ad (hpN h) H.size) (.ref (hpN h) :: st) = .ref H.size :: mx_trS ad st := by
    rw [← mx_trS_ext hx hos]
    show Value.ref (fup ad (hpN h) H.size (hpN h)) :: _ = _
    rw [show fup ad (hpN h) H.size (hpN h) = H.size from if_pos rfl]
    rfl
  rw [e3] at k8
  exact k8
def mx_NL (own : String) (index ci : Nat) : Prop := ci < 13 ∧ Cond.classLink own index (mx_RX ci) ∈ mx_tbl ∧ Cond.instantiable (mx_RX ci) (mx_nf ci) ∈ mx_tbl ∧ Cond.initialized (mx_RX ci) ∈ mx_tbl
theorem mx_dflt {ad : Nat → Nat} {ty : FieldType} (hty : ty ≠ .float ∧ ty ≠ .double) : defaultValue ty = mx_val ad ty 0 0 none := by
  cases ty <;> first | rfl | exact absurd rfl hty.1 | exact absurd rfl hty.2
theorem mx_new {index ci : Nat} (hN : mx_NL y.1.cls index ci) (hty : ∀ k, mx_ty ci k ≠ .float ∧ mx_ty ci k ≠ .double) (hd : decode y.2.1 pc = .ok (.new index, 3)) (kk : mx_SX y d (pc + 3) lv (.ref (hpN h) :: st) (hnw h ci 0 (mx_nf ci)) Q) : mx_SX y d pc lv st h Q := by
  obtain ⟨hci, h1, h2, h3⟩ := hN
  refine mx_make (fun v hv => hv) ?_ kk
  intro p l e R s m args below meth c D cA base x0 xc hC hG H locs cells slots ls ad ad1 Qf hc hs hx k9
  have hKn := hG.1.1 ci _ (mx_cl ci hci)
  refine W.newcK hC.1 hC.2.1 hC.2.2.2.2.1 (hC.2.2.2.2.2.1 _ h1) (hC.2.2.2.2.2.1 _ h2) (hC.2.2.2.2.2.1 _ h3) rfl hd hc hs hKn.2.1 rfl (fun H1 kC hkC e1 z1 o1 => k9 H1 z1 o1 ?_)
  refine mx_objAt (ci := ci) (by rw [hpK_nw, if_pos rfl]) hci ?_
  rw [hx]
  refine (u_born (mx_ty ci) hC.2.2.2.2.2.1 (mx_inall ci hci) hKn hkC e1 (mx_par ci hci)).to (fun k hk => ?_)
  rw [mx_fv, hpK_nw, hpI_nw, hpL_nw, hpR_nw, if_pos rfl, if_pos rfl, if_pos rfl, if_pos rfl]
  exact mx_dflt (hty k)
theorem mx_newa {kd : Nat} {atype : ArrayType} {n : Int32} {N : Nat} (hk : kd = 13 ∨ kd = 14 ∨ kd = 15 ∨ kd = 16) (ht : newarray.typeOf atype = mx_tyA kd) (hcl : Cond.arrayClass (mx_tyA kd) ∈ mx_tbl) (hn : ¬ n < 0) (hN : n.toNatClampNeg = N) (hb : N * componentBytes (mx_tyA kd) ≤ 536870912) (hd : decode y.2.1 pc = .ok (.newarray atype, 2))
    (kk : mx_SX y d (pc + 2) lv (.ref (hpN h) :: st) (hnw h kd N N) Q) : mx_SX y d pc lv (.int n :: st) h Q := by
  refine mx_make (fun v hv => List.mem_cons_of_mem _ hv) ?_ kk
  intro p l e R s m args below meth c D cA base x0 xc hC hG H locs cells slots ls ad ad1 Qf hc hs hx k9
  refine va_newaK hC.1 hC.2.1 (by rw [ht]; exact hC.2.2.2.2.2.1 _ hcl) rfl hd rfl hn hN (by rw [ht]; exact hb) hc hs rfl (fun H1 cA' e1 z1 o1 _ hf => k9 H1 z1 o1 ?_)
  rw [ht] at e1 hf
  have hRA := (hG.1.2 (kd - 13) _ (mx_tyA_at cA (show 13 ≤ kd by omega) (by omega))).2
  have hcA : cA' = cA kd := by
    rcases hk with rfl | rfl | rfl | rfl <;> exact Option.some.inj (hf.symm.trans hRA)
  subst hcA
  rw [← hx] at e1
  have ek : hpK (hnw h kd N N) (hpN h) = kd := by rw [hpK_nw, if_pos rfl]
  have ez : hpZ (hnw h kd N N) (hpN h) = N := by rw [hpZ_nw, if_pos rfl]
  by_cases h15 : kd = 15
  · subst h15
    refine mx_arrAtL ek ?_
    rw [e1, ez, hpL_nw, if_pos rfl]
    rfl
  · refine mx_arrAtI ek (by omega) ?_
    rw [e1, ez, hpI_nw, if_pos rfl]
    rcases hk with rfl | rfl | rfl | rfl <;> first | rfl | exact absurd rfl h15
theorem mx_newq {kd index : Nat} {C : String} {n : Int32} {N : Nat} (hk : 17 ≤ kd ∧ kd ≤ 20) (ht : mx_tyA kd = .object C) (hcl : Cond.classLink y.1.cls index C ∈ mx_tbl) (hn : ¬ n < 0) (hN : n.toNatClampNeg = N) (hb : N * 4 ≤ 536870912) (hd : decode y.2.1 pc = .ok (.anewarray index, 3))
    (kk : mx_SX y d (pc + 3) lv (.ref (hpN h) :: st) (hnw h kd N N) Q) : mx_SX y d pc lv (.int n :: st) h Q := by
  refine mx_make (fun v hv => List.mem_cons_of_mem _ hv) ?_ kk
  intro p l e R s m args below meth c D cA base x0 xc hC hG H locs cells slots ls ad ad1 Qf hc hs hx k9
  subst hN
  have hAO : va_AO C s := by
    obtain ⟨-, -, -, -, ⟨a1, a2, a3, a4⟩, -⟩ := hG
    have : kd = 17 ∨ kd = 18 ∨ kd = 19 ∨ kd = 20 := by omega
    rcases this with rfl | rfl | rfl | rfl <;> (cases ht; assumption)
  refine W.anew hC.1 hC.2.1 hC.2.2.2.2.1 (hC.2.2.2.2.2.1 _ hcl) (va_AO.use hAO) rfl hd rfl hn hb hc hs (fun cA' kA comp f1 f2 f3 f4 => ?_)
  have hRA := (hG.1.2 (kd - 13) _ (mx_tyA_at cA (show 13 ≤ kd by omega) (by omega))).2
  rw [show (cA kd, mx_tyA kd).2 = .object C from ht] at hRA
  obtain ⟨kA9, comp9, -, -, -, f9⟩ := hRA
  have hcA : cA' = cA kd := Option.some.inj (f1.symm.trans f9)
  subst hcA
  generalize hH1 : H.push ({ cls := cA kd, slots := Array.replicate n.toNatClampNeg .null, vm := .none } : Cell) = H1
  have z1 : H1.size = H.size + 1 := by rw [← hH1, Array.size_push]
  have e1 : H1[H.size]? = some (arrV (cA kd) n.toNatClampNeg (fun _ => .null)) := by rw [← hH1, Array.getElem?_push_size, ← arrV_new]
  have o1 : ∀ q : Nat, q < H.size → H1[q]? = H[q]? := fun q hq => by rw [← hH1, Array.getElem?_push, if_neg (Nat.ne_of_lt hq)]
  refine k9 H1 z1 o1 (mx_arrAtR (kd := kd) (by rw [hpK_nw, if_pos rfl]) hk ?_)
  rw [hx, e1, hpZ_nw, if_pos rfl, hpR_nw, if_pos rfl]
  rfl
/-! static rows and the script -/
theorem mx_getsN {index : Nat} (hl : Cond.fieldLink y.1.cls index "ShellCore$Commands" "NAMES" "[J" ∈ mx_tbl) (hd : decode y.2.1 pc = .ok (.getstatic index, 3)) (kk : mx_SX y d (pc + 3) lv (.ref 1 :: st) h Q) : mx_SX y d pc lv st h Q := by
  refine mx_read (fun D cA base x0 xc ad H hR o2 => mx_push (v := .ref 1) (show 1 < hpN h from by have := hR.1; omega) o2) ?_ kk
  intro p l e R s m args below meth c D cA base x0 xc hC hG H locs cells slots ls ad Qf hR hS o2 k9
  refine va_gets hC.1 hC.2.1 hG.2.2.1.2.1.1 hS hC.2.2.2.2.1 (hC.2.2.2.2.2.1 _ hl) (fun _ hx => hx) hd ?_
  rw [← (hR.2.1 1 (by omega)).1]
  exact k9
theorem mx_getsS {index : Nat} (hl : Cond.fieldLink y.1.cls index "ShellCore$Commands" "SIGNAL_NAMES" "[J" ∈ mx_tbl) (hd : decode y.2.1 pc = .ok (.getstatic index, 3)) (kk : mx_SX y d (pc + 3) lv (.ref 2 :: st) h Q) : mx_SX y d pc lv st h Q := by
  refine mx_read (fun D cA base x0 xc ad H hR o2 => mx_push (v := .ref 2) (show 2 < hpN h from by have := hR.1; omega) o2) ?_ kk
  intro p l e R s m args below meth c D cA base x0 xc hC hG H locs cells slots ls ad Qf hR hS o2 k9
  refine va_gets hC.1 hC.2.1 hG.2.2.1.2.2.1.1 hS hC.2.2.2.2.1 (hC.2.2.2.2.2.1 _ hl) (fun _ hx => hx) hd ?_
  rw [← (hR.2.1 2 (by omega)).1]
  exact k9
theorem mx_xlald {a : Nat} {i : Int32} (ha : a = 1 ∨ a = 2) (hin : vp_in i (hpZ h a)) (hd : decode y.2.1 pc = .ok (.laload, 1)) (kk : mx_SX y d (pc + 1) lv (.long (hpL h a i.toNatClampNeg) :: st) h Q) : mx_SX y d pc lv (.int i :: .ref a :: st) h Q := by
  refine mx_read (fun D cA base x0 xc ad H hR o2 => mx_push (v := .long _) trivial (mx_tl (mx_tl o2))) ?_ kk
  intro p l e R s m args below meth c D cA base x0 xc hC hG H locs cells slots ls ad Qf hR hS o2 k9
  obtain ⟨q1, -, q3, -, q5, -⟩ := hR.2.1 a (by omega)
  rw [q3] at hin
  have hT : va_T .long (x0 a) (xc.1 a) (fun j => .long (xc.2.2 a j)) (mx_A base) s s.heap := by
    rcases ha with rfl | rfl
    · exact hG.2.2.1.2.1.2
    · exact hG.2.2.1.2.2.1.2
  show W p l e R s m args below meth c H locs cells slots Qf (F0 m pc ls (.int i :: .ref (ad a) :: mx_trS ad st))
  rw [q1]
  exact va_tl hC.1 hC.2.1 hT hS hin (v := .long (hpL h a i.toNatClampNeg)) (by rw [q5]) hd k9
theorem mx_xiald {i : Int32} (hin : vp_in i (hpZ h 0)) (hd : decode y.2.1 pc = .ok (.iaload, 1)) (kk : mx_SX y d (pc + 1) lv (.int (hpI h 0 i.toNatClampNeg) :: st) h Q) : mx_SX y d pc lv (.int i :: .ref 0 :: st) h Q := by
  refine mx_read (fun D cA base x0 xc ad H hR o2 => mx_push (v := .int _) trivial (mx_tl (mx_tl o2))) ?_ kk
  intro p l e R s m args below meth c D cA base x0 xc hC hG H locs cells slots ls ad Qf hR hS o2 k9
  obtain ⟨q1, -, q3, q4, -, -⟩ := hR.2.1 0 (by omega)
  rw [q3] at hin
  show W p l e R s m args below meth c H locs cells slots Qf (F0 m pc ls (.int i :: .ref (ad 0) :: mx_trS ad st))
  rw [q1]
  exact va_ti hC.1 hC.2.1 hG.2.2.1.1 hS hin (v := .int (hpI h 0 i.toNatClampNeg)) (by rw [q4]) hd k9
theorem mx_xlen {a : Nat} (ha : a = 0 ∨ a = 1 ∨ a = 2) (hd : decode y.2.1 pc = .ok (.arraylength, 1)) (kk : mx_SX y d (pc + 1) lv (.int (nI (hpZ h a)) :: st) h Q) : mx_SX y d pc lv (.ref a :: st) h Q := by
  refine mx_read (fun D cA base x0 xc ad H hR o2 => mx_push (v := .int _) trivial (mx_tl o2)) ?_ kk
  intro p l e R s m args below meth c D cA base x0 xc hC hG H locs cells slots ls ad Qf hR hS o2 k9
  obtain ⟨q1, -, q3, -, -, -⟩ := hR.2.1 a (by omega)
  show W p l e R s m args below meth c H locs cells slots Qf (F0 m pc ls (.ref (ad a) :: mx_trS ad st))
  rw [q1]
  rcases ha with rfl | rfl | rfl
  · exact va_tlen hC.1 hC.2.1 hG.2.2.1.1 hS (v := nI (hpZ h 0)) (by rw [q3]; rfl) hd k9
  · exact va_tlen hC.1 hC.2.1 hG.2.2.1.2.1.2 hS (v := nI (hpZ h 1)) (by rw [q3]; rfl) hd k9
  · exact va_tlen hC.1 hC.2.1 hG.2.2.1.2.2.1.2 hS (v := nI (hpZ h 2)) (by rw [q3]; rfl) hd k9
/-! ends -/
theorem mx_ret0 {v : Option Value} (hlv : st = v.toList) (hr : mx_isRet y pc v) (hv : ∀ w, v = some w → mx_ok h w) (hq : Q (.inl v) h) : mx_SX y d pc lv st h Q := by
  subst hlv
  refine ⟨.inl v, h, hq, mx_le.rf, fun w hw => hv w (by cases hw; rfl), ?_⟩
  intro p l e R s m args below meth c D cA base x0 xc hC hG H locs cells slots ls ad hR hS hl ho1 ho2 hc hs Qf hE
  have := hE.1 v rfl H locs pc ls ad mx_ext.rf hR hS hr
  rw [Nat.sub_self, Nat.sub_self, Nat.add_zero, Nat.add_zero] at this
  cases v <;> exact this
theorem mx_return (hd : decode y.2.1 pc = .ok (.return_, 1)) (hr : y.2.2.2.1 = none) (hq : Q (.inl none) h) : mx_SX y d pc lv [] h Q := mx_ret0 (v := none) rfl ⟨hd, hr⟩ (fun w hw => by cases hw) hq
theorem mx_ireturn {v : Int32} {ty : FieldType} (hd : decode y.2.1 pc = .ok (.ireturn, 1)) (hr : y.2.2.2.1 = some ty) (hn : narrow ty (.int v) = .int v) (hq : Q (.inl (some (.int v))) h) : mx_SX y d pc lv [.int v] h Q := mx_ret0 (v := some (.int v)) rfl ⟨hd, ty, hr, hn⟩ (fun w hw => by cases hw; trivial) hq
theorem mx_lreturn {v : Int64} (hd : decode y.2.1 pc = .ok (.lreturn, 1)) (hr : y.2.2.2.1 = some .long) (hq : Q (.inl (some (.long v))) h) : mx_SX y d pc lv [.long v] h Q := mx_ret0 (v := some (.long v)) rfl ⟨hd, hr⟩ (fun w hw => by cases hw; trivial) hq
theorem mx_areturn {a : Nat} {C : String} (hd : decode y.2.1 pc = .ok (.areturn, 1)) (hr : y.2.2.2.1 = some (.object C)) (ha : a < hpN h) (hq : Q (.inl (some (.ref a))) h) : mx_SX y d pc lv [.ref a] h Q := mx_ret0 (v := some (.ref a)) rfl ⟨hd, _, hr, Or.inl ⟨_, rfl⟩⟩ (fun w hw => by cases hw; exact ha) hq
theorem mx_areturnN {C : String} (hd : decode y.2.1 pc = .ok (.areturn, 1)) (hr : y.2.2.2.1 = some (.object C)) (hq : Q (.inl (some .null)) h) : mx_SX y d pc lv [.null] h Q := mx_ret0 (v := some .null) rfl ⟨hd, _, hr, Or.inl ⟨_, rfl⟩⟩ (fun w hw => by cases hw; trivial) hq
end MXN
