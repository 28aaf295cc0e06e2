/-! CALLS: a body's run gives the method's; the method's run gives the call -/
section MXM
theorem mx_args_tr (ad : Nat → Nat) (As : List Value) : ∀ i, lv_args i (mx_trS ad As) = mx_trL ad (lv_args i As) := by
  induction As with
  | nil => intro i; rfl
  | cons v vs ih =>
    intro i
    show (i, mx_tr ad v) :: lv_args (if (mx_tr ad v).category = 2 then i + 2 else i + 1) (mx_trS ad vs) = _
    rw [mx_cat, ih]
    rfl
theorem mx_sl_tr (ad : Nat → Nat) (As : List Value) : (lg_sl (mx_trS ad As)).length = (lg_sl As).length := by
  induction As with
  | nil => rfl
  | cons v vs ih =>
    show (((if (mx_tr ad v).category = 2 then [Slot.val (mx_tr ad v), .second] else [.val (mx_tr ad v)]) ++ lg_sl (mx_trS ad vs))).length = ((if v.category = 2 then [Slot.val v, .second] else [.val v]) ++ lg_sl vs).length
    rw [mx_cat, List.length_append, List.length_append, ih]
    by_cases h : v.category = 2 <;> simp [h]
theorem mx_args_ok {h : mxH} {As : List Value} (ho : ∀ v ∈ As, mx_ok h v) : ∀ i, ∀ q ∈ lv_args i As, mx_ok h q.2 := by
  induction As with
  | nil => intro i q hq; cases hq
  | cons v vs ih =>
    intro i q hq
    rcases List.mem_cons.mp hq with e | e
    · rw [e]; exact ho v List.mem_cons_self
    · exact ih (fun w hw => ho w (List.mem_cons_of_mem _ hw)) _ q e
theorem mx_tr_rf (ad : Nat → Nat) (v : Value) (hv : v = .null ∨ ∃ a, v = .ref a) : mx_tr ad v = .null ∨ ∃ a, mx_tr ad v = .ref a := by
  rcases hv with rfl | ⟨a, rfl⟩
  · exact Or.inl rfl
  · exact Or.inr ⟨_, rfl⟩
theorem mx_M_of {y : mxY} {d : Nat} {As : List Value} {h h' : mxH} {r : mxRes} (hpl : plainName y.1.cls = true) (hsz : (lg_sl As).length ≤ y.2.2.1) (X : mx_X y d 0 (lv_args 0 As) [] h r h') : mx_M y d As h r h' := by
  refine ⟨X.1, X.2.1, ?_⟩
  intro l D cA base x0 xc ad hl hok
  have body : ∀ (p : Program) (e : Env) (s : State) (m : MethodId) (args : Array Value) (below : List Frame) (meth : Method) (c : Code) (s₁ : State), BodyLoose p l y.1 (headSpec (mx_ws y) (mx_room d h h')) y.2.1 y.2.2.1 y.2.2.2.1 e s m args below meth c s₁ → c.maxLocals = y.2.2.1 → c.exceptionTable.toList = tableOf y.2.2.2.2 →
      (args = (mx_trS ad As).toArray ∧ mx_Rep D cA base x0 xc ad h s.heap ∧ mx_G D cA base x0 xc s s.heap) →
      W p l e (headSpec (mx_ws y) (mx_room d h h')).room s m args below meth c s.heap [] 0 0 (vx_MQ below
        (fun _ st o t => (∃ v ad', r = .inl v ∧ o = .returned (v.map (mx_tr ad')) ∧ mx_Rep D cA base x0 xc ad' h' t.heap ∧ mx_ext h ad ad') ∧ va_F (mx_A base) st t)
        (fun E st t => (∃ ad', r = .inr E ∧ mx_Rep D cA base x0 xc ad' h' t.heap ∧ mx_ext h ad ad') ∧ va_F (mx_A base) st t) args s (hpC h' - hpC h) (hpS h' - hpS h) (mx_A base)) (entryFrame m args y.2.2.1) := by
    intro p e s m args below meth c s₁ B hml htab hv
    obtain ⟨rfl, hR, hG⟩ := hv
    have hts := atoms_spec (ws := mx_ws y) B.pre
    have hC : mx_C y d p l (headSpec (mx_ws y) (mx_room d h h')).room s m (mx_trS ad As).toArray meth c := ⟨B.exec, B.bytes, B.returns, hml, findClass_of_methodNamed B.named, fun w hw => hts w (List.mem_cons_of_mem _ hw), B.notSynchronized, (name_of_methodNamed B.named B.method).1, Nat.le_refl _, Nat.le_refl _, hl, htab⟩
    have hle := lv_entry (mx_trS ad As) (n := y.2.2.1) (by rw [mx_sl_tr]; exact hsz)
    rw [lg_entry_eq]
    generalize (lg_sl (mx_trS ad As) ++ List.replicate (y.2.2.1 - (lg_sl (mx_trS ad As)).length) Slot.unset).toArray = ls at hle ⊢
    rw [mx_args_tr] at hle
    have e0 : ∀ n : Nat, 0 + n = n := Nat.zero_add
    refine X.2.2 p l e _ s m _ below meth c D cA base x0 xc hC hG s.heap [] 0 0 ls ad hR va_S.rf hle (mx_args_ok hok 0) (fun v hv => by cases hv) (by rw [e0]; exact Nat.le_refl _) (by rw [e0]; exact Nat.le_refl _) _ ?_
    rw [e0, e0]
    refine ⟨fun v hr H' locs' pc' ls' ad' hx hR' hS' hret => vx_ret ?_, fun E hr => ⟨_, _, _, _, rfl, Nat.le_refl _, Nat.le_refl _, fun t ad' hx hR' hF => ⟨⟨ad', hr, hR', hx⟩, hF⟩⟩⟩
    have post : ∀ t : State, t.heap = H' → (∃ v2 ad2, r = .inl v2 ∧ Outcome.returned (v.map (mx_tr ad')) = .returned (v2.map (mx_tr ad2)) ∧ mx_Rep D cA base x0 xc ad2 h' t.heap ∧ mx_ext h ad ad2) ∧ va_F (mx_A base) s t := fun t ht => ⟨⟨v, ad', hr, rfl, by rw [ht]; exact hR', hx⟩, hS'.F ht⟩
    have hlk : meth.locks = false := B.notSynchronized
    match v, hret with
    | none, ⟨hd, hn⟩ => exact W.vret hC.1 hC.2.1 (hC.2.2.1.trans hn) (fun t ht _ => post t ht) hS'.2.2 hd
    | some (.int x), ⟨hd, ty, ht, hnr⟩ => exact W.zret hC.1 hC.2.1 (hC.2.2.1.trans ht) hnr (fun t ht _ => post t ht) hS'.2.2 hd
    | some (.long x), ⟨hd, ht⟩ => exact W.lret hC.1 hC.2.1 (hC.2.2.1.trans ht) (fun t ht _ => post t ht) hS'.2.2 hd
    | some .null, ⟨hd, rt, ht, hrt⟩ => exact W.aret (v := .null) hC.1 hC.2.1 (hC.2.2.1.trans ht) hrt (Or.inl rfl) (fun t ht _ => post t ht) hS'.2.2 hd
    | some (.ref a), ⟨hd, rt, ht, hrt⟩ => exact W.aret (v := .ref (ad' a)) hC.1 hC.2.1 (hC.2.2.1.trans ht) hrt (Or.inr ⟨_, rfl⟩) (fun t ht _ => post t ht) hS'.2.2 hd
  by_cases hh : y.2.2.2.2 = []
  · refine vx_ofW (cc := y.2.1) (maxL := y.2.2.1) (ret := y.2.2.2.1) hpl (by unfold mx_ws mx_code; rw [if_pos hh]) ?_
    intro p e s m args below meth c s₁ B hml ht hv
    refine body p e s m args below meth c s₁ B hml ?_ hv
    rw [hh]
    cases hx : c.exceptionTable.toList with
    | nil => rfl
    | cons x xs => exact (ht x (by rw [hx]; exact List.mem_cons_self)).elim
  · have hws : mx_ws y = Cond.codeWith y.1 y.2.1 y.2.2.1 y.2.2.2.1 y.2.2.2.2 :: mx_tbl := by unfold mx_ws mx_code; rw [if_neg hh]
    refine vx_ofWH (cc := y.2.1) (maxL := y.2.2.1) (ret := y.2.2.2.1) (hh := y.2.2.2.2) hpl hws ?_
    intro p e s m args below meth c s₁ B hml hv
    exact body p e s m args below meth c s₁ B hml (vx_table (x := y.1) B (atoms_spec (ws := mx_ws y) B.pre _ (by rw [hws]; exact List.mem_cons_self))) hv
theorem mx_SM_of {y : mxY} {d : Nat} {As : List Value} {h : mxH} {Q : mxRes → mxH → Prop} (hpl : plainName y.1.cls = true) (hsz : (lg_sl As).length ≤ y.2.2.1) (X : mx_SX y d 0 (lv_args 0 As) [] h Q) : mx_SM y d As h Q := by
  obtain ⟨r, h', hq, x⟩ := X
  exact ⟨r, h', hq, mx_M_of hpl hsz x⟩
variable {y Y : mxY} {d d1 pc index n : Nat} {lv : List (Nat × Value)} {As st st0 : List Value} {h : mxH} {Q Q1 : mxRes → mxH → Prop}
def mx_Qc (D : va_G) (cA : Nat → ClassId) (base : Nat) (x0 : Nat → Nat) (xc : mxXc) (h : mxH) (ad : Nat → Nat) (r : mxRes) (h' : mxH) : Array Value → State → Outcome → State → Prop := fun _ st o t => (∃ v ad', r = .inl v ∧ o = .returned (v.map (mx_tr ad')) ∧ mx_Rep D cA base x0 xc ad' h' t.heap ∧ mx_ext h ad ad') ∧ va_F (mx_A base) st t
def mx_Xc (D : va_G) (cA : Nat → ClassId) (base : Nat) (x0 : Nat → Nat) (xc : mxXc) (h : mxH) (ad : Nat → Nat) (r : mxRes) (h' : mxH) : String → State → State → Prop := fun E st t => (∃ ad', r = .inr E ∧ mx_Rep D cA base x0 xc ad' h' t.heap ∧ mx_ext h ad ad') ∧ va_F (mx_A base) st t
def mx_Pc (D : va_G) (cA : Nat → ClassId) (base : Nat) (x0 : Nat → Nat) (xc : mxXc) (h : mxH) (ad : Nat → Nat) (As : List Value) : Array Value → State → Prop := fun a U => a = (mx_trS ad As).toArray ∧ mx_Rep D cA base x0 xc ad h U.heap ∧ mx_G D cA base x0 xc U U.heap
/-- the end of every call: the callee's run is there -/
theorem mx_fin {A9 : List Value} {r1 : mxRes} {h1 : mxH} (M : mx_M Y d1 A9 h r1 h1) (hst : ∀ v ∈ st, v ∈ st0) (hA : ∀ v ∈ A9, v ∈ st0)
    (hrun : ∀ (p : Program) (l : Launch) (e : Env) (R : Room) (s : State) (m : MethodId) (args : Array Value) (below : List Frame) (meth : Method) (c : Code) (D : va_G) (cA : Nat → ClassId) (base : Nat) (x0 : Nat → Nat) (xc : mxXc),
      mx_C y d p l R s m args meth c → mx_G D cA base x0 xc s s.heap →
      ∀ (H : Heap) (locs : List Loc) (cells slots : Nat) (ls : Array Slot) (ad : Nat → Nat), ls.size = y.2.2.1 → mx_Rep D cA base x0 xc ad h H → va_S (mx_A base) s.heap H locs → (∀ v ∈ st0, mx_ok h v) → cells + (hpC h1 - hpC h) ≤ R.cells → slots + (hpS h1 - hpS h) ≤ R.slots →
        vx_Met l Y.1 (mx_ws Y) (mx_room d1 h h1) (mx_Pc D cA base x0 xc h ad A9) (mx_Qc D cA base x0 xc h ad r1 h1) (mx_Xc D cA base x0 xc h ad r1 h1) (hpC h1 - hpC h) (hpS h1 - hpS h) (mx_A base) →
        vx_Run p l e R s m args below meth c H locs cells slots (hpC h1 - hpC h) (hpS h1 - hpS h) (F0 m pc ls (mx_trS ad st0)) (mx_trS ad st) (mx_Qc D cA base x0 xc h ad r1 h1 (mx_trS ad A9).toArray) (mx_Xc D cA base x0 xc h ad r1 h1) (mx_A base))
    (kk : ∀ v, r1 = .inl v → mx_SX y d (pc + 3) lv (v.toList ++ st) h1 Q) (kx : ∀ E, r1 = .inr E → y.2.2.2.2 = [] ∧ Q (.inr E) h1) : mx_SX y d pc lv st0 h Q := by
  cases r1 with
  | inl v =>
    obtain ⟨r, h', hq, x1, x2, x3⟩ := kk v rfl
    refine ⟨r, h', hq, M.1.tr x1, x2, ?_⟩
    intro p l e R s m args below meth c D cA base x0 xc hC hG H locs cells slots ls ad hR hS hl ho1 ho2 hc hs Qf hE
    have a1 := M.1.2.1
    have a2 := M.1.2.2
    have b1 := x1.2.1
    have b2 := x1.2.2
    have e1 : cells + (hpC h1 - hpC h) + (hpC h' - hpC h1) = cells + (hpC h' - hpC h) := by omega
    have e2 : slots + (hpS h1 - hpS h) + (hpS h' - hpS h1) = slots + (hpS h' - hpS h) := by omega
    have run := hrun p l e R s m args below meth c D cA base x0 xc hC hG H locs cells slots ls ad hl.1 hR hS ho2 (by omega) (by omega) (M.2.2 l D cA base x0 xc ad hC.2.2.2.2.2.2.2.2.2.2.1 (fun v hv => ho2 v (hA v hv)))
    intro T hT X
    rcases run T hT X with ⟨v', st9, t, T', L, h0, X', hL, g1, g2, ⟨⟨v9, ad', hr, ho, hRep, hx⟩, hz, hk⟩, hgo⟩ | ⟨q, st9, t, T', L, E, ce, h0, X', hL, g1, g2, ⟨⟨ad', hr, -⟩, -⟩, -⟩
    · cases hr
      have hv' : v' = v.map (mx_tr ad') := Outcome.returned.inj ho
      subst hv'
      rw [h0] at hz hk
      have hos : ∀ w ∈ st, mx_ok h w := fun w hw => ho2 w (hst w hw)
      have hmono : ∀ w, mx_ok h w → mx_ok h1 w := fun w hw => mx_ok.mono M.1.1 hw
      have hstk : (v.map (mx_tr ad')).toList ++ mx_trS ad st = mx_trS ad' (v.toList ++ st) := by
        rw [← mx_trS_ext hx hos]
        cases v <;> simp [mx_trS]
      have hS1 : va_S (mx_A base) s.heap T'.heap (locs ++ L) := ⟨Nat.le_trans hS.1 (by rw [g1]; exact hz), fun q h1 h2 => by rw [g1, hk q (Nat.lt_of_lt_of_le h1 hS.1) h2]; exact hS.2.1 q h1 h2, fun q hq => (List.mem_append.mp hq).elim (hS.2.2 q) (hL q)⟩
      obtain ⟨t2, u1, u2⟩ := x3 p l e R s m args below meth c D cA base x0 xc hC hG T'.heap (locs ++ L) (cells + (hpC h1 - hpC h)) (slots + (hpS h1 - hpS h)) ls ad' (by rw [g1]; exact hRep) hS1 (by rw [mx_trL_ext hx ho1]; exact hl) (fun q hq => hmono _ (ho1 q hq)) (fun w hw => by
        rcases List.mem_append.mp hw with hw | hw
        · cases v with
          | none => cases hw
          | some z => rw [show w = z from by simpa using hw]; exact M.2.1 z rfl
        · exact hmono _ (hos w hw)) (by omega) (by omega) Qf (by
          rw [e1, e2]
          refine ⟨fun v hv H' locs' pc' ls' ad2 hx' hR' hS' hret => hE.1 v hv H' locs' pc' ls' ad2 (mx_ext.tr M.1.1 hx hx') hR' hS' hret, fun E hE' => ?_⟩
          obtain ⟨Qc, XC, mc, ms, q1, q2, q3, q4⟩ := hE.2 E hE'
          exact ⟨Qc, XC, mc, ms, q1, q2, q3, fun t ad2 hx' hR' hF => q4 t ad2 (mx_ext.tr M.1.1 hx hx') hR' hF⟩) T' rfl X'
      refine ⟨t2, hgo t2 ?_, u2⟩
      rw [← hstk] at u1
      exact u1
    · cases hr
  | inr E =>
    obtain ⟨htab, hq⟩ := kx E rfl
    refine ⟨.inr E, h1, hq, M.1, fun v hv => (by cases hv), ?_⟩
    intro p l e R s m args below meth c D cA base x0 xc hC hG H locs cells slots ls ad hR hS hl ho1 ho2 hc hs Qf hE
    have run := hrun p l e R s m args below meth c D cA base x0 xc hC hG H locs cells slots ls ad hl.1 hR hS ho2 hc hs (M.2.2 l D cA base x0 xc ad hC.2.2.2.2.2.2.2.2.2.2.1 (fun v hv => ho2 v (hA v hv)))
    obtain ⟨Qc, XC, mc, ms, q1, q2, q3, q4⟩ := hE.2 E rfl
    subst q1
    intro T hT X
    rcases run T hT X with ⟨v', st9, t, T', L, h0, X', hL, g1, g2, ⟨⟨v9, ad', hr, -⟩, -⟩, -⟩ | ⟨q, st9, t, T', L, E', ce, h0, X', hL, g1, g2, ⟨⟨ad', hr, hRep, hx⟩, hz, hk⟩, hce, hcv, hcl, hst9⟩
    · cases hr
    · cases hr
      rw [h0] at hz hk
      have hS1 : va_S (mx_A base) s.heap T'.heap (locs ++ L) := ⟨Nat.le_trans hS.1 (by rw [g1]; exact hz), fun q h1 h2 => by rw [g1, hk q (Nat.lt_of_lt_of_le h1 hS.1) h2]; exact hS.2.1 q h1 h2, fun q hq => (List.mem_append.mp hq).elim (hS.2.2 q) (hL q)⟩
      have hout := vx_out (p := p) (l := l) (e := e) (R := R) (s := s) (m := m) (args := args) (below := below) (meth := meth) (c := c) (H := T'.heap) (locs := locs ++ L) (cells := cells + (hpC h1 - hpC h)) (slots := slots + (hpS h1 - hpS h)) (free := mx_A base) (ls := ls) (rest := mx_trS ad st) (Qc := Qc) (XC := XC) (pc := pc) (E := E) (ce := ce) (q := q) (mc := mc) (ms := ms)
        (fun x hx => by rw [hC.2.2.2.2.2.2.2.2.2.2.2, htab] at hx; cases hx) hC.2.2.2.2.2.2.1 (by rw [g1]; exact hce) hcv hcl (fun t2 ht2 _ => q4 t2 ad' hx (by rw [ht2, g1]; exact hRep) (hS1.F ht2)) hS1.2.2 q2 q3
      obtain ⟨t2, u1, u2⟩ := hout T' rfl X'
      exact ⟨t2, hst9.trans u1, u2⟩
end MXM
