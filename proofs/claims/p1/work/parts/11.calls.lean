/-! the kinds of calls; throws; members of the JDK -/
section MXK
variable {y Y : mxY} {d d1 pc index n : Nat} {lv : List (Nat × Value)} {As st st0 : List Value} {h : mxH} {Q Q1 : mxRes → mxH → Prop}
theorem mx_G.same {D : va_G} {cA : Nat → ClassId} {base : Nat} {x0 : Nat → Nat} {xc : mxXc} {s U : State} {H : Heap} (h : mx_G D cA base x0 xc s H) (hv : s.vm = U.vm) : mx_G D cA base x0 xc U H := by
  obtain ⟨h1, h2, h3, h4, ⟨h5, h6, h7, h8⟩, h9, h10⟩ := h
  have ha : s.vm.Alike U.vm := by rw [hv]; exact Vm.Alike.refl U.vm
  refine ⟨va_K.moved ha h1, h2, mx_E.moved ha h3, fun w hw hk => va_Nw.same ?_ hv (h4 w hw hk), ⟨va_AO.moved ha h5, va_AO.moved ha h6, va_AO.moved ha h7, va_AO.moved ha h8⟩, fun i q hq => vk_R.same hv.symm (h9 i q hq), va_Nc.moved ha h10⟩
  unfold mx_softk at hk
  rw [Bool.and_eq_true] at hk
  exact hk.1
theorem mx_blind (D : va_G) (cA : Nat → ClassId) (base : Nat) (x0 : Nat → Nat) (xc : mxXc) (h : mxH) (ad : Nat → Nat) (As : List Value) : FrameBlind (mx_Pc D cA base x0 xc h ad As) := fun a U g mk q => ⟨q.1, q.2.1, mx_G.same q.2.2 rfl⟩
theorem mx_pcOf {D : va_G} {cA : Nat → ClassId} {base : Nat} {x0 : Nat → Nat} {xc : mxXc} {ad : Nat → Nat} {s U : State} {H : Heap} {locs : List Loc} (hG : mx_G D cA base x0 xc s s.heap) (hR : mx_Rep D cA base x0 xc ad h H) (hS : va_S (mx_A base) s.heap H locs) (hU : U.heap = H) (hW : s.WarmedH U.vm) : mx_Pc D cA base x0 xc h ad As (mx_trS ad As).toArray U := ⟨rfl, by rw [hU]; exact hR, hG.call hS hW hU⟩
theorem mx_goodIn {ws : List Cond} (h : ∀ w ∈ ws, w ∈ mx_tbl) : GoodIn mx_tbl ws := fun w hw => mx_tbl_good w (h w hw)
theorem mx_wsIn {Y : mxY} (h : mx_code Y ∈ mx_tbl) : ∀ w ∈ mx_ws Y, w ∈ mx_tbl := fun w hw => (List.mem_cons.mp hw).elim (fun e => e ▸ h) id
theorem mx_ws0 {Y : mxY} (h : Y.2.2.2.2 = []) : mx_ws Y = Cond.code Y.1 Y.2.1 Y.2.2.1 Y.2.2.2.1 :: mx_tbl := by unfold mx_ws mx_code; rw [if_pos h]
theorem mx_roomOk {R : Room} {h1 : mxH} {d d1 mL : Nat} (hdd : d1 + 1 ≤ d) (hmL : mL ≤ 22) (hf : d ≤ R.frames) (hl : 41 * d ≤ R.locals) : (mx_room d1 h h1).frames + 1 ≤ R.frames ∧ 8 + (mL + 11) + (mx_room d1 h h1).locals ≤ R.locals := by
  show d1 + 1 ≤ R.frames ∧ 8 + (mL + 11) + 41 * d1 ≤ R.locals
  omega
theorem mx_rev (ad : Nat → Nat) (As st : List Value) : mx_trS ad (As.reverse ++ st) = (mx_trS ad As).reverse ++ mx_trS ad st := by
  unfold mx_trS
  rw [List.map_append, List.map_reverse]
theorem mx_cats (ad : Nat → Nat) (st : List Value) : ((mx_trS ad st).map fun v => v.category).sum = (st.map fun v => v.category).sum := by
  unfold mx_trS
  rw [List.map_map]
  congr 1
  exact List.map_congr_left fun v _ => mx_cat ad v
theorem mx_lenS (ad : Nat → Nat) (As : List Value) : (mx_trS ad As).length = As.length := List.length_map _
theorem mx_callV {b ci : Nat} (hl : Cond.methodLink y.1.cls index Y.1 ∈ mx_tbl) (hY : mx_YV Y n) (hn : As.length = n) (hK : hpK h b = ci) (hci : ci < 13) (hcls : mx_RX ci = Y.1.cls) (hw : (st.map fun v => v.category).sum ≤ 8) (hst : st0 = As.reverse ++ .ref b :: st) (hd : decode y.2.1 pc = .ok (.invokevirtual index, 3)) (hdd : d1 + 1 ≤ d) (hmL : Y.2.2.1 ≤ 22)
    (M : mx_SM Y d1 (.ref b :: As) h Q1) (kk : ∀ v h1, Q1 (.inl v) h1 → mx_SX y d (pc + 3) lv (v.toList ++ st) h1 Q) (kx : ∀ E h1, Q1 (.inr E) h1 → y.2.2.2.2 = [] ∧ Q (.inr E) h1) : mx_SX y d pc lv st0 h Q := by
  obtain ⟨r1, h1, hq1, MM⟩ := M
  obtain ⟨w1, w2, w3, w4, ⟨w5, w6, w7⟩, w8, w9⟩ := hY
  have hb0 : Value.ref b ∈ st0 := by rw [hst]; exact List.mem_append_right _ List.mem_cons_self
  refine mx_fin (st := st) MM (fun v hv => by rw [hst]; exact List.mem_append_right _ (List.mem_cons_of_mem _ hv)) (fun v hv => ?_) ?_ (fun v e => kk v h1 (e ▸ hq1)) (fun E e => kx E h1 (e ▸ hq1))
  · rcases List.mem_cons.mp hv with e | e
    · rw [e]; exact hb0
    · rw [hst]; exact List.mem_append_left _ (List.mem_reverse.mpr e)
  · intro p l e R s m args below meth c D cA base x0 xc hC hG H locs cells slots ls ad hsz hR hS ho hc hs hM
    obtain ⟨cellB, g1, g2, g3, -⟩ := mx_obj hR (ho _ hb0) hK hci
    have hfc := (hG.1.1 ci _ (mx_cl ci hci)).2.1
    have e0 : mx_trS ad st0 = (mx_trS ad As).reverse ++ .ref (ad b) :: mx_trS ad st := by rw [hst, mx_rev]; rfl
    rw [e0]
    exact vx_runV (C := Y.1.cls) (index := index) (bytes := Y.2.1) (maxL := Y.2.2.1) (ret := Y.2.2.2.1) (b := ad b) (As := mx_trS ad As) (rest := mx_trS ad st) (Ts := mx_tbl) (own := y.1.cls) (nL := y.2.2.1) (cc := y.2.1)
      ⟨hC.1, hC.2.1, hC.2.2.2.1, hC.2.2.2.2.1, hC.2.2.2.2.2.1⟩ hM
      (cwV n hC.2.2.2.2.2.1 (mx_goodIn (fun w hw => by
        rcases List.mem_append.mp hw with hw | hw
        · simp only [List.mem_cons, List.not_mem_nil, or_false] at hw
          rcases hw with rfl | rfl | rfl | rfl
          · exact hl
          · exact w1
          · exact w2
          · exact w3
        · exact mx_wsIn w4 w hw)) (mx_ws0 w9) rfl rfl ⟨rfl, w5, w6, w7⟩ (mx_roomOk hdd hmL hC.2.2.2.2.2.2.2.2.1 hC.2.2.2.2.2.2.2.2.2.1))
      ⟨mx_blind _ _ _ _ _ _ _ _, ⟨cellB, g1, by rw [g3]; rfl, by rw [g2, ← hcls]; exact hfc⟩, fun U hU hW => mx_pcOf (As := .ref b :: As) hG hR hS hU hW⟩
      rfl (by rw [mx_lenS]; exact hn) hsz rfl (lv_room (by rw [mx_cats]; exact hw)) hd ⟨hc, hs⟩
theorem mx_callS (hl : Cond.methodLink y.1.cls index Y.1 ∈ mx_tbl) (hY : mx_YS Y n) (hh : Y.2.2.2.2 = []) (hn : As.length = n) (hw : (st.map fun v => v.category).sum ≤ 8) (hst : st0 = As.reverse ++ st) (hd : decode y.2.1 pc = .ok (.invokestatic index, 3)) (hdd : d1 + 1 ≤ d) (hmL : Y.2.2.1 ≤ 22)
    (M : mx_SM Y d1 As h Q1) (kk : ∀ v h1, Q1 (.inl v) h1 → mx_SX y d (pc + 3) lv (v.toList ++ st) h1 Q) (kx : ∀ E h1, Q1 (.inr E) h1 → y.2.2.2.2 = [] ∧ Q (.inr E) h1) : mx_SX y d pc lv st0 h Q := by
  obtain ⟨r1, h1, hq1, MM⟩ := M
  obtain ⟨w1, w3, w4, ⟨w5, w6, w7⟩, w8⟩ := hY
  refine mx_fin (st := st) MM (fun v hv => by rw [hst]; exact List.mem_append_right _ hv) (fun v hv => by rw [hst]; exact List.mem_append_left _ (List.mem_reverse.mpr hv)) ?_ (fun v e => kk v h1 (e ▸ hq1)) (fun E e => kx E h1 (e ▸ hq1))
  intro p l e R s m args below meth c D cA base x0 xc hC hG H locs cells slots ls ad hsz hR hS ho hc hs hM
  have e0 : mx_trS ad st0 = (mx_trS ad As).reverse ++ mx_trS ad st := by rw [hst, mx_rev]
  rw [e0]
  exact vx_runS (index := index) (bytes := Y.2.1) (maxL := Y.2.2.1) (ret := Y.2.2.2.1) (As := mx_trS ad As) (rest := mx_trS ad st) (Ts := mx_tbl) (own := y.1.cls) (nL := y.2.2.1) (cc := y.2.1)
    ⟨hC.1, hC.2.1, hC.2.2.2.1, hC.2.2.2.2.1, hC.2.2.2.2.2.1⟩ hM
    (va_cwS n hC.2.2.2.2.2.1 (mx_goodIn (fun w hw => by
      rcases List.mem_append.mp hw with hw | hw
      · simp only [List.mem_cons, List.not_mem_nil, or_false] at hw
        rcases hw with rfl | rfl | rfl
        · exact hl
        · exact w1
        · exact w3
      · exact mx_wsIn w4 w hw)) (mx_ws0 hh) rfl rfl ⟨w5, w6, w7⟩ (mx_roomOk hdd hmL hC.2.2.2.2.2.2.2.2.1 hC.2.2.2.2.2.2.2.2.2.1))
    ⟨mx_blind _ _ _ _ _ _ _ _, fun U hU hW => mx_pcOf hG hR hS hU hW⟩
    rfl (by rw [mx_lenS]; exact hn) hsz rfl (lv_room (by rw [mx_cats]; exact hw)) hd ⟨hc, hs⟩
/-- a run that returns is a run without throws -/
theorem mx_noX {l : Launch} {D : va_G} {cA : Nat → ClassId} {base : Nat} {x0 : Nat → Nat} {xc : mxXc} {ad : Nat → Nat} {h1 : mxH} {v : Option Value} {Pc : Array Value → State → Prop} {ws : List Cond} {rm : Room} {mc ms : Nat} {yn : MethodName}
    (hM : vx_Met l yn ws rm Pc (mx_Qc D cA base x0 xc h ad (.inl v) h1) (mx_Xc D cA base x0 xc h ad (.inl v) h1) mc ms (mx_A base)) : Met l yn ws rm Pc (mx_Qc D cA base x0 xc h ad (.inl v) h1) mc ms (mx_A base) := by
  intro p e ha hc hk s m args below hf happ hP hKK
  obtain ⟨k, o, b1, b2, b3, hQ⟩ := hM p e ha hc hk s m args below hf happ hP hKK
  refine ⟨k, o, b1, b2, b3, ?_⟩
  rcases hQ with hQ | ⟨q, ho, E, ce, L, hX, -⟩
  · exact hQ
  · obtain ⟨⟨ad', hr, -⟩, -⟩ := hX
    cases hr
theorem mx_vaRun {p : Program} {l : Launch} {e : Env} {R : Room} {s : State} {m : MethodId} {args : Array Value} {below : List Frame} {meth : Method} {c : Code} {H : Heap} {locs : List Loc} {cells slots mc ms : Nat} {g : JFrame} {rest : List Value} {Qa : State → Outcome → State → Prop} {XC : String → State → State → Prop} {free : Addr → Prop}
    (hr : va_Run p l e R s m args below meth c H locs cells slots mc ms g rest Qa free) : vx_Run p l e R s m args below meth c H locs cells slots mc ms g rest Qa XC free := fun T hT X => Or.inl (hr T hT X)
theorem mx_callI {b : Nat} {P : mxH → Prop} (hl : Cond.methodLink y.1.cls index Y.1 ∈ mx_tbl) (hY : mx_YI Y n) (hret : Y.2.2.2.1 = none) (hn : As.length = n) (hw : (st.map fun v => v.category).sum ≤ 8) (hst : st0 = As.reverse ++ .ref b :: st) (hd : decode y.2.1 pc = .ok (.invokespecial index, 3)) (hdd : d1 + 1 ≤ d) (hmL : Y.2.2.1 ≤ 22)
    (M : mx_SM Y d1 (.ref b :: As) h (fun r h1 => r = .inl none ∧ P h1)) (kk : ∀ h1, P h1 → mx_SX y d (pc + 3) lv st h1 Q) : mx_SX y d pc lv st0 h Q := by
  obtain ⟨r1, h1, ⟨rfl, hq1⟩, MM⟩ := M
  obtain ⟨w1, w2, w3, w4, ⟨w5, w6, w7⟩, w8, w9⟩ := hY
  have hb0 : Value.ref b ∈ st0 := by rw [hst]; exact List.mem_append_right _ List.mem_cons_self
  refine mx_fin (st := st) MM (fun v hv => by rw [hst]; exact List.mem_append_right _ (List.mem_cons_of_mem _ hv)) (fun v hv => ?_) ?_ (fun v e => by cases e; exact kk h1 hq1) (fun E e => by cases e)
  · rcases List.mem_cons.mp hv with e | e
    · rw [e]; exact hb0
    · rw [hst]; exact List.mem_append_left _ (List.mem_reverse.mpr e)
  · intro p l e R s m args below meth c D cA base x0 xc hC hG H locs cells slots ls ad hsz hR hS ho hc hs hM
    have e0 : mx_trS ad st0 = (mx_trS ad As).reverse ++ .ref (ad b) :: mx_trS ad st := by rw [hst, mx_rev]; rfl
    rw [e0]
    exact mx_vaRun (va_runI (index := index) (bytes := Y.2.1) (maxL := Y.2.2.1) (b := ad b) (As := mx_trS ad As) (rest := mx_trS ad st) (Ts := mx_tbl) (own := y.1.cls) (nL := y.2.2.1) (cc := y.2.1)
      ⟨hC.1, hC.2.1, hC.2.2.2.1, hC.2.2.2.2.1, hC.2.2.2.2.2.1⟩ (mx_noX hM)
      (cwI n hC.2.2.2.2.2.1 (mx_goodIn (mx_wsIn w4)) (by rw [mx_ws0 w9, hret]) rfl rfl (hC.2.2.2.2.2.1 _ w3) (hC.2.2.2.2.2.1 _ hl) (hC.2.2.2.2.2.1 _ w1) w2 ⟨w5, w6, w7⟩ (mx_roomOk hdd hmL hC.2.2.2.2.2.2.2.2.1 hC.2.2.2.2.2.2.2.2.2.1))
      ⟨mx_blind _ _ _ _ _ _ _ _, fun U hU hW => mx_pcOf (As := .ref b :: As) hG hR hS hU hW⟩
      rfl (by rw [mx_lenS]; exact hn) hsz rfl (lv_room (by rw [mx_cats]; exact hw)) hd ⟨hc, hs⟩)
/-- a private method or constructor of a nest mate -/
theorem mx_callIN {b : Nat} {host : String} {P : mxH → Prop} (hl : Cond.methodLinkNest y.1.cls index Y.1 host ∈ lw_tbl) (hY : mx_YI Y n) (hret : Y.2.2.2.1 = none) (hn : As.length = n) (hw : (st.map fun v => v.category).sum ≤ 8) (hst : st0 = As.reverse ++ .ref b :: st) (hd : decode y.2.1 pc = .ok (.invokespecial index, 3)) (hdd : d1 + 1 ≤ d) (hmL : Y.2.2.1 ≤ 22)
    (M : mx_SM Y d1 (.ref b :: As) h (fun r h1 => r = .inl none ∧ P h1)) (kk : ∀ h1, P h1 → mx_SX y d (pc + 3) lv st h1 Q) : mx_SX y d pc lv st0 h Q := by
  obtain ⟨r1, h1, ⟨rfl, hq1⟩, MM⟩ := M
  obtain ⟨w1, w2, w3, w4, w567, w8, w9⟩ := hY
  have hb0 : Value.ref b ∈ st0 := by rw [hst]; exact List.mem_append_right _ List.mem_cons_self
  refine mx_fin (st := st) MM (fun v hv => by rw [hst]; exact List.mem_append_right _ (List.mem_cons_of_mem _ hv)) (fun v hv => ?_) ?_ (fun v e => by cases e; exact kk h1 hq1) (fun E e => by cases e)
  · rcases List.mem_cons.mp hv with e | e
    · rw [e]; exact hb0
    · rw [hst]; exact List.mem_append_left _ (List.mem_reverse.mpr e)
  · intro p l e R s m args below meth c D cA base x0 xc hC hG H locs cells slots ls ad hsz hR hS ho hc hs hM
    have e0 : mx_trS ad st0 = (mx_trS ad As).reverse ++ .ref (ad b) :: mx_trS ad st := by rw [hst, mx_rev]; rfl
    rw [e0]
    exact mx_vaRun (va_runIN (index := index) (bytes := Y.2.1) (maxL := Y.2.2.1) (b := ad b) (As := mx_trS ad As) (rest := mx_trS ad st) (Ts := mx_tbl) (own := y.1.cls) (host := host) (nL := y.2.2.1) (cc := y.2.1)
      ⟨hC.1, hC.2.1, hC.2.2.2.1, hC.2.2.2.2.1, hC.2.2.2.2.2.1⟩ (mx_noX hM)
      ⟨va_cnB n hC.2.2.2.2.2.1 (mx_goodIn (mx_wsIn w4)) (by rw [mx_ws0 w9, hret]) rfl rfl (hG.2.2.2.1 _ hl rfl) (hC.2.2.2.2.2.1 _ w3) w567 (mx_roomOk hdd hmL hC.2.2.2.2.2.2.2.2.1 hC.2.2.2.2.2.2.2.2.2.1), w2, hC.2.2.2.2.2.1 _ w1⟩
      ⟨mx_blind _ _ _ _ _ _ _ _, fun U hU hW => mx_pcOf (As := .ref b :: As) hG hR hS hU hW⟩
      rfl (by rw [mx_lenS]; exact hn) hsz rfl (lv_room (by rw [mx_cats]; exact hw)) hd ⟨hc, hs⟩)
theorem mx_callSN {host : String} {P : Option Value → mxH → Prop} (hl : Cond.methodLinkNest y.1.cls index Y.1 host ∈ lw_tbl) (hY : mx_YS Y n) (hh : Y.2.2.2.2 = []) (hn : As.length = n) (hw : (st.map fun v => v.category).sum ≤ 8) (hst : st0 = As.reverse ++ st) (hd : decode y.2.1 pc = .ok (.invokestatic index, 3)) (hdd : d1 + 1 ≤ d) (hmL : Y.2.2.1 ≤ 22)
    (M : mx_SM Y d1 As h (fun r h1 => ∃ v, r = .inl v ∧ P v h1)) (kk : ∀ v h1, P v h1 → mx_SX y d (pc + 3) lv (v.toList ++ st) h1 Q) : mx_SX y d pc lv st0 h Q := by
  obtain ⟨r1, h1, ⟨v, rfl, hq1⟩, MM⟩ := M
  obtain ⟨w1, w3, w4, w567, w8⟩ := hY
  refine mx_fin (st := st) MM (fun v hv => by rw [hst]; exact List.mem_append_right _ hv) (fun v hv => by rw [hst]; exact List.mem_append_left _ (List.mem_reverse.mpr hv)) ?_ (fun v e => by cases e; exact kk v h1 hq1) (fun E e => by cases e)
  intro p l e R s m args below meth c D cA base x0 xc hC hG H locs cells slots ls ad hsz hR hS ho hc hs hM
  have e0 : mx_trS ad st0 = (mx_trS ad As).reverse ++ mx_trS ad st := by rw [hst, mx_rev]
  rw [e0]
  exact mx_vaRun (va_runSN (index := index) (bytes := Y.2.1) (maxL := Y.2.2.1) (ret := Y.2.2.2.1) (As := mx_trS ad As) (rest := mx_trS ad st) (Ts := mx_tbl) (own := y.1.cls) (host := host) (nL := y.2.2.1) (cc := y.2.1)
    ⟨hC.1, hC.2.1, hC.2.2.2.1, hC.2.2.2.2.1, hC.2.2.2.2.2.1⟩ (mx_noX hM)
    ⟨va_cnB n hC.2.2.2.2.2.1 (mx_goodIn (mx_wsIn w4)) (mx_ws0 hh) rfl rfl (hG.2.2.2.1 _ hl rfl) (hC.2.2.2.2.2.1 _ w3) w567 (mx_roomOk hdd hmL hC.2.2.2.2.2.2.2.2.1 hC.2.2.2.2.2.2.2.2.2.1), hC.2.2.2.2.2.1 _ w1, trivial⟩
    ⟨mx_blind _ _ _ _ _ _ _ _, fun U hU hW => mx_pcOf hG hR hS hU hW⟩
    rfl (by rw [mx_lenS]; exact hn) hsz rfl (lv_room (by rw [mx_cats]; exact hw)) hd ⟨hc, hs⟩)
/-- a static method with a table of handlers, that returns -/
theorem mx_callSW {P : Option Value → mxH → Prop} (hl : Cond.methodLink y.1.cls index Y.1 ∈ mx_tbl) (hY : mx_YS Y n) (hh : Y.2.2.2.2 ≠ []) (hn : As.length = n) (hw : (st.map fun v => v.category).sum ≤ 8) (hst : st0 = As.reverse ++ st) (hd : decode y.2.1 pc = .ok (.invokestatic index, 3)) (hdd : d1 + 1 ≤ d) (hmL : Y.2.2.1 ≤ 22)
    (M : mx_SM Y d1 As h (fun r h1 => ∃ v, r = .inl v ∧ P v h1)) (kk : ∀ v h1, P v h1 → mx_SX y d (pc + 3) lv (v.toList ++ st) h1 Q) : mx_SX y d pc lv st0 h Q := by
  obtain ⟨r1, h1, ⟨v, rfl, hq1⟩, MM⟩ := M
  obtain ⟨w1, w3, w4, ⟨w5, w6, w7⟩, w8⟩ := hY
  refine mx_fin (st := st) MM (fun v hv => by rw [hst]; exact List.mem_append_right _ hv) (fun v hv => by rw [hst]; exact List.mem_append_left _ (List.mem_reverse.mpr hv)) ?_ (fun v e => by cases e; exact kk v h1 hq1) (fun E e => by cases e)
  intro p l e R s m args below meth c D cA base x0 xc hC hG H locs cells slots ls ad hsz hR hS ho hc hs hM
  have e0 : mx_trS ad st0 = (mx_trS ad As).reverse ++ mx_trS ad st := by rw [hst, mx_rev]
  have hws : mx_ws Y = Cond.codeWith Y.1 Y.2.1 Y.2.2.1 Y.2.2.2.1 Y.2.2.2.2 :: mx_tbl := by unfold mx_ws mx_code; rw [if_neg hh]
  rw [e0]
  exact mx_vaRun (vx_runSW (index := index) (bytes := Y.2.1) (maxL := Y.2.2.1) (ret := Y.2.2.2.1) (hh := Y.2.2.2.2) (As := mx_trS ad As) (rest := mx_trS ad st) (Ts := mx_tbl) (own := y.1.cls) (nL := y.2.2.1) (cc := y.2.1)
    ⟨hC.1, hC.2.1, hC.2.2.2.1, hC.2.2.2.2.1, hC.2.2.2.2.2.1⟩ (mx_noX hM)
    (vx_cwSW n hC.2.2.2.2.2.1 (mx_goodIn (fun w hw => by
      rcases List.mem_append.mp hw with hw | hw
      · simp only [List.mem_cons, List.not_mem_nil, or_false] at hw
        rcases hw with rfl | rfl | rfl
        · exact hl
        · exact w1
        · exact w3
      · exact mx_wsIn w4 w hw)) hws rfl rfl ⟨w5, w6, w7⟩ (mx_roomOk hdd hmL hC.2.2.2.2.2.2.2.2.1 hC.2.2.2.2.2.2.2.2.2.1))
    ⟨mx_blind _ _ _ _ _ _ _ _, fun U hU hW => mx_pcOf hG hR hS hU hW⟩
    rfl (by rw [mx_lenS]; exact hn) hsz rfl (lv_room (by rw [mx_cats]; exact hw)) hd ⟨hc, hs⟩)
end MXK
