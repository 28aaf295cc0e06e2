/-! a throw that is caught in the law's small methods; texts -/
section MXT
variable {y Y : mxY} {d d1 pc index n : Nat} {lv : List (Nat × Value)} {As st st0 : List Value} {h : mxH} {Q Q1 : mxRes → mxH → Prop}
theorem mx_finT {A9 : List Value} {h1 : mxH} {E nm : String} (M : mx_M Y d1 A9 h (.inr E) h1) (hA : ∀ v ∈ A9, v ∈ st0)
    (hrun : ∀ (p : Program) (l : Launch) (e : Env) (R : Room) (s : State) (m : MethodId) (args : Array Value) (below : List Frame) (meth : Method) (c : Code) (D : va_G) (cA : Nat → ClassId) (base : Nat) (x0 : Nat → Nat) (xc : mxXc),
      mx_C y d p l R s m args meth c → mx_G D cA base x0 xc s s.heap →
      ∀ (H : Heap) (locs : List Loc) (cells slots : Nat) (ls : Array Slot) (ad : Nat → Nat), ls.size = y.2.2.1 → mx_Rep D cA base x0 xc ad h H → va_S (mx_A base) s.heap H locs → (∀ v ∈ st0, mx_ok h v) → cells + (hpC h1 - hpC h) ≤ R.cells → slots + (hpS h1 - hpS h) ≤ R.slots →
        vx_Met l Y.1 (mx_ws Y) (mx_room d1 h h1) (mx_Pc D cA base x0 xc h ad A9) (mx_Qc D cA base x0 xc h ad (.inr E) h1) (mx_Xc D cA base x0 xc h ad (.inr E) h1) (hpC h1 - hpC h) (hpS h1 - hpS h) (mx_A base) →
        vx_Run p l e R s m args below meth c H locs cells slots (hpC h1 - hpC h) (hpS h1 - hpS h) (F0 m pc ls (mx_trS ad st0)) (mx_trS ad st) (mx_Qc D cA base x0 xc h ad (.inr E) h1 (mx_trS ad A9).toArray) (mx_Xc D cA base x0 xc h ad (.inr E) h1) (mx_A base))
    (pre : List ExceptionTableEntry) (x : ExceptionTableEntry) (suf : List ExceptionTableEntry) (hsplit : tableOf y.2.2.2.2 = pre ++ x :: suf) (hpass : ∀ z ∈ pre, covers z pc = false ∨ (z.catchType ≠ 0 ∧ Cond.classLink y.1.cls z.catchType "java/lang/IndexOutOfBoundsException" ∈ mx_tbl ∧ E = "java/lang/IllegalArgumentException"))
    (hx : covers x pc = true) (h0 : x.catchType ≠ 0) (hlink : Cond.classLink y.1.cls x.catchType nm ∈ mx_tbl) (hcast : Cond.castable E nm ∈ lw_tbl) {ki la : Nat} {nn : Int} {v : Int32} (dA : (∃ k : Fin 4, decode y.2.1 x.handlerPc = .ok (.astore_n k, 1) ∧ (k : Nat) = ki ∧ la = 1) ∨ (decode y.2.1 x.handlerPc = .ok (.astore ki, 2) ∧ la = 2)) (hki : ki < y.2.2.1)
    (dB : decode y.2.1 (x.handlerPc + la) = .ok (.iconst nn, 1)) (hv : Int32.ofInt nn = v) (dC : decode y.2.1 (x.handlerPc + la + 1) = .ok (.ireturn, 1)) (hret : y.2.2.2.1 = some .int) (hq : Q (.inl (some (.int v))) h1) : mx_SX y d pc lv st0 h Q := by
  refine ⟨.inl (some (.int v)), h1, hq, M.1, fun w hw => (by cases hw; trivial), ?_⟩
  intro p l e R s m args below meth c D cA base x0 xc hC hG H locs cells slots ls ad hR hS hl ho1 ho2 hc hs Qf hE
  have run := hrun p l e R s m args below meth c D cA base x0 xc hC hG H locs cells slots ls ad hl.1 hR hS ho2 hc hs (M.2.2 l D cA base x0 xc ad hC.2.2.2.2.2.2.2.2.2.2.1 (fun v hv => ho2 v (hA v hv)))
  intro T hT X
  rcases run T hT X with ⟨v', st9, t, T', L, h0, X', hL, g1, g2, ⟨⟨v9, ad', hr, -⟩, -⟩, -⟩ | ⟨q, st9, t, T', L, E', ce, h0', X', hL, g1, g2, ⟨⟨ad', hr, hRep, hx'⟩, hz, hk⟩, hce, hcv, hcl, hst9⟩
  · cases hr
  · cases hr
    rw [h0'] at hz hk
    have hS1 : va_S (mx_A base) s.heap T'.heap (locs ++ L) := ⟨Nat.le_trans hS.1 (by rw [g1]; exact hz), fun q h1 h2 => by rw [g1, hk q (Nat.lt_of_lt_of_le h1 hS.1) h2]; exact hS.2.1 q h1 h2, fun q hq => (List.mem_append.mp hq).elim (hS.2.2 q) (hL q)⟩
    have fin : ∀ (ls9 : Array Slot), W p l e R s m args below meth c T'.heap (locs ++ L) (cells + (hpC h1 - hpC h)) (slots + (hpS h1 - hpS h)) Qf (F0 m (x.handlerPc + la) ls9 []) := fun ls9 =>
      lv_iconst hC.1 hC.2.1 dB hv (hE.1 _ rfl T'.heap (locs ++ L) _ ls9 ad' hx' (by rw [g1]; exact hRep) hS1 ⟨dC, .int, hret, rfl⟩)
    have hW9 : W p l e R s m args below meth c T'.heap (locs ++ L) (cells + (hpC h1 - hpC h)) (slots + (hpS h1 - hpS h)) Qf (F0 m x.handlerPc ls [.ref q]) := by
      rcases dA with ⟨k, dA, hk9, rfl⟩ | ⟨dA, rfl⟩
      · exact lv_astore_n hC.1 hC.2.1 dA hk9 hl hki rfl (fun ls9 _ => fin ls9)
      · exact lv_astore hC.1 hC.2.1 dA hl hki rfl (fun ls9 _ => fin ls9)
    have hcst : (Cond.castable E nm).before args s = true := va_Nw.use rfl (hG.2.2.2.1 _ hcast rfl)
    obtain ⟨t2, u1, u2⟩ := vx_catch (p := p) (l := l) (e := e) (R := R) (args := args) (below := below) (meth := meth) (H := T'.heap) (locs := locs ++ L) (cells := cells + (hpC h1 - hpC h)) (slots := slots + (hpS h1 - hpS h)) (Q := Qf) (pc := pc) (ls := ls) (rest := mx_trS ad st) hC.2.2.2.2.1 pre x suf (hC.2.2.2.2.2.2.2.2.2.2.2.trans hsplit)
      (fun z hz9 => (hpass z hz9).imp id (fun ⟨a1, a2, a3⟩ => ⟨a1, _, hC.2.2.2.2.2.1 _ a2, by rw [a3]; exact hG.2.2.2.2.2.2⟩)) hx h0 (hC.2.2.2.2.2.1 _ hlink) hcst (by rw [g1]; exact hce) hcv hcl hW9 T' rfl X'
    exact ⟨t2, hst9.trans u1, u2⟩
/-- a call of the face in the law: it answers, or it throws and is caught -/
theorem mx_callTry {b ci : Nat} {nm : String} (hl : Cond.methodLink y.1.cls index Y.1 ∈ mx_tbl) (hY : mx_YV Y n) (hn : As.length = n) (hK : hpK h b = ci) (hci : ci < 13) (hcls : mx_RX ci = Y.1.cls) (hw : (st.map fun v => v.category).sum ≤ 8) (hst : st0 = As.reverse ++ .ref b :: st) (hd : decode y.2.1 pc = .ok (.invokevirtual index, 3)) (hdd : d1 + 1 ≤ d) (hmL : Y.2.2.1 ≤ 22)
    (M : mx_SM Y d1 (.ref b :: As) h Q1) (kk : ∀ v h1, Q1 (.inl v) h1 → mx_SX y d (pc + 3) lv (v.toList ++ st) h1 Q)
    (kx : ∀ E h1, Q1 (.inr E) h1 → ∃ (pre : List ExceptionTableEntry) (x : ExceptionTableEntry) (suf : List ExceptionTableEntry) (nm : String) (ki la : Nat) (nn : Int) (v : Int32), tableOf y.2.2.2.2 = pre ++ x :: suf ∧ (∀ z ∈ pre, covers z pc = false ∨ (z.catchType ≠ 0 ∧ Cond.classLink y.1.cls z.catchType "java/lang/IndexOutOfBoundsException" ∈ mx_tbl ∧ E = "java/lang/IllegalArgumentException")) ∧
      covers x pc = true ∧ x.catchType ≠ 0 ∧ Cond.classLink y.1.cls x.catchType nm ∈ mx_tbl ∧ Cond.castable E nm ∈ lw_tbl ∧ ((∃ k : Fin 4, decode y.2.1 x.handlerPc = .ok (.astore_n k, 1) ∧ (k : Nat) = ki ∧ la = 1) ∨ (decode y.2.1 x.handlerPc = .ok (.astore ki, 2) ∧ la = 2)) ∧ ki < y.2.2.1 ∧
      decode y.2.1 (x.handlerPc + la) = .ok (.iconst nn, 1) ∧ Int32.ofInt nn = v ∧ decode y.2.1 (x.handlerPc + la + 1) = .ok (.ireturn, 1) ∧ y.2.2.2.1 = some .int ∧ Q (.inl (some (.int v))) h1) : mx_SX y d pc lv st0 h Q := by
  obtain ⟨r1, h1, hq1, MM⟩ := M
  cases r1 with
  | inl v => exact mx_callV (Q1 := fun r h9 => r = .inl v ∧ h9 = h1) hl hY hn hK hci hcls hw hst hd hdd hmL ⟨.inl v, h1, ⟨rfl, rfl⟩, MM⟩ (fun v9 h9 q => by cases q.1; rw [q.2]; exact kk v h1 hq1) (fun E h9 q => by cases q.1)
  | inr E =>
    obtain ⟨w1, w2, w3, w4, ⟨w5, w6, w7⟩, w8, w9⟩ := hY
    have hb0 : Value.ref b ∈ st0 := by rw [hst]; exact List.mem_append_right _ List.mem_cons_self
    obtain ⟨pre, x, suf, nm, ki, la, nn, v, k1, k2, k3, k4, k5, k6, k7, k8, k9, k10, k11, k12, k13⟩ := kx E h1 hq1
    refine mx_finT (st := st) MM (fun v hv => ?_) ?_ pre x suf k1 k2 k3 k4 k5 k6 k7 k8 k9 k10 k11 k12 k13
    · rcases List.mem_cons.mp hv with e | e
      · rw [e]; exact hb0
      · rw [hst]; exact List.mem_append_left _ (List.mem_reverse.mpr e)
    · intro p l e R s m args below meth c D cA base x0 xc hC hG H locs cells slots ls ad hsz hR hS ho hc hs hM
      obtain ⟨cellB, g1, g2, g3, -⟩ := mx_obj hR (ho _ hb0) hK hci
      have hfc := (hG.1.1 ci _ (mx_cl ci hci)).2.1
      have e0 : mx_trS ad st0 = (mx_trS ad As).reverse ++ .ref (ad b) :: mx_trS ad st := by rw [hst, mx_rev]; rfl
      rw [e0]
      exact vx_runV (C := Y.1.cls) (index := index) (bytes := Y.2.1) (maxL := Y.2.2.1) (ret := Y.2.2.2.1) (b := ad b) (As := mx_trS ad As) (rest := mx_trS ad st) (Ts := mx_tbl) (own := y.1.cls) (nL := y.2.2.1) (cc := y.2.1)
        ⟨hC.1, hC.2.1, hC.2.2.2.1, hC.2.2.2.2.1, hC.2.2.2.2.2.1⟩ hM
        (cwV n hC.2.2.2.2.2.1 (mx_goodIn (fun w hw => by
          rcases List.mem_append.mp hw with hw | hw
          · simp only [List.mem_cons, List.not_mem_nil, or_false] at hw
            rcases hw with rfl | rfl | rfl | rfl
            · exact hl
            · exact w1
            · exact w2
            · exact w3
          · exact mx_wsIn w4 w hw)) (mx_ws0 w9) rfl rfl ⟨rfl, w5, w6, w7⟩ (mx_roomOk hdd hmL hC.2.2.2.2.2.2.2.2.1 hC.2.2.2.2.2.2.2.2.2.1))
        ⟨mx_blind _ _ _ _ _ _ _ _, ⟨cellB, g1, by rw [g3]; rfl, by rw [g2, ← hcls]; exact hfc⟩, fun U hU hW => mx_pcOf (As := .ref b :: As) hG hR hS hU hW⟩
        rfl (by rw [mx_lenS]; exact hn) hsz rfl (lv_room (by rw [mx_cats]; exact hw)) hd ⟨hc, hs⟩
/-! texts: at 3 + i, their bytes at 39 + i -/
theorem mx_x0 {D : va_G} {cA : Nat → ClassId} {base : Nat} {x0 : Nat → Nat} {xc : mxXc} {ad : Nat → Nat} {H : Heap} (hR : mx_Rep D cA base x0 xc ad h H) {a : Nat} (ha : a < 128) : mx_tr ad (.ref a) = .ref (x0 a) := congrArg Value.ref (hR.2.1 a ha).1
theorem mx_xok {D : va_G} {cA : Nat → ClassId} {base : Nat} {x0 : Nat → Nat} {xc : mxXc} {ad : Nat → Nat} {H : Heap} (hR : mx_Rep D cA base x0 xc ad h H) {a : Nat} (ha : a < 128) : mx_ok h (.ref a) := Nat.lt_of_lt_of_le ha hR.1
theorem mx_ldcS {i : Nat} {text : String} (hs : mx_strs[i]? = some (y.1.cls, index, text)) (hi : i < 36) (hd : decode y.2.1 pc = .ok (.ldc index, 2)) (kk : mx_SX y d (pc + 2) lv (.ref (3 + i) :: st) h Q) : mx_SX y d pc lv st h Q := by
  refine mx_read (fun D cA base x0 xc ad H hR o2 => mx_push (v := .ref (3 + i)) (mx_xok hR (by omega)) o2) ?_ kk
  intro p l e R s m args below meth c D cA base x0 xc hC hG H locs cells slots ls ad Qf hR hS o2 k9
  have hZ := hG.2.2.2.2.2.1 i _ hs
  rw [show mx_trS ad (.ref (3 + i) :: st) = .ref (x0 (3 + i)) :: mx_trS ad st from congrArg (· :: mx_trS ad st) (mx_x0 hR (by omega))] at k9
  intro T hT X
  obtain ⟨t, a1, b1⟩ := k9 T hT X
  exact ⟨t, X.ldcString hC.1 hC.2.2.2.2.1 (text := text) (a := x0 (3 + i)) hZ.1 hZ.2 (g := F0 m pc ls (mx_trS ad st)) rfl (by rw [hC.2.1]; exact hd) t a1, b1⟩
theorem mx_ldcwS {i : Nat} {text : String} (hs : mx_strs[i]? = some (y.1.cls, index, text)) (hi : i < 36) (hd : decode y.2.1 pc = .ok (.ldc_w index, 3)) (kk : mx_SX y d (pc + 3) lv (.ref (3 + i) :: st) h Q) : mx_SX y d pc lv st h Q := by
  refine mx_read (fun D cA base x0 xc ad H hR o2 => mx_push (v := .ref (3 + i)) (mx_xok hR (by omega)) o2) ?_ kk
  intro p l e R s m args below meth c D cA base x0 xc hC hG H locs cells slots ls ad Qf hR hS o2 k9
  have hZ := hG.2.2.2.2.2.1 i _ hs
  rw [show mx_trS ad (.ref (3 + i) :: st) = .ref (x0 (3 + i)) :: mx_trS ad st from congrArg (· :: mx_trS ad st) (mx_x0 hR (by omega))] at k9
  intro T hT X
  obtain ⟨t, a1, b1⟩ := k9 T hT X
  exact ⟨t, X.ldcStringW hC.1 hC.2.2.2.2.1 (text := text) (a := x0 (3 + i)) hZ.1 hZ.2 (g := F0 m pc ls (mx_trS ad st)) rfl (by rw [hC.2.1]; exact hd) t a1, b1⟩
theorem mx_xval {i : Nat} (hi : i < 36) (hl : Cond.fieldLink y.1.cls index "java/lang/String" "value" "[B" ∈ mx_tbl) (hd : decode y.2.1 pc = .ok (.getfield index, 3)) (kk : mx_SX y d (pc + 3) lv (.ref (39 + i) :: st) h Q) : mx_SX y d pc lv (.ref (3 + i) :: st) h Q := by
  refine mx_read (fun D cA base x0 xc ad H hR o2 => mx_push (v := .ref (39 + i)) (mx_xok hR (by omega)) (mx_tl o2)) ?_ kk
  intro p l e R s m args below meth c D cA base x0 xc hC hG H locs cells slots ls ad Qf hR hS o2 k9
  rw [show mx_trS ad (.ref (39 + i) :: st) = .ref (x0 (39 + i)) :: mx_trS ad st from congrArg (· :: mx_trS ad st) (mx_x0 hR (by omega))] at k9
  rw [show mx_trS ad (.ref (3 + i) :: st) = .ref (x0 (3 + i)) :: mx_trS ad st from congrArg (· :: mx_trS ad st) (mx_x0 hR (by omega))]
  exact vk_getf hC.1 hC.2.1 (hG.2.2.1.2.2.2.2.1.1 i hi).2.2.1 hS hC.2.2.2.2.1 (hC.2.2.2.2.2.1 _ hl) (fun _ hx => hx) hd k9
theorem mx_xcoder {i : Nat} (hi : i < 36) (hl : Cond.fieldLink y.1.cls index "java/lang/String" "coder" "B" ∈ mx_tbl) (hd : decode y.2.1 pc = .ok (.getfield index, 3)) (kk : mx_SX y d (pc + 3) lv (.int 0 :: st) h Q) : mx_SX y d pc lv (.ref (3 + i) :: st) h Q := by
  refine mx_read (fun D cA base x0 xc ad H hR o2 => mx_push (v := .int 0) trivial (mx_tl o2)) ?_ kk
  intro p l e R s m args below meth c D cA base x0 xc hC hG H locs cells slots ls ad Qf hR hS o2 k9
  rw [show mx_trS ad (.ref (3 + i) :: st) = .ref (x0 (3 + i)) :: mx_trS ad st from congrArg (· :: mx_trS ad st) (mx_x0 hR (by omega))]
  exact vk_getf hC.1 hC.2.1 (hG.2.2.1.2.2.2.2.1.1 i hi).2.1 hS hC.2.2.2.2.1 (hC.2.2.2.2.2.1 _ hl) (fun _ hx => hx) hd k9
theorem mx_xcomp (hl : Cond.fieldLink y.1.cls index "java/lang/String" "COMPACT_STRINGS" "Z" ∈ mx_tbl) (hd : decode y.2.1 pc = .ok (.getstatic index, 3)) (kk : mx_SX y d (pc + 3) lv (.int 1 :: st) h Q) : mx_SX y d pc lv st h Q := by
  refine mx_read (fun D cA base x0 xc ad H hR o2 => mx_push (v := .int 1) trivial o2) ?_ kk
  intro p l e R s m args below meth c D cA base x0 xc hC hG H locs cells slots ls ad Qf hR hS o2 k9
  exact va_gets hC.1 hC.2.1 hG.2.2.1.2.2.2.2.2.1 hS hC.2.2.2.2.1 (hC.2.2.2.2.2.1 _ hl) (fun _ hx => hx) hd k9
theorem mx_xsio {r : mxRes} {h' : mxH} (hl : Cond.fieldLink y.1.cls index "jdk/internal/util/Preconditions" "SIOOBE_FORMATTER" "Ljava/util/function/BiFunction;" ∈ mx_tbl) (hd : decode y.2.1 pc = .ok (.getstatic index, 3)) (k1 : mx_X y d (pc + 3) lv (.null :: st) h r h') (k2 : mx_X y d (pc + 3) lv (.ref 75 :: st) h r h') : mx_X y d pc lv st h r h' := by
  refine ⟨k1.1, k1.2.1, ?_⟩
  intro p l e R s m args below meth c D cA base x0 xc hC hG H locs cells slots ls ad hR hS hl9 ho1 ho2 hc hs Qf hE
  rcases hG.2.2.1.2.2.2.2.2.2.1 with hz | hz
  · exact va_gets hC.1 hC.2.1 hz hS hC.2.2.2.2.1 (hC.2.2.2.2.2.1 _ hl) (fun _ hx => hx) hd (k1.2.2 p l e R s m args below meth c D cA base x0 xc hC hG H locs cells slots ls ad hR hS hl9 ho1 (mx_push (v := .null) trivial ho2) hc hs Qf hE)
  · have k9 := k2.2.2 p l e R s m args below meth c D cA base x0 xc hC hG H locs cells slots ls ad hR hS hl9 ho1 (mx_push (v := .ref 75) (mx_xok hR (by omega)) ho2) hc hs Qf hE
    rw [show mx_trS ad (.ref 75 :: st) = .ref (x0 75) :: mx_trS ad st from congrArg (· :: mx_trS ad st) (mx_x0 hR (by omega))] at k9
    exact va_gets hC.1 hC.2.1 hz hS hC.2.2.2.2.1 (hC.2.2.2.2.2.1 _ hl) (fun _ hx => hx) hd k9
theorem mx_xlenS {i : Nat} (hi : i < 36) (hd : decode y.2.1 pc = .ok (.arraylength, 1)) (kk : mx_SX y d (pc + 1) lv (.int (nI (mx_slen.getD i 0)) :: st) h Q) : mx_SX y d pc lv (.ref (39 + i) :: st) h Q := by
  refine mx_read (fun D cA base x0 xc ad H hR o2 => mx_push (v := .int _) trivial (mx_tl o2)) ?_ kk
  intro p l e R s m args below meth c D cA base x0 xc hC hG H locs cells slots ls ad Qf hR hS o2 k9
  rw [show mx_trS ad (.ref (39 + i) :: st) = .ref (x0 (39 + i)) :: mx_trS ad st from congrArg (· :: mx_trS ad st) (mx_x0 hR (by omega))]
  exact va_tlen hC.1 hC.2.1 (hG.2.2.1.2.2.2.2.1.1 i hi).2.2.2 hS rfl hd k9
theorem mx_xbaldS {i : Nat} {j : Int32} (hi : i < 36) (hin : vp_in j (mx_slen.getD i 0)) (hd : decode y.2.1 pc = .ok (.baload, 1)) (kk : mx_SX y d (pc + 1) lv (.int ((mx_sbyt.getD i []).getD j.toNatClampNeg 0) :: st) h Q) : mx_SX y d pc lv (.int j :: .ref (39 + i) :: st) h Q := by
  refine mx_read (fun D cA base x0 xc ad H hR o2 => mx_push (v := .int _) trivial (mx_tl (mx_tl o2))) ?_ kk
  intro p l e R s m args below meth c D cA base x0 xc hC hG H locs cells slots ls ad Qf hR hS o2 k9
  rw [show mx_trS ad (.int j :: .ref (39 + i) :: st) = .int j :: .ref (x0 (39 + i)) :: mx_trS ad st from congrArg (fun z => Value.int j :: z :: mx_trS ad st) (mx_x0 hR (by omega))]
  exact va_tb hC.1 hC.2.1 (hG.2.2.1.2.2.2.2.1.1 i hi).2.2.2 hS hin rfl hd k9
/-- a method of String, called on a text -/
theorem mx_callT {i : Nat} {P : Option Value → mxH → Prop} (hi : i < 36) (hl : Cond.methodLink y.1.cls index Y.1 ∈ mx_tbl) (hY : mx_YV Y n) (hcls : Y.1.cls = "java/lang/String") (hn : As.length = n) (hw : (st.map fun v => v.category).sum ≤ 8) (hst : st0 = As.reverse ++ .ref (3 + i) :: st) (hd : decode y.2.1 pc = .ok (.invokevirtual index, 3)) (hdd : d1 + 1 ≤ d) (hmL : Y.2.2.1 ≤ 22)
    (M : mx_SM Y d1 (.ref (3 + i) :: As) h (fun r h1 => ∃ v, r = .inl v ∧ P v h1)) (kk : ∀ v h1, P v h1 → mx_SX y d (pc + 3) lv (v.toList ++ st) h1 Q) : mx_SX y d pc lv st0 h Q := by
  obtain ⟨r1, h1, ⟨v, rfl, hq1⟩, MM⟩ := M
  obtain ⟨w1, w2, w3, w4, ⟨w5, w6, w7⟩, w8, w9⟩ := hY
  have hb0 : Value.ref (3 + i) ∈ st0 := by rw [hst]; exact List.mem_append_right _ List.mem_cons_self
  refine mx_fin (st := st) MM (fun v hv => by rw [hst]; exact List.mem_append_right _ (List.mem_cons_of_mem _ hv)) (fun v hv => ?_) ?_ (fun v e => by cases e; exact kk v h1 hq1) (fun E e => by cases e)
  · rcases List.mem_cons.mp hv with e | e
    · rw [e]; exact hb0
    · rw [hst]; exact List.mem_append_left _ (List.mem_reverse.mpr e)
  · intro p l e R s m args below meth c D cA base x0 xc hC hG H locs cells slots ls ad hsz hR hS ho hc hs hM
    obtain ⟨cellB, g1, g2, g3⟩ := vk_recv hG.2.2.1.2.2.2.2.1 hi hS
    have e0 : mx_trS ad st0 = (mx_trS ad As).reverse ++ .ref (x0 (3 + i)) :: mx_trS ad st := by rw [hst, mx_rev]; exact congrArg (fun z => (mx_trS ad As).reverse ++ z :: mx_trS ad st) (mx_x0 hR (by omega))
    have e1 : ∀ As2 : List Value, mx_trS ad (.ref (3 + i) :: As2) = .ref (x0 (3 + i)) :: mx_trS ad As2 := fun As2 => congrArg (· :: mx_trS ad As2) (mx_x0 hR (by omega))
    rw [e0, e1]
    exact vx_runV (C := Y.1.cls) (index := index) (bytes := Y.2.1) (maxL := Y.2.2.1) (ret := Y.2.2.2.1) (b := x0 (3 + i)) (As := mx_trS ad As) (rest := mx_trS ad st) (Ts := mx_tbl) (own := y.1.cls) (nL := y.2.2.1) (cc := y.2.1)
      ⟨hC.1, hC.2.1, hC.2.2.2.1, hC.2.2.2.2.1, hC.2.2.2.2.2.1⟩ hM
      (cwV n hC.2.2.2.2.2.1 (mx_goodIn (fun w hw => by
        rcases List.mem_append.mp hw with hw | hw
        · simp only [List.mem_cons, List.not_mem_nil, or_false] at hw
          rcases hw with rfl | rfl | rfl | rfl
          · exact hl
          · exact w1
          · exact w2
          · exact w3
        · exact mx_wsIn w4 w hw)) (mx_ws0 w9) rfl rfl ⟨rfl, w5, w6, w7⟩ (mx_roomOk hdd hmL hC.2.2.2.2.2.2.2.2.1 hC.2.2.2.2.2.2.2.2.2.1))
      ⟨mx_blind _ _ _ _ _ _ _ _, ⟨cellB, g1, g2, by rw [hcls]; exact g3⟩, fun U hU hW => by rw [← e1]; exact mx_pcOf (As := .ref (3 + i) :: As) hG hR hS hU hW⟩
      rfl (by rw [mx_lenS]; exact hn) hsz rfl (lv_room (by rw [mx_cats]; exact hw)) hd ⟨hc, hs⟩
end MXT
