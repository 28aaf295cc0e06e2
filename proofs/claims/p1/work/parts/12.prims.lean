/-! members of the JDK, throws, their catching -/
section MXJ
variable {y Y : mxY} {d d1 pc index n : Nat} {lv : List (Nat × Value)} {As st st0 : List Value} {h : mxH} {Q Q1 : mxRes → mxH → Prop}
theorem mx_read2 {pc' : Nat} {st' : List Value} (hsub : ∀ v ∈ st', v ∈ st ∨ mx_ok h v)
    (hw : ∀ (p : Program) (l : Launch) (e : Env) (R : Room) (s : State) (m : MethodId) (args : Array Value) (below : List Frame) (meth : Method) (c : Code) (D : va_G) (cA : Nat → ClassId) (base : Nat) (x0 : Nat → Nat) (xc : mxXc),
      mx_C y d p l R s m args meth c → mx_G D cA base x0 xc s s.heap →
      ∀ (H : Heap) (locs : List Loc) (cells slots : Nat) (ls : Array Slot) (ad : Nat → Nat) (Qf : State → Prop), ls.size = y.2.2.1 → cells ≤ R.cells → slots ≤ R.slots → mx_Rep D cA base x0 xc ad h H → va_S (mx_A base) s.heap H locs →
        W p l e R s m args below meth c H locs cells slots Qf (F0 m pc' ls (mx_trS ad st')) → W p l e R s m args below meth c H locs cells slots Qf (F0 m pc ls (mx_trS ad st)))
    (k : mx_SX y d pc' lv st' h Q) : mx_SX y d pc lv st h Q := by
  refine mx_step mx_le.rf ?_ k
  intro p l e R s m args below meth c D cA base x0 xc hC hG H locs cells slots ls ad hR hS hl ho1 ho2 hc hs Qf k9
  have k9 := k9 H locs ls ad mx_ext.rf hR hS hl ho1 (fun v hv => (hsub v hv).elim (ho2 v) id)
  rw [Nat.sub_self, Nat.sub_self, Nat.add_zero, Nat.add_zero] at k9
  rw [Nat.sub_self, Nat.add_zero] at hc hs
  exact hw p l e R s m args below meth c D cA base x0 xc hC hG H locs cells slots ls ad Qf hl.1 hc hs hR hS k9
theorem mx_objInit {idx a : Nat} (hl : Cond.methodLink y.1.cls idx Lib.objectInit ∈ mx_tbl) (hi : Cond.instanceMethod Lib.objectInit ∈ mx_tbl) (hc : Cond.code Lib.objectInit ⟨#[0xb1]⟩ 1 none ∈ mx_tbl) (hw : (st.map fun v => v.category).sum ≤ 8) (hd : decode y.2.1 pc = .ok (.invokespecial idx, 3)) (hdd : 1 ≤ d) (kk : mx_SX y d (pc + 3) lv st h Q) : mx_SX y d pc lv (.ref a :: st) h Q := by
  refine mx_read2 (fun v hv => Or.inl (List.mem_cons_of_mem _ hv)) ?_ kk
  intro p l e R s m args below meth c D cA base x0 xc hC hG H locs cells slots ls ad Qf hsz hce hsl hR hS k9
  have hf : 1 ≤ R.frames := Nat.le_trans hdd hC.2.2.2.2.2.2.2.2.1
  have hlo : 41 ≤ R.locals := Nat.le_trans (by omega) hC.2.2.2.2.2.2.2.2.2.1
  refine W.objInit hC.1 hC.2.1 hC.2.2.2.2.1 (hC.2.2.2.2.2.1 _ hl) (hC.2.2.2.2.2.1 _ hi) (hC.2.2.2.2.2.1 _ hc) rfl (hsz.trans hC.2.2.2.1.symm) rfl hd hf ?_ k9
  show 2 * 0 + ((mx_trS ad st).map fun v => v.category).sum + 12 ≤ _
  rw [mx_cats]
  omega
theorem mx_min {x z : Int32} (hl : Cond.methodLink y.1.cls index Lib.Math.min.name ∈ mx_tbl) (h2 : Cond.static Lib.Math.min.name ∈ mx_tbl) (h3 : Cond.initialized "java/lang/Math" ∈ mx_tbl) (h4 : Cond.code Lib.Math.min.name Lib.Math.min.code 2 (some .int) ∈ mx_tbl) (hw : (st.map fun v => v.category).sum ≤ 8) (hd : decode y.2.1 pc = .ok (.invokestatic index, 3)) (hdd : 1 ≤ d)
    (kk : mx_SX y d (pc + 3) lv (.int (if z < x then z else x) :: st) h Q) : mx_SX y d pc lv (.int z :: .int x :: st) h Q := by
  refine mx_read2 (fun v hv => (List.mem_cons.mp hv).elim (fun e => Or.inr (by rw [e]; trivial)) (fun hv => Or.inl (List.mem_cons_of_mem _ (List.mem_cons_of_mem _ hv)))) ?_ kk
  intro p l e R s m args below meth c D cA base x0 xc hC hG H locs cells slots ls ad Qf hsz hce hsl hR hS k9
  have hf : 1 ≤ R.frames := Nat.le_trans hdd hC.2.2.2.2.2.2.2.2.1
  have hlo : 41 ≤ R.locals := Nat.le_trans (by omega) hC.2.2.2.2.2.2.2.2.2.1
  exact va_mmin hC.1 hC.2.1 (hC.2.2.2.1.trans hsz.symm) hC.2.2.2.2.1 (hC.2.2.2.2.2.1 _ hl) (hC.2.2.2.2.2.1 _ h2) (hC.2.2.2.2.2.1 _ h3) (hC.2.2.2.2.2.1 _ h4) hf (by have h9 := mx_cats ad st; unfold mx_trS at h9; rw [h9]; omega) hce hsl hd k9
theorem mx_max {x z : Int32} (hl : Cond.methodLink y.1.cls index Lib.Math.max.name ∈ mx_tbl) (h2 : Cond.static Lib.Math.max.name ∈ mx_tbl) (h3 : Cond.initialized "java/lang/Math" ∈ mx_tbl) (h4 : Cond.code Lib.Math.max.name Lib.Math.max.code 2 (some .int) ∈ mx_tbl) (hw : (st.map fun v => v.category).sum ≤ 8) (hd : decode y.2.1 pc = .ok (.invokestatic index, 3)) (hdd : 1 ≤ d)
    (kk : mx_SX y d (pc + 3) lv (.int (if x < z then z else x) :: st) h Q) : mx_SX y d pc lv (.int z :: .int x :: st) h Q := by
  refine mx_read2 (fun v hv => (List.mem_cons.mp hv).elim (fun e => Or.inr (by rw [e]; trivial)) (fun hv => Or.inl (List.mem_cons_of_mem _ (List.mem_cons_of_mem _ hv)))) ?_ kk
  intro p l e R s m args below meth c D cA base x0 xc hC hG H locs cells slots ls ad Qf hsz hce hsl hR hS k9
  have hf : 1 ≤ R.frames := Nat.le_trans hdd hC.2.2.2.2.2.2.2.2.1
  have hlo : 41 ≤ R.locals := Nat.le_trans (by omega) hC.2.2.2.2.2.2.2.2.2.1
  exact va_mmax hC.1 hC.2.1 (hC.2.2.2.1.trans hsz.symm) hC.2.2.2.2.1 (hC.2.2.2.2.2.1 _ hl) (hC.2.2.2.2.2.1 _ h2) (hC.2.2.2.2.2.1 _ h3) (hC.2.2.2.2.2.1 _ h4) hf (by have h9 := mx_cats ad st; unfold mx_trS at h9; rw [h9]; omega) hce hsl hd k9
theorem mx_nnI {z : Int32} (hz : ¬ z < 0) : z.toInt = (z.toNatClampNeg : Int) := by
  have hz0 : (0 : Int) ≤ z.toInt := by
    have := Int32.not_lt.mp hz
    simpa using Int32.le_iff_toInt_le.mp this
  show z.toInt = ((z.toInt.toNat : Nat) : Int)
  omega
/-- System.arraycopy between rows of one small type -/
theorem mx_copy {α : Type} (mk : α → Value) {a0 a kd : Nat} {F G : Nat → α} {h1 : mxH} {sp dp nn : Int32} (hK0 : hpK h a0 = kd) (hK1 : hpK h a = kd) (hk : 13 ≤ kd ∧ kd ≤ 15)
    (hA : ∀ (D : va_G) (cA : Nat → ClassId) (base : Nat) (x0 : Nat → Nat) (xc : mxXc) (ad : Nat → Nat) (H : Heap), mx_Rep D cA base x0 xc ad h H → a0 < hpN h → a < hpN h → H[ad a0]? = some (arrV (cA kd) (hpZ h a0) (fun j => mk (F j))) ∧ H[ad a]? = some (arrV (cA kd) (hpZ h a) (fun j => mk (G j))))
    (hB : ∀ (D : va_G) (cA : Nat → ClassId) (ad : Nat → Nat) (H1 : Heap), H1[ad a]? = some (arrV (cA kd) (hpZ h a) (fun j => mk (va_cpy F G sp.toNatClampNeg dp.toNatClampNeg nn.toNatClampNeg j))) → mx_at D cA ad h1 a H1)
    (e0 : hpN h1 = hpN h) (e6 : hpC h1 = hpC h) (e7 : hpS h1 = hpS h) (e1 : ∀ b, b ≠ a → hpK h1 b = hpK h b) (e2 : ∀ b, b ≠ a → hpZ h1 b = hpZ h b) (e3 : ∀ b, b ≠ a → hpI h1 b = hpI h b) (e4 : ∀ b, b ≠ a → hpL h1 b = hpL h b) (e5 : ∀ b, b ≠ a → hpR h1 b = hpR h b) (e8 : hpR h1 a = hpR h a)
    (hs1 : ¬ sp < 0) (hs2 : ¬ dp < 0) (hs3 : ¬ nn < 0) (hs4 : sp.toNatClampNeg + nn.toNatClampNeg ≤ hpZ h a0) (hs5 : dp.toNatClampNeg + nn.toNatClampNeg ≤ hpZ h a) (hfit : ∀ i, i < nn.toNatClampNeg → fits (mx_tyA kd) (mk (F (sp.toNatClampNeg + i))) = true) (htk : ∀ (T : State) (cI : ClassId) (x : α), T.takes cI (mk x))
    (hl : Cond.methodLink y.1.cls index arraycopyName ∈ mx_tbl) (hnat : Cond.native arraycopyName ∈ mx_tbl) (hstat : Cond.static arraycopyName ∈ mx_tbl) (hini : Cond.initialized "java/lang/System" ∈ mx_tbl) (hw : (st.map fun v => v.category).sum ≤ 8) (hd : decode y.2.1 pc = .ok (.invokestatic index, 3)) (hdd : 1 ≤ d)
    (kk : mx_SX y d (pc + 3) lv st h1 Q) : mx_SX y d pc lv (.int nn :: .int dp :: .ref a :: .int sp :: .ref a0 :: st) h Q := by
  refine mx_step (h1 := h1) ⟨Nat.le_of_eq e0.symm, Nat.le_of_eq e6.symm, Nat.le_of_eq e7.symm⟩ ?_ kk
  intro p l e R s m args below meth c D cA base x0 xc hC hG H locs cells slots ls ad hR hS hlv ho1 ho2 hce hsl Qf k9
  rw [e6, e7, Nat.sub_self, Nat.sub_self, Nat.add_zero, Nat.add_zero] at k9
  have haN : a < hpN h := mx_hd (mx_tl (mx_tl ho2))
  have ha0N : a0 < hpN h := mx_hd (mx_tl (mx_tl (mx_tl (mx_tl ho2))))
  obtain ⟨h64, hb, -, -⟩ := hR.at haN (by rw [hK1]; omega)
  obtain ⟨hc0, hc1⟩ := hA D cA base x0 xc ad H hR ha0N haN
  have hprim : refKind (mx_tyA kd) = false := by
    have : kd = 13 ∨ kd = 14 ∨ kd = 15 := by omega
    rcases this with rfl | rfl | rfl <;> rfl
  obtain ⟨-, k0, hk0, cm0, hkk0⟩ := mx_isA hG (kd := kd) (by omega) (by omega) (hpZ h a0) (fun j => mk (F j))
  obtain ⟨-, k1, hk1, cm1, hkk1⟩ := mx_isA hG (kd := kd) (by omega) (by omega) (hpZ h a) (fun j => mk (G j))
  have hf : 1 ≤ R.frames := Nat.le_trans hdd hC.2.2.2.2.2.2.2.2.1
  have hlo : 41 ≤ R.locals := Nat.le_trans (by omega) hC.2.2.2.2.2.2.2.2.2.1
  have hnw : nativeFrameWords "java/lang/System" "arraycopy" 5 ≤ 20 := by decide +kernel
  intro T hT X
  obtain ⟨vm', X', step⟩ := X.arraycopy hC.1 hC.2.2.2.2.1 (hC.2.2.2.2.2.1 _ hl) (hC.2.2.2.2.2.1 _ hnat) (hC.2.2.2.2.2.1 _ hstat) (hC.2.2.2.2.2.1 _ hini) (src := ad a0) (dst := ad a) (cs := arrV (cA kd) (hpZ h a0) (fun j => mk (F j))) (cd := arrV (cA kd) (hpZ h a) (fun j => mk (G j))) (srcPos := sp) (destPos := dp) (n := nn) (by rw [hT]; exact hc0) (by rw [hT]; exact hc1)
    (fun _ h => by cases h) (fun _ h => by cases h) (fun h => by cases h) (fun h => by cases h) hk0 hk1 hkk0 hkk1 (by simp [hprim]) hs1 hs2 hs3
    (by rw [mx_nnI hs1, mx_nnI hs3, arrV_size]; omega)
    (by rw [mx_nnI hs2, mx_nnI hs3, arrV_size]; omega)
    (fun vm₁ _ i hi => by
      have e : (arrV (cA kd) (hpZ h a0) (fun j => mk (F j))).slots.getD (sp.toNatClampNeg + i) .null = mk (F (sp.toNatClampNeg + i)) := by
        rw [Array.getD_eq_getD_getElem?, arrV_read _ _ (by omega)]
        rfl
      refine ⟨?_, ?_⟩
      · rw [e]; exact hfit i hi
      · rw [e]; exact htk _ _ _)
    (g := F0 m pc ls (mx_trS ad (.int nn :: .int dp :: .ref a :: .int sp :: .ref a0 :: st))) rfl (hlv.1.trans hC.2.2.2.1.symm) (rest := mx_trS ad st) rfl (by rw [hC.2.1]; exact hd) hf (by
      show 2 * 0 + ((mx_trS ad st).map fun v => v.category).sum + _ ≤ _
      rw [mx_cats]
      omega)
  have e9 : copied (arrV (cA kd) (hpZ h a0) (fun j => mk (F j))) (arrV (cA kd) (hpZ h a) (fun j => mk (G j))) sp dp nn = arrV (cA kd) (hpZ h a) (fun j => mk (va_cpy F G sp.toNatClampNeg dp.toNatClampNeg nn.toNatClampNeg j)) := va_copied mk (cA kd) (cA kd) F G hs4
  rw [e9] at X' step
  have hl9 : ad a < H.size := (Array.getElem?_eq_some_iff.mp hc1).1
  obtain ⟨H1, hH1⟩ : ∃ z, z = H.setIfInBounds (ad a) (arrV (cA kd) (hpZ h a) (fun j => mk (va_cpy F G sp.toNatClampNeg dp.toNatClampNeg nn.toNatClampNeg j))) := ⟨_, rfl⟩
  have hheap : ((T.setVm vm').setCell (ad a) (arrV (cA kd) (hpZ h a) (fun j => mk (va_cpy F G sp.toNatClampNeg dp.toNatClampNeg nn.toNatClampNeg j)))).heap = H1 := by rw [hH1, ← hT]; rfl
  have oq : ∀ q : Nat, q ≠ ad a → H1[q]? = H[q]? := fun q hq => by rw [hH1]; simp [Array.getElem?_setIfInBounds, Ne.symm hq]
  have hz : H1.size = H.size := by rw [hH1]; simp
  have hself : H1[ad a]? = some (arrV (cA kd) (hpZ h a) (fun j => mk (va_cpy F G sp.toNatClampNeg dp.toNatClampNeg nn.toNatClampNeg j))) := by rw [hH1]; simp [Array.getElem?_setIfInBounds, hl9]
  have hmono : ∀ v, mx_ok h v → mx_ok h1 v := fun v hv => mx_ok.mono (Nat.le_of_eq e0.symm) hv
  obtain ⟨t, a1, b1⟩ := k9 H1 _ ls ad mx_ext.rf (hR.put h64 haN hz oq e0 e1 e2 e3 e4 e5 (hB D cA ad H1 hself) (fun k b hkb => hR.2.2.2.2 a k b haN (by rw [← e8]; exact hkb)))
    ⟨by rw [hz]; exact hS.1, fun q g1 g2 => by
      rw [oq q (fun e => g2 (by rw [e]; exact hb))]
      exact hS.2.1 q g1 g2, fun q hq => by
      rcases List.mem_append.mp hq with h | h
      · exact hS.2.2 q h
      · obtain ⟨z, -, hz⟩ := List.mem_map.mp h
        rw [← hz]
        exact hb⟩ hlv (fun q hq => hmono _ (ho1 q hq)) (fun v hv => hmono _ (mx_tl (mx_tl (mx_tl (mx_tl (mx_tl ho2)))) v hv)) _ hheap X'
  exact ⟨t, step t a1, b1⟩
theorem mx_copyI {a0 a kd : Nat} {sp dp nn : Int32} (hK0 : hpK h a0 = kd) (hK1 : hpK h a = kd) (hk : kd = 13 ∨ kd = 14) (hs1 : ¬ sp < 0) (hs2 : ¬ dp < 0) (hs3 : ¬ nn < 0) (hs4 : sp.toNatClampNeg + nn.toNatClampNeg ≤ hpZ h a0) (hs5 : dp.toNatClampNeg + nn.toNatClampNeg ≤ hpZ h a) (hfit : kd = 13 → ∀ i, i < nn.toNatClampNeg → fits .byte (.int (hpI h a0 (sp.toNatClampNeg + i))) = true)
    (hl : Cond.methodLink y.1.cls index arraycopyName ∈ mx_tbl) (hnat : Cond.native arraycopyName ∈ mx_tbl) (hstat : Cond.static arraycopyName ∈ mx_tbl) (hini : Cond.initialized "java/lang/System" ∈ mx_tbl) (hw : (st.map fun v => v.category).sum ≤ 8) (hd : decode y.2.1 pc = .ok (.invokestatic index, 3)) (hdd : 1 ≤ d)
    (kk : mx_SX y d (pc + 3) lv st (hrI h a (va_cpy (hpI h a0) (hpI h a) sp.toNatClampNeg dp.toNatClampNeg nn.toNatClampNeg)) Q) : mx_SX y d pc lv (.int nn :: .int dp :: .ref a :: .int sp :: .ref a0 :: st) h Q := by
  refine mx_copy (fun z : Int32 => Value.int z) (F := hpI h a0) (G := hpI h a) (h1 := hrI h a (va_cpy (hpI h a0) (hpI h a) sp.toNatClampNeg dp.toNatClampNeg nn.toNatClampNeg)) hK0 hK1 (by omega) (fun D cA base x0 xc ad H hR h1 h2 => ⟨mx_arrI hR h1 hK0 (by omega), mx_arrI hR h2 hK1 (by omega)⟩) (fun D cA ad H1 hh => mx_arrAtI (kd := kd) hK1 (by omega) ?_) rfl rfl rfl (fun _ _ => rfl) (fun _ _ => rfl) (mx_ne rfl) (fun _ _ => rfl) (fun _ _ => rfl) rfl hs1 hs2 hs3 hs4 hs5 (fun i hi => ?_) (fun _ _ _ => trivial) hl hnat hstat hini hw hd hdd kk
  · rw [hh, show hpI (hrI h a (va_cpy (hpI h a0) (hpI h a) sp.toNatClampNeg dp.toNatClampNeg nn.toNatClampNeg)) a = va_cpy (hpI h a0) (hpI h a) sp.toNatClampNeg dp.toNatClampNeg nn.toNatClampNeg from mx_self rfl]
    rfl
  · rcases hk with rfl | rfl
    · exact hfit rfl i hi
    · rfl
theorem mx_copyL {a0 a : Nat} {sp dp nn : Int32} (hK0 : hpK h a0 = 15) (hK1 : hpK h a = 15) (hs1 : ¬ sp < 0) (hs2 : ¬ dp < 0) (hs3 : ¬ nn < 0) (hs4 : sp.toNatClampNeg + nn.toNatClampNeg ≤ hpZ h a0) (hs5 : dp.toNatClampNeg + nn.toNatClampNeg ≤ hpZ h a)
    (hl : Cond.methodLink y.1.cls index arraycopyName ∈ mx_tbl) (hnat : Cond.native arraycopyName ∈ mx_tbl) (hstat : Cond.static arraycopyName ∈ mx_tbl) (hini : Cond.initialized "java/lang/System" ∈ mx_tbl) (hw : (st.map fun v => v.category).sum ≤ 8) (hd : decode y.2.1 pc = .ok (.invokestatic index, 3)) (hdd : 1 ≤ d)
    (kk : mx_SX y d (pc + 3) lv st (hrL h a (va_cpy (hpL h a0) (hpL h a) sp.toNatClampNeg dp.toNatClampNeg nn.toNatClampNeg)) Q) : mx_SX y d pc lv (.int nn :: .int dp :: .ref a :: .int sp :: .ref a0 :: st) h Q := by
  refine mx_copy (fun z : Int64 => Value.long z) (F := hpL h a0) (G := hpL h a) (h1 := hrL h a (va_cpy (hpL h a0) (hpL h a) sp.toNatClampNeg dp.toNatClampNeg nn.toNatClampNeg)) hK0 hK1 (by omega) (fun D cA base x0 xc ad H hR h1 h2 => ⟨mx_arrL hR h1 hK0, mx_arrL hR h2 hK1⟩) (fun D cA ad H1 hh => mx_arrAtL hK1 ?_) rfl rfl rfl (fun _ _ => rfl) (fun _ _ => rfl) (fun _ _ => rfl) (mx_ne rfl) (fun _ _ => rfl) rfl hs1 hs2 hs3 hs4 hs5 (fun i hi => rfl) (fun _ _ _ => trivial) hl hnat hstat hini hw hd hdd kk
  rw [hh, show hpL (hrL h a (va_cpy (hpL h a0) (hpL h a) sp.toNatClampNeg dp.toNatClampNeg nn.toNatClampNeg)) a = va_cpy (hpL h a0) (hpL h a) sp.toNatClampNeg dp.toNatClampNeg nn.toNatClampNeg from mx_self rfl]
  rfl
theorem mx_Rep.grow {D : va_G} {cA : Nat → ClassId} {base : Nat} {x0 : Nat → Nat} {xc : mxXc} {ad : Nat → Nat} {H H1 : Heap} (hR : mx_Rep D cA base x0 xc ad h H) (hz : H.size ≤ H1.size) (oq : ∀ q, q < H.size → H1[q]? = H[q]?) : mx_Rep D cA base x0 xc ad (hth h) H1 := by
  obtain ⟨r1, r2, r3, r4, r5⟩ := hR
  refine ⟨r1, r2, fun b hb hb2 => ?_, r4, r5⟩
  obtain ⟨q1, q2, q3⟩ := r3 b hb hb2
  exact ⟨q1, Nat.lt_of_lt_of_le q2 hz, q3.cong (h1 := hth h) rfl rfl rfl rfl rfl (oq _ q2)⟩
theorem mx_throw {E text : String} {ik is ic i : Nat} (names : List String) (hk : Cond.classLink y.1.cls ik E ∈ mx_tbl) (hini : Cond.initialized E ∈ mx_tbl) (hs : mx_strs[i]? = some (y.1.cls, is, text)) (hat : ∀ w ∈ vx_atS y.1.cls ic E names, w ∈ mx_tbl ∨ (w ∈ lw_tbl ∧ mx_softk w = true)) (hgood : ∀ w ∈ Cond.classLink y.1.cls ik E :: Cond.initialized E :: vx_atS y.1.cls ic E names, vx_ot w = true) (hcls : Bundle.fit E = true) (hnames : ∀ n ∈ names, Bundle.fit n = true)
    (d0 : decode y.2.1 pc = .ok (.new ik, 3)) (d3 : decode y.2.1 (pc + 3) = .ok (.dup, 1)) (d4 : decode y.2.1 (pc + 4) = .ok (.ldc is, 2)) (d6 : decode y.2.1 (pc + 6) = .ok (.invokespecial ic, 3)) (d9 : decode y.2.1 (pc + 9) = .ok (.athrow, 1)) (hlen : names.length + 3 < d) (hw : (st.map fun v => v.category).sum ≤ 8) (hh : y.2.2.2.2 = [])
    (hq : Q (.inr E) (hth h)) : mx_SX y d pc lv st h Q := by
  refine ⟨.inr E, hth h, hq, ⟨Nat.le_refl _, Nat.le_succ _, Nat.le_add_right _ _⟩, fun v hv => (by cases hv), ?_⟩
  intro p l e R s m args below meth c D cA base x0 xc hC hG H locs cells slots ls ad hR hS hl ho1 ho2 hce hsl Qf hE
  obtain ⟨Qc, XC, mc, ms, q1, q2, q3, q4⟩ := hE.2 E rfl
  subst q1
  have e1 : hpC (hth h) - hpC h = 1 := by rw [hpC_th]; omega
  have e2 : hpS (hth h) - hpS h = 6 := by rw [hpS_th]; omega
  rw [e1] at hce q2
  rw [e2] at hsl q3
  have hf := hC.2.2.2.2.2.2.2.2.1
  have hlo := hC.2.2.2.2.2.2.2.2.2.1
  refine vx_throwS (own := y.1.cls) (cls := E) (text := text) (names := names) (A := mx_A base) hC.1 hC.2.1 hC.2.2.2.2.2.2.2.2.2.2.1 hC.2.2.2.2.1 hcls hnames (hC.2.2.2.2.2.1 _ hk) (hC.2.2.2.2.2.1 _ hini) (hG.2.2.2.2.2.1 i _ hs) (fun w hw9 => ?_) hgood hG.2.2.1.2.2.2.1.1 hG.2.2.1.2.2.2.1.2 hS (hl.1.trans hC.2.2.2.1.symm) d0 d3 d4 d6 d9 (fun x hx => by rw [hC.2.2.2.2.2.2.2.2.2.2.2, hh] at hx; cases hx) (by omega) (by rw [mx_cats]; omega) hce hsl hC.2.2.2.2.2.2.1 (fun t ht hz hq9 => ?_) hS.2.2 q2 q3
  · rcases hat w hw9 with h9 | ⟨h9, h8⟩
    · exact hC.2.2.2.2.2.1 _ h9
    · refine va_Nw.use ?_ (hG.2.2.2.1 w h9 h8)
      unfold mx_softk at h8
      rw [Bool.and_eq_true] at h8
      exact h8.1
  · exact q4 t ad mx_ext.rf (hR.grow hz hq9) ⟨Nat.le_trans hS.1 hz, fun q g1 g2 => (hq9 q (Nat.lt_of_lt_of_le g1 hS.1)).trans (hS.2.1 q g1 g2)⟩
end MXJ
