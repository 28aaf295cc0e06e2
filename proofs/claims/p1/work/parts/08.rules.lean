/-! RULES of fields, rows, makings -/
section MXF
variable {y : mxY} {d pc : Nat} {lv : List (Nat × Value)} {st : List Value} {h : mxH} {Q : mxRes → mxH → Prop}
theorem mx_obj {D : va_G} {cA : Nat → ClassId} {base : Nat} {x0 : Nat → Nat} {xc : mxXc} {ad : Nat → Nat} {H : Heap} {a ci : Nat} (hR : mx_Rep D cA base x0 xc ad h H) (ha : a < hpN h) (hK : hpK h a = ci) (hci : ci < 13) : t_OB (ad a) (D.1 ci) (mx_nf ci) (D.2 ci) H (mx_fv ad h a) := by
  obtain ⟨-, -, -, hat⟩ := hR.at ha (by rw [hK]; omega)
  have := hat.1 (by rw [hK]; exact hci)
  rw [hK] at this
  exact this
theorem mx_getI {index ci k a : Nat} (hF : mx_FL y.1.cls index ci k) (hK : hpK h a = ci) (ht : mx_isI (mx_ty ci k) = true) (hd : decode y.2.1 pc = .ok (.getfield index, 3)) (kk : mx_SX y d (pc + 3) lv (.int (hpI h a k) :: st) h Q) : mx_SX y d pc lv (.ref a :: st) h Q := by
  refine mx_read (fun D cA base x0 xc ad H hR o2 => mx_push (v := .int _) trivial (mx_tl o2)) ?_ kk
  intro p l e R s m args below meth c D cA base x0 xc hC hG H locs cells slots ls ad Qf hR hS o2 k9
  refine mx_Wget mx_inall hC hG hF (mx_obj hR (mx_hd o2) hK hF.2.1) hd ?_
  rw [show mx_fv ad h a k = .int (hpI h a k) by rw [mx_fv, hK, mx_val_I ht]]
  exact k9
theorem mx_getL {index ci k a : Nat} (hF : mx_FL y.1.cls index ci k) (hK : hpK h a = ci) (ht : mx_ty ci k = .long) (hd : decode y.2.1 pc = .ok (.getfield index, 3)) (kk : mx_SX y d (pc + 3) lv (.long (hpL h a k) :: st) h Q) : mx_SX y d pc lv (.ref a :: st) h Q := by
  refine mx_read (fun D cA base x0 xc ad H hR o2 => mx_push (v := .long _) trivial (mx_tl o2)) ?_ kk
  intro p l e R s m args below meth c D cA base x0 xc hC hG H locs cells slots ls ad Qf hR hS o2 k9
  refine mx_Wget mx_inall hC hG hF (mx_obj hR (mx_hd o2) hK hF.2.1) hd ?_
  rw [show mx_fv ad h a k = .long (hpL h a k) by rw [mx_fv, hK, ht]; rfl]
  exact k9
theorem mx_getR {index ci k a b : Nat} (hF : mx_FL y.1.cls index ci k) (hK : hpK h a = ci) (ht : mx_isR (mx_ty ci k) = true) (hr : hpR h a k = some b) (hd : decode y.2.1 pc = .ok (.getfield index, 3)) (kk : mx_SX y d (pc + 3) lv (.ref b :: st) h Q) : mx_SX y d pc lv (.ref a :: st) h Q := by
  refine mx_read (fun D cA base x0 xc ad H hR o2 => mx_push (v := .ref b) (hR.2.2.2.2 a k b (mx_hd o2) hr) (mx_tl o2)) ?_ kk
  intro p l e R s m args below meth c D cA base x0 xc hC hG H locs cells slots ls ad Qf hR hS o2 k9
  refine mx_Wget mx_inall hC hG hF (mx_obj hR (mx_hd o2) hK hF.2.1) hd ?_
  rw [show mx_fv ad h a k = .ref (ad b) by rw [mx_fv, hK, mx_val_R ht, hr]; rfl]
  exact k9
theorem mx_getRn {index ci k a : Nat} (hF : mx_FL y.1.cls index ci k) (hK : hpK h a = ci) (ht : mx_isR (mx_ty ci k) = true) (hr : hpR h a k = none) (hd : decode y.2.1 pc = .ok (.getfield index, 3)) (kk : mx_SX y d (pc + 3) lv (.null :: st) h Q) : mx_SX y d pc lv (.ref a :: st) h Q := by
  refine mx_read (fun D cA base x0 xc ad H hR o2 => mx_push (v := .null) trivial (mx_tl o2)) ?_ kk
  intro p l e R s m args below meth c D cA base x0 xc hC hG H locs cells slots ls ad Qf hR hS o2 k9
  refine mx_Wget mx_inall hC hG hF (mx_obj hR (mx_hd o2) hK hF.2.1) hd ?_
  rw [show mx_fv ad h a k = .null by rw [mx_fv, hK, mx_val_R ht, hr]; rfl]
  exact k9
/-- a store: what changed is the thing a -/
theorem mx_write {pc' : Nat} {a : Nat} {st0 : List Value} {h1 : mxH} (ha0 : hpK h a < 21) (e0 : hpN h1 = hpN h) (e6 : hpC h1 = hpC h) (e7 : hpS h1 = hpS h) (e1 : ∀ b, b ≠ a → hpK h1 b = hpK h b) (e2 : ∀ b, b ≠ a → hpZ h1 b = hpZ h b) (e3 : ∀ b, b ≠ a → hpI h1 b = hpI h b) (e4 : ∀ b, b ≠ a → hpL h1 b = hpL h b) (e5 : ∀ b, b ≠ a → hpR h1 b = hpR h b)
    (hst : ∀ v ∈ st, v ∈ st0) (har : (∀ v ∈ st0, mx_ok h v) → a < hpN h) (hcl : (∀ v ∈ st0, mx_ok h v) → (∀ k b, hpR h a k = some b → b < hpN h) → ∀ k b, hpR h1 a k = some b → b < hpN h)
    (hw : ∀ (p : Program) (l : Launch) (e : Env) (R : Room) (s : State) (m : MethodId) (args : Array Value) (below : List Frame) (meth : Method) (c : Code) (D : va_G) (cA : Nat → ClassId) (base : Nat) (x0 : Nat → Nat) (xc : mxXc),
      mx_C y d p l R s m args meth c → mx_G D cA base x0 xc s s.heap →
      ∀ (H : Heap) (locs : List Loc) (cells slots : Nat) (ls : Array Slot) (ad : Nat → Nat) (Qf : State → Prop), mx_Rep D cA base x0 xc ad h H → va_S (mx_A base) s.heap H locs → (∀ v ∈ st0, mx_ok h v) →
        (∀ (H1 : Heap) (z : Nat), H1.size = H.size → (∀ q, q ≠ ad a → H1[q]? = H[q]?) → mx_at D cA ad h1 a H1 → W p l e R s m args below meth c H1 (locs ++ [⟨ad a, z⟩]) cells slots Qf (F0 m pc' ls (mx_trS ad st))) → W p l e R s m args below meth c H locs cells slots Qf (F0 m pc ls (mx_trS ad st0)))
    (k : mx_SX y d pc' lv st h1 Q) : mx_SX y d pc lv st0 h Q := by
  refine mx_step (h1 := h1) ⟨Nat.le_of_eq e0.symm, Nat.le_of_eq e6.symm, Nat.le_of_eq e7.symm⟩ ?_ k
  intro p l e R s m args below meth c D cA base x0 xc hC hG H locs cells slots ls ad hR hS hl ho1 ho2 hc hs Qf k9
  rw [e6, e7, Nat.sub_self, Nat.sub_self, Nat.add_zero, Nat.add_zero] at k9
  have haN := har ho2
  obtain ⟨h64, hb, -, -⟩ := hR.at haN ha0
  have hmono : ∀ v, mx_ok h v → mx_ok h1 v := fun v hv => mx_ok.mono (Nat.le_of_eq e0.symm) hv
  refine hw p l e R s m args below meth c D cA base x0 xc hC hG H locs cells slots ls ad Qf hR hS ho2 (fun H1 z hz oq hat => ?_)
  exact k9 H1 _ ls ad mx_ext.rf (hR.put h64 haN hz oq e0 e1 e2 e3 e4 e5 hat (hcl ho2 (fun k b hkb => hR.2.2.2.2 a k b haN hkb))) (hS.put hz oq hb) hl (fun q hq => hmono _ (ho1 q hq)) (fun v hv => hmono _ (ho2 v (hst v hv)))
theorem mx_ne {α : Type} {f g : Nat → α} {a : Nat} {v : α} (e : g = fun b => if b = a then v else f b) : ∀ b, b ≠ a → g b = f b := fun b hb => by rw [e]; exact if_neg hb
theorem mx_self {α : Type} {f g : Nat → α} {a : Nat} {v : α} (e : g = fun b => if b = a then v else f b) : g a = v := by rw [e]; exact if_pos rfl
theorem mx_objAt {D : va_G} {cA : Nat → ClassId} {ad : Nat → Nat} {H1 : Heap} {a ci : Nat} {h1 : mxH} (hK : hpK h1 a = ci) (hci : ci < 13) (hT : t_OB (ad a) (D.1 ci) (mx_nf ci) (D.2 ci) H1 (mx_fv ad h1 a)) : mx_at D cA ad h1 a H1 := by
  unfold mx_at
  rw [hK]
  exact ⟨fun _ => hT, fun q => by omega, fun q => by omega, fun q => by omega⟩
theorem mx_putI {index ci k a : Nat} {x : Int32} (hF : mx_FL y.1.cls index ci k) (hK : hpK h a = ci) (ht : mx_isI (mx_ty ci k) = true) (hfin : (mx_TX ci k).2.2.2 = false ∨ ((mx_TX ci k).2.2.2 = true ∧ y.1.name = "<init>" ∧ (mx_TX ci k).1 = y.1.cls)) (hn : narrow (mx_ty ci k) (.int x) = .int x) (hfit : fits (mx_ty ci k) (.int x) = true) (hd : decode y.2.1 pc = .ok (.putfield index, 3))
    (kk : mx_SX y d (pc + 3) lv st (hsI h a k x) Q) : mx_SX y d pc lv (.int x :: .ref a :: st) h Q := by
  refine mx_write (a := a) (h1 := hsI h a k x) (by rw [hK]; have := hF.2.1; omega) rfl rfl rfl (fun _ _ => rfl) (fun _ _ => rfl) (mx_ne rfl) (fun _ _ => rfl) (fun _ _ => rfl) (fun v hv => List.mem_cons_of_mem _ (List.mem_cons_of_mem _ hv)) (fun o => mx_hd (mx_tl o)) (fun _ hc => hc) ?_ kk
  intro p l e R s m args below meth c D cA base x0 xc hC hG H locs cells slots ls ad Qf hR hS o2 k9
  refine mx_Wput mx_inall hC hG hF hfin hn hfit (mx_obj hR (mx_hd (mx_tl o2)) hK hF.2.1) hd (fun H1 z e1 e2 e3 => k9 H1 z e1 e2 (mx_objAt (h1 := hsI h a k x) hK hF.2.1 (e3.to (fun j hj => ?_))))
  show updV (mx_fv ad h a) k (.int x) j = mx_fv ad (hsI h a k x) a j
  by_cases hjk : j = k
  · subst hjk
    rw [mx_fv, show hpK (hsI h a j x) a = ci from hK, mx_val_I ht]
    simp [updV, hsI, hpI, hrI, fup]
  · simp only [updV, if_neg hjk, mx_fv]
    simp [hsI, hpI, hpL, hpR, hpK, hrI, fup, hjk]
theorem mx_putL {index ci k a : Nat} {x : Int64} (hF : mx_FL y.1.cls index ci k) (hK : hpK h a = ci) (ht : mx_ty ci k = .long) (hfin : (mx_TX ci k).2.2.2 = false ∨ ((mx_TX ci k).2.2.2 = true ∧ y.1.name = "<init>" ∧ (mx_TX ci k).1 = y.1.cls)) (hd : decode y.2.1 pc = .ok (.putfield index, 3))
    (kk : mx_SX y d (pc + 3) lv st (hsL h a k x) Q) : mx_SX y d pc lv (.long x :: .ref a :: st) h Q := by
  refine mx_write (a := a) (h1 := hsL h a k x) (by rw [hK]; have := hF.2.1; omega) rfl rfl rfl (fun _ _ => rfl) (fun _ _ => rfl) (fun _ _ => rfl) (mx_ne rfl) (fun _ _ => rfl) (fun v hv => List.mem_cons_of_mem _ (List.mem_cons_of_mem _ hv)) (fun o => mx_hd (mx_tl o)) (fun _ hc => hc) ?_ kk
  intro p l e R s m args below meth c D cA base x0 xc hC hG H locs cells slots ls ad Qf hR hS o2 k9
  refine mx_Wput mx_inall hC hG hF hfin (v := .long x) (by rw [ht]; rfl) (by rw [ht]; rfl) (mx_obj hR (mx_hd (mx_tl o2)) hK hF.2.1) hd (fun H1 z e1 e2 e3 => k9 H1 z e1 e2 (mx_objAt (h1 := hsL h a k x) hK hF.2.1 (e3.to (fun j hj => ?_))))
  show updV (mx_fv ad h a) k (.long x) j = mx_fv ad (hsL h a k x) a j
  by_cases hjk : j = k
  · subst hjk
    rw [mx_fv, show hpK (hsL h a j x) a = ci from hK, ht]
    simp [updV, hsL, hpL, hrL, fup, mx_val]
  · simp only [updV, if_neg hjk, mx_fv]
    simp [hsL, hpI, hpL, hpR, hpK, hrL, fup, hjk]
theorem mx_clR {a k : Nat} {x : Option Nat} (hx : ∀ b, x = some b → b < hpN h) (hc : ∀ k b, hpR h a k = some b → b < hpN h) : ∀ k2 b, hpR (hsR h a k x) a k2 = some b → b < hpN h := by
  intro k2 b hb
  have e : hpR (hsR h a k x) a k2 = if k2 = k then x else hpR h a k2 := by simp [hsR, hpR, hrR, fup]
  rw [e] at hb
  by_cases hk : k2 = k
  · rw [if_pos hk] at hb; exact hx b hb
  · rw [if_neg hk] at hb; exact hc k2 b hb
theorem mx_fvR {ad : Nat → Nat} {a k ci j : Nat} {x : Option Nat} (hK : hpK h a = ci) (ht : mx_isR (mx_ty ci k) = true) : updV (mx_fv ad h a) k (va_rf (x.map ad)) j = mx_fv ad (hsR h a k x) a j := by
  by_cases hjk : j = k
  · subst hjk
    rw [mx_fv, show hpK (hsR h a j x) a = ci from hK, mx_val_R ht]
    simp [updV, hsR, hpR, hrR, fup]
  · simp only [updV, if_neg hjk, mx_fv]
    simp [hsR, hpI, hpL, hpR, hpK, hrR, fup, hjk]
theorem mx_nR {ty : FieldType} (ht : mx_isR ty = true) (v : Value) (hv : v = .null ∨ ∃ b, v = .ref b) : narrow ty v = v ∧ fits ty v = true := by
  rcases hv with rfl | ⟨b, rfl⟩ <;> cases ty <;> first | exact ⟨rfl, rfl⟩ | cases ht
theorem mx_putR {index ci k a b : Nat} (hF : mx_FL y.1.cls index ci k) (hK : hpK h a = ci) (ht : mx_isR (mx_ty ci k) = true) (hfin : (mx_TX ci k).2.2.2 = false ∨ ((mx_TX ci k).2.2.2 = true ∧ y.1.name = "<init>" ∧ (mx_TX ci k).1 = y.1.cls)) (hd : decode y.2.1 pc = .ok (.putfield index, 3))
    (kk : mx_SX y d (pc + 3) lv st (hsR h a k (some b)) Q) : mx_SX y d pc lv (.ref b :: .ref a :: st) h Q := by
  refine mx_write (a := a) (h1 := hsR h a k (some b)) (by rw [hK]; have := hF.2.1; omega) rfl rfl rfl (fun _ _ => rfl) (fun _ _ => rfl) (fun _ _ => rfl) (fun _ _ => rfl) (mx_ne rfl) (fun v hv => List.mem_cons_of_mem _ (List.mem_cons_of_mem _ hv)) (fun o => mx_hd (mx_tl o)) (fun o hc => mx_clR (fun z hz => by cases hz; exact mx_hd o) hc) ?_ kk
  intro p l e R s m args below meth c D cA base x0 xc hC hG H locs cells slots ls ad Qf hR hS o2 k9
  refine mx_Wput mx_inall hC hG hF hfin (v := .ref (ad b)) (mx_nR ht _ (Or.inr ⟨_, rfl⟩)).1 (mx_nR ht _ (Or.inr ⟨_, rfl⟩)).2 (mx_obj hR (mx_hd (mx_tl o2)) hK hF.2.1) hd (fun H1 z e1 e2 e3 => k9 H1 z e1 e2 (mx_objAt (h1 := hsR h a k (some b)) hK hF.2.1 (e3.to (fun j hj => mx_fvR (x := some b) hK ht))))
theorem mx_putRn {index ci k a : Nat} (hF : mx_FL y.1.cls index ci k) (hK : hpK h a = ci) (ht : mx_isR (mx_ty ci k) = true) (hfin : (mx_TX ci k).2.2.2 = false ∨ ((mx_TX ci k).2.2.2 = true ∧ y.1.name = "<init>" ∧ (mx_TX ci k).1 = y.1.cls)) (hd : decode y.2.1 pc = .ok (.putfield index, 3))
    (kk : mx_SX y d (pc + 3) lv st (hsR h a k none) Q) : mx_SX y d pc lv (.null :: .ref a :: st) h Q := by
  refine mx_write (a := a) (h1 := hsR h a k none) (by rw [hK]; have := hF.2.1; omega) rfl rfl rfl (fun _ _ => rfl) (fun _ _ => rfl) (fun _ _ => rfl) (fun _ _ => rfl) (mx_ne rfl) (fun v hv => List.mem_cons_of_mem _ (List.mem_cons_of_mem _ hv)) (fun o => mx_hd (mx_tl o)) (fun o hc => mx_clR (fun z hz => by cases hz) hc) ?_ kk
  intro p l e R s m args below meth c D cA base x0 xc hC hG H locs cells slots ls ad Qf hR hS o2 k9
  refine mx_Wput mx_inall hC hG hF hfin (v := .null) (mx_nR ht _ (Or.inl rfl)).1 (mx_nR ht _ (Or.inl rfl)).2 (mx_obj hR (mx_hd (mx_tl o2)) hK hF.2.1) hd (fun H1 z e1 e2 e3 => k9 H1 z e1 e2 (mx_objAt (h1 := hsR h a k none) hK hF.2.1 (e3.to (fun j hj => mx_fvR (x := none) hK ht))))
/-! rows -/
theorem mx_arrI {D : va_G} {cA : Nat → ClassId} {base : Nat} {x0 : Nat → Nat} {xc : mxXc} {ad : Nat → Nat} {H : Heap} {a kd : Nat} (hR : mx_Rep D cA base x0 xc ad h H) (ha : a < hpN h) (hK : hpK h a = kd) (hk : kd = 13 ∨ kd = 14 ∨ kd = 16) : H[ad a]? = some (arrV (cA kd) (hpZ h a) (fun j => .int (hpI h a j))) := by
  obtain ⟨-, -, -, hat⟩ := hR.at ha (by rw [hK]; omega)
  have := hat.2.1 (by rw [hK]; exact hk)
  rw [hK] at this
  exact this
theorem mx_arrL {D : va_G} {cA : Nat → ClassId} {base : Nat} {x0 : Nat → Nat} {xc : mxXc} {ad : Nat → Nat} {H : Heap} {a : Nat} (hR : mx_Rep D cA base x0 xc ad h H) (ha : a < hpN h) (hK : hpK h a = 15) : H[ad a]? = some (arrV (cA 15) (hpZ h a) (fun j => .long (hpL h a j))) := by
  obtain ⟨-, -, -, hat⟩ := hR.at ha (by rw [hK]; omega)
  have := hat.2.2.1 hK
  rw [hK] at this
  exact this
theorem mx_arrR {D : va_G} {cA : Nat → ClassId} {base : Nat} {x0 : Nat → Nat} {xc : mxXc} {ad : Nat → Nat} {H : Heap} {a kd : Nat} (hR : mx_Rep D cA base x0 xc ad h H) (ha : a < hpN h) (hK : hpK h a = kd) (hk : 17 ≤ kd ∧ kd ≤ 20) : H[ad a]? = some (arrV (cA kd) (hpZ h a) (fun j => va_rf ((hpR h a j).map ad))) := by
  obtain ⟨-, -, -, hat⟩ := hR.at ha (by rw [hK]; omega)
  have := hat.2.2.2 (by rw [hK]; exact hk)
  rw [hK] at this
  exact this
theorem mx_isA {D : va_G} {cA : Nat → ClassId} {base : Nat} {x0 : Nat → Nat} {xc : mxXc} {s : State} {H : Heap} {kd : Nat} (hG : mx_G D cA base x0 xc s H) (h1 : 13 ≤ kd) (h2 : kd ≤ 20) (n : Nat) (f : Nat → Value) : s.isArrayOf (arrV (cA kd) n f) (mx_tyA kd) := (hG.1.2 (kd - 13) _ (mx_tyA_at cA h1 h2)).1 n f
theorem mx_bd {i : Int32} {n : Nat} {cA : ClassId} {f : Nat → Value} (hin : vp_in i n) : ¬ (i < 0 ∨ (arrV cA n f).slots.size ≤ i.toNatClampNeg) := by rw [arrV_size]; exact hin
theorem mx_rd {i : Int32} {n : Nat} {cA : ClassId} {f : Nat → Value} (hin : vp_in i n) : (arrV cA n f).slots[i.toNatClampNeg]? = some (f i.toNatClampNeg) := arrV_read _ _ (Nat.not_le.mp fun q => hin (Or.inr q))
theorem mx_iald {a : Nat} {i : Int32} (hK : hpK h a = 14) (hin : vp_in i (hpZ h a)) (hd : decode y.2.1 pc = .ok (.iaload, 1)) (kk : mx_SX y d (pc + 1) lv (.int (hpI h a i.toNatClampNeg) :: st) h Q) : mx_SX y d pc lv (.int i :: .ref a :: st) h Q := by
  refine mx_read (fun D cA base x0 xc ad H hR o2 => mx_push (v := .int _) trivial (mx_tl (mx_tl o2))) ?_ kk
  intro p l e R s m args below meth c D cA base x0 xc hC hG H locs cells slots ls ad Qf hR hS o2 k9
  exact W.iald hC.1 hC.2.1 (mx_arrI hR (mx_hd (mx_tl o2)) hK (by omega)) (mx_isA hG (kd := 14) (by omega) (by omega) _ _) (fun q => by cases q) (mx_bd hin) (mx_rd hin) rfl rfl hd k9
theorem mx_bald {a : Nat} {i : Int32} (hK : hpK h a = 13) (hin : vp_in i (hpZ h a)) (hd : decode y.2.1 pc = .ok (.baload, 1)) (kk : mx_SX y d (pc + 1) lv (.int (hpI h a i.toNatClampNeg) :: st) h Q) : mx_SX y d pc lv (.int i :: .ref a :: st) h Q := by
  refine mx_read (fun D cA base x0 xc ad H hR o2 => mx_push (v := .int _) trivial (mx_tl (mx_tl o2))) ?_ kk
  intro p l e R s m args below meth c D cA base x0 xc hC hG H locs cells slots ls ad Qf hR hS o2 k9
  exact W.bald hC.1 hC.2.1 (mx_arrI hR (mx_hd (mx_tl o2)) hK (by omega)) (mx_isA hG (kd := 13) (by omega) (by omega) _ _) (fun q => by cases q) (mx_bd hin) (mx_rd hin) rfl rfl hd k9
theorem mx_zald {a : Nat} {i : Int32} (hK : hpK h a = 16) (hin : vp_in i (hpZ h a)) (hd : decode y.2.1 pc = .ok (.baload, 1)) (kk : mx_SX y d (pc + 1) lv (.int (hpI h a i.toNatClampNeg) :: st) h Q) : mx_SX y d pc lv (.int i :: .ref a :: st) h Q := by
  refine mx_read (fun D cA base x0 xc ad H hR o2 => mx_push (v := .int _) trivial (mx_tl (mx_tl o2))) ?_ kk
  intro p l e R s m args below meth c D cA base x0 xc hC hG H locs cells slots ls ad Qf hR hS o2 k9
  exact W.zald hC.1 hC.2.1 (mx_arrI hR (mx_hd (mx_tl o2)) hK (by omega)) (mx_isA hG (kd := 16) (by omega) (by omega) _ _) (fun q => by cases q) (mx_bd hin) (mx_rd hin) rfl rfl hd k9
theorem mx_lald {a : Nat} {i : Int32} (hK : hpK h a = 15) (hin : vp_in i (hpZ h a)) (hd : decode y.2.1 pc = .ok (.laload, 1)) (kk : mx_SX y d (pc + 1) lv (.long (hpL h a i.toNatClampNeg) :: st) h Q) : mx_SX y d pc lv (.int i :: .ref a :: st) h Q := by
  refine mx_read (fun D cA base x0 xc ad H hR o2 => mx_push (v := .long _) trivial (mx_tl (mx_tl o2))) ?_ kk
  intro p l e R s m args below meth c D cA base x0 xc hC hG H locs cells slots ls ad Qf hR hS o2 k9
  exact W.lald hC.1 hC.2.1 (mx_arrL hR (mx_hd (mx_tl o2)) hK) (mx_isA hG (kd := 15) (by omega) (by omega) _ _) (fun q => by cases q) (mx_bd hin) (mx_rd hin) rfl rfl hd k9
theorem mx_aald {a b kd : Nat} {i : Int32} (hK : hpK h a = kd) (hk : 17 ≤ kd ∧ kd ≤ 20) (hin : vp_in i (hpZ h a)) (hr : hpR h a i.toNatClampNeg = some b) (hd : decode y.2.1 pc = .ok (.aaload, 1)) (kk : mx_SX y d (pc + 1) lv (.ref b :: st) h Q) : mx_SX y d pc lv (.int i :: .ref a :: st) h Q := by
  refine mx_read (fun D cA base x0 xc ad H hR o2 => mx_push (v := .ref b) (hR.2.2.2.2 a _ b (mx_hd (mx_tl o2)) hr) (mx_tl (mx_tl o2))) ?_ kk
  intro p l e R s m args below meth c D cA base x0 xc hC hG H locs cells slots ls ad Qf hR hS o2 k9
  have hty : (mx_tyA kd).isReference = true := by
    have : kd = 17 ∨ kd = 18 ∨ kd = 19 ∨ kd = 20 := by omega
    rcases this with rfl | rfl | rfl | rfl <;> rfl
  refine W.aald hC.1 hC.2.1 (mx_arrR hR (mx_hd (mx_tl o2)) hK hk) (mx_isA hG (kd := kd) (by omega) (by omega) _ _) hty (fun q => by cases q) (mx_bd hin) (mx_rd hin) rfl rfl hd ?_
  rw [hr]
  exact k9
theorem mx_aaldN {a kd : Nat} {i : Int32} (hK : hpK h a = kd) (hk : 17 ≤ kd ∧ kd ≤ 20) (hin : vp_in i (hpZ h a)) (hr : hpR h a i.toNatClampNeg = none) (hd : decode y.2.1 pc = .ok (.aaload, 1)) (kk : mx_SX y d (pc + 1) lv (.null :: st) h Q) : mx_SX y d pc lv (.int i :: .ref a :: st) h Q := by
  refine mx_read (fun D cA base x0 xc ad H hR o2 => mx_push (v := .null) trivial (mx_tl (mx_tl o2))) ?_ kk
  intro p l e R s m args below meth c D cA base x0 xc hC hG H locs cells slots ls ad Qf hR hS o2 k9
  have hty : (mx_tyA kd).isReference = true := by
    have : kd = 17 ∨ kd = 18 ∨ kd = 19 ∨ kd = 20 := by omega
    rcases this with rfl | rfl | rfl | rfl <;> rfl
  refine W.aald hC.1 hC.2.1 (mx_arrR hR (mx_hd (mx_tl o2)) hK hk) (mx_isA hG (kd := kd) (by omega) (by omega) _ _) hty (fun q => by cases q) (mx_bd hin) (mx_rd hin) rfl rfl hd ?_
  rw [hr]
  exact k9
theorem mx_alen {a kd : Nat} (hK : hpK h a = kd) (hk : 13 ≤ kd ∧ kd ≤ 20) (hd : decode y.2.1 pc = .ok (.arraylength, 1)) (kk : mx_SX y d (pc + 1) lv (.int (nI (hpZ h a)) :: st) h Q) : mx_SX y d pc lv (.ref a :: st) h Q := by
  refine mx_read (fun D cA base x0 xc ad H hR o2 => mx_push (v := .int _) trivial (mx_tl o2)) ?_ kk
  intro p l e R s m args below meth c D cA base x0 xc hC hG H locs cells slots ls ad Qf hR hS o2 k9
  have hlen : ∀ (cI : ClassId) (f : Nat → Value), (arrV cI (hpZ h a) f).slots.size.toInt32 = nI (hpZ h a) := fun cI f => by rw [arrV_size]; rfl
  by_cases h1 : kd = 15
  · subst h1
    exact W.alen hC.1 hC.2.1 (mx_arrL hR (mx_hd o2) hK) (mx_isA hG (kd := 15) (by omega) (by omega) _ _) (hlen _ _) rfl rfl hd k9
  · by_cases h2 : 17 ≤ kd
    · exact W.alen hC.1 hC.2.1 (mx_arrR hR (mx_hd o2) hK ⟨h2, hk.2⟩) (mx_isA hG (kd := kd) (by omega) (by omega) _ _) (hlen _ _) rfl rfl hd k9
    · exact W.alen hC.1 hC.2.1 (mx_arrI hR (mx_hd o2) hK (by omega)) (mx_isA hG (kd := kd) (by omega) (by omega) _ _) (hlen _ _) rfl rfl hd k9
theorem mx_arrAtI {D : va_G} {cA : Nat → ClassId} {ad : Nat → Nat} {H1 : Heap} {a kd : Nat} {h1 : mxH} (hK : hpK h1 a = kd) (hk : kd = 13 ∨ kd = 14 ∨ kd = 16) (hT : H1[ad a]? = some (vp_cell (cA kd) (hpZ h1 a, .inl (hpI h1 a)))) : mx_at D cA ad h1 a H1 := by
  unfold mx_at
  rw [hK]
  exact ⟨fun q => by omega, fun _ => hT, fun q => by omega, fun q => by omega⟩
theorem mx_arrAtL {D : va_G} {cA : Nat → ClassId} {ad : Nat → Nat} {H1 : Heap} {a : Nat} {h1 : mxH} (hK : hpK h1 a = 15) (hT : H1[ad a]? = some (vp_cell (cA 15) (hpZ h1 a, .inr (.inl (hpL h1 a))))) : mx_at D cA ad h1 a H1 := by
  unfold mx_at
  rw [hK]
  exact ⟨fun q => by omega, fun q => by omega, fun _ => hT, fun q => by omega⟩
theorem mx_arrAtR {D : va_G} {cA : Nat → ClassId} {ad : Nat → Nat} {H1 : Heap} {a kd : Nat} {h1 : mxH} (hK : hpK h1 a = kd) (hk : 17 ≤ kd ∧ kd ≤ 20) (hT : H1[ad a]? = some (vp_cell (cA kd) (hpZ h1 a, .inr (.inr (.inr (.inr (fun j => (hpR h1 a j).map ad))))))) : mx_at D cA ad h1 a H1 := by
  unfold mx_at
  rw [hK]
  exact ⟨fun q => by omega, fun q => by omega, fun q => by omega, fun _ => hT⟩
theorem mx_updI {f : Nat → Int32} {i : Nat} {x : Int32} : updV (fun j => Value.int (f j)) i (.int x) = fun j => .int (fup f i x j) := by
  funext j
  by_cases hj : j = i
  · simp [updV, fup, hj]
  · simp [updV, fup, hj]
theorem mx_iast {a : Nat} {i x : Int32} (hK : hpK h a = 14) (hin : vp_in i (hpZ h a)) (hd : decode y.2.1 pc = .ok (.iastore, 1)) (kk : mx_SX y d (pc + 1) lv st (hsI h a i.toNatClampNeg x) Q) : mx_SX y d pc lv (.int x :: .int i :: .ref a :: st) h Q := by
  refine mx_write (a := a) (h1 := hsI h a i.toNatClampNeg x) (by rw [hK]; omega) rfl rfl rfl (fun _ _ => rfl) (fun _ _ => rfl) (mx_ne rfl) (fun _ _ => rfl) (fun _ _ => rfl) (fun v hv => List.mem_cons_of_mem _ (List.mem_cons_of_mem _ (List.mem_cons_of_mem _ hv))) (fun o => mx_hd (mx_tl (mx_tl o))) (fun _ hc => hc) ?_ kk
  intro p l e R s m args below meth c D cA base x0 xc hC hG H locs cells slots ls ad Qf hR hS o2 k9
  refine W.iast hC.1 hC.2.1 (mx_arrI hR (mx_hd (mx_tl (mx_tl o2))) hK (by omega)) (mx_isA hG (kd := 14) (by omega) (by omega) _ _) (fun q => by cases q) (mx_bd hin) rfl rfl hd (fun H1 e1 e2 e3 => k9 H1 _ e2 e3 (mx_arrAtI (kd := 14) (h1 := hsI h a i.toNatClampNeg x) hK (by omega) ?_))
  rw [e1, arrV_store, mx_updI, show hpI (hsI h a i.toNatClampNeg x) a = fup (hpI h a) i.toNatClampNeg x from mx_self rfl]
  rfl
theorem mx_bast {a : Nat} {i x : Int32} (hK : hpK h a = 13) (hin : vp_in i (hpZ h a)) (hd : decode y.2.1 pc = .ok (.bastore, 1)) (kk : mx_SX y d (pc + 1) lv st (hsI h a i.toNatClampNeg x.toInt8.toInt32) Q) : mx_SX y d pc lv (.int x :: .int i :: .ref a :: st) h Q := by
  refine mx_write (a := a) (h1 := hsI h a i.toNatClampNeg x.toInt8.toInt32) (by rw [hK]; omega) rfl rfl rfl (fun _ _ => rfl) (fun _ _ => rfl) (mx_ne rfl) (fun _ _ => rfl) (fun _ _ => rfl) (fun v hv => List.mem_cons_of_mem _ (List.mem_cons_of_mem _ (List.mem_cons_of_mem _ hv))) (fun o => mx_hd (mx_tl (mx_tl o))) (fun _ hc => hc) ?_ kk
  intro p l e R s m args below meth c D cA base x0 xc hC hG H locs cells slots ls ad Qf hR hS o2 k9
  refine W.bast hC.1 hC.2.1 (mx_arrI hR (mx_hd (mx_tl (mx_tl o2))) hK (by omega)) (mx_isA hG (kd := 13) (by omega) (by omega) _ _) (fun q => by cases q) (mx_bd hin) rfl rfl hd (fun H1 e1 e2 e3 => k9 H1 _ e2 e3 (mx_arrAtI (kd := 13) (h1 := hsI h a i.toNatClampNeg x.toInt8.toInt32) hK (by omega) ?_))
  rw [e1, show narrow .byte (.int x) = .int x.toInt8.toInt32 from rfl, arrV_store, mx_updI, show hpI (hsI h a i.toNatClampNeg x.toInt8.toInt32) a = fup (hpI h a) i.toNatClampNeg x.toInt8.toInt32 from mx_self rfl]
  rfl
theorem mx_zast {a : Nat} {i x : Int32} (hK : hpK h a = 16) (hin : vp_in i (hpZ h a)) (hd : decode y.2.1 pc = .ok (.bastore, 1)) (kk : mx_SX y d (pc + 1) lv st (hsI h a i.toNatClampNeg (x &&& 1)) Q) : mx_SX y d pc lv (.int x :: .int i :: .ref a :: st) h Q := by
  refine mx_write (a := a) (h1 := hsI h a i.toNatClampNeg (x &&& 1)) (by rw [hK]; omega) rfl rfl rfl (fun _ _ => rfl) (fun _ _ => rfl) (mx_ne rfl) (fun _ _ => rfl) (fun _ _ => rfl) (fun v hv => List.mem_cons_of_mem _ (List.mem_cons_of_mem _ (List.mem_cons_of_mem _ hv))) (fun o => mx_hd (mx_tl (mx_tl o))) (fun _ hc => hc) ?_ kk
  intro p l e R s m args below meth c D cA base x0 xc hC hG H locs cells slots ls ad Qf hR hS o2 k9
  refine W.zast hC.1 hC.2.1 (mx_arrI hR (mx_hd (mx_tl (mx_tl o2))) hK (by omega)) (mx_isA hG (kd := 16) (by omega) (by omega) _ _) (fun q => by cases q) (mx_bd hin) rfl rfl hd (fun H1 e1 e2 e3 => k9 H1 _ e2 e3 (mx_arrAtI (kd := 16) (h1 := hsI h a i.toNatClampNeg (x &&& 1)) hK (by omega) ?_))
  rw [e1, show narrow .boolean (.int x) = .int (x &&& 1) from rfl, arrV_store, mx_updI, show hpI (hsI h a i.toNatClampNeg (x &&& 1)) a = fup (hpI h a) i.toNatClampNeg (x &&& 1) from mx_self rfl]
  rfl
theorem mx_updLL {f : Nat → Int64} {i : Nat} {x : Int64} : updV (fun j => Value.long (f j)) i (.long x) = fun j => .long (fup f i x j) := by
  funext j
  by_cases hj : j = i
  · simp [updV, fup, hj]
  · simp [updV, fup, hj]
theorem mx_last {a : Nat} {i : Int32} {x : Int64} (hK : hpK h a = 15) (hin : vp_in i (hpZ h a)) (hd : decode y.2.1 pc = .ok (.lastore, 1)) (kk : mx_SX y d (pc + 1) lv st (hsL h a i.toNatClampNeg x) Q) : mx_SX y d pc lv (.long x :: .int i :: .ref a :: st) h Q := by
  refine mx_write (a := a) (h1 := hsL h a i.toNatClampNeg x) (by rw [hK]; omega) rfl rfl rfl (fun _ _ => rfl) (fun _ _ => rfl) (fun _ _ => rfl) (mx_ne rfl) (fun _ _ => rfl) (fun v hv => List.mem_cons_of_mem _ (List.mem_cons_of_mem _ (List.mem_cons_of_mem _ hv))) (fun o => mx_hd (mx_tl (mx_tl o))) (fun _ hc => hc) ?_ kk
  intro p l e R s m args below meth c D cA base x0 xc hC hG H locs cells slots ls ad Qf hR hS o2 k9
  refine W.last hC.1 hC.2.1 (mx_arrL hR (mx_hd (mx_tl (mx_tl o2))) hK) (mx_isA hG (kd := 15) (by omega) (by omega) _ _) (fun q => by cases q) (mx_bd hin) rfl rfl hd (fun H1 e1 e2 e3 => k9 H1 _ e2 e3 (mx_arrAtL (h1 := hsL h a i.toNatClampNeg x) hK ?_))
  rw [e1, arrV_store, mx_updLL, show hpL (hsL h a i.toNatClampNeg x) a = fup (hpL h a) i.toNatClampNeg x from mx_self rfl]
  rfl
theorem mx_updR {ad : Nat → Nat} {f : Nat → Option Nat} {i : Nat} {x : Option Nat} : updV (fun j => va_rf ((f j).map ad)) i (va_rf (x.map ad)) = fun j => va_rf ((fup f i x j).map ad) := by
  funext j
  by_cases hj : j = i
  · simp [updV, fup, hj]
  · simp [updV, fup, hj]
theorem mx_aast {a b kd ci : Nat} {i : Int32} (hK : hpK h a = kd) (hk : 17 ≤ kd ∧ kd ≤ 20) (hKb : hpK h b = ci) (hci : ci < 13) (hc : mx_tyA kd = .object (mx_RX ci)) (hin : vp_in i (hpZ h a)) (hd : decode y.2.1 pc = .ok (.aastore, 1)) (kk : mx_SX y d (pc + 1) lv st (hsR h a i.toNatClampNeg (some b)) Q) : mx_SX y d pc lv (.ref b :: .int i :: .ref a :: st) h Q := by
  refine mx_write (a := a) (h1 := hsR h a i.toNatClampNeg (some b)) (by rw [hK]; omega) rfl rfl rfl (fun _ _ => rfl) (fun _ _ => rfl) (fun _ _ => rfl) (fun _ _ => rfl) (mx_ne rfl) (fun v hv => List.mem_cons_of_mem _ (List.mem_cons_of_mem _ (List.mem_cons_of_mem _ hv))) (fun o => mx_hd (mx_tl (mx_tl o))) (fun o hc => mx_clR (fun z hz => by cases hz; exact mx_hd o) hc) ?_ kk
  intro p l e R s m args below meth c D cA base x0 xc hC hG H locs cells slots ls ad Qf hR hS o2 k9
  have h0 : ¬ i < 0 := fun q => hin (Or.inl q)
  have hlt : i.toNatClampNeg < hpZ h a := Nat.not_le.mp fun q => hin (Or.inr q)
  obtain ⟨cellV, g1, g2, g3, -⟩ := mx_obj hR (mx_hd o2) hKb hci
  have hcls := (hG.1.1 ci _ (mx_cl ci hci)).2
  have hRA := (hG.1.2 (kd - 13) _ (mx_tyA_at cA (by omega) (by omega))).2
  rw [show (cA kd, mx_tyA kd).2 = .object (mx_RX ci) from hc] at hRA
  obtain ⟨kA, comp, k1, k2, k3, -⟩ := hRA
  have hcomp : comp = D.1 ci := Option.some.inj (k3.symm.trans hcls.1)
  subst hcomp
  obtain ⟨kC, hkC, -⟩ := hcls.2
  refine W.aast hC.1 hC.2.1 (mx_arrR hR (mx_hd (mx_tl (mx_tl o2))) hK hk) (fun q h => by cases h) (fun h => by cases h) k1 k2 rfl hkC ⟨h0, by rw [arrV_size]; exact hlt⟩ g1 (fun q h => by rw [g3] at h; cases h) (by rw [g2]; exact hkC) (by rw [g2]; exact va_assign hcls) rfl rfl hd (fun H1 e1 e2 e3 => k9 H1 _ e2 e3 (mx_arrAtR (kd := kd) (h1 := hsR h a i.toNatClampNeg (some b)) hK hk ?_))
  rw [e1, arrV_store, show hpR (hsR h a i.toNatClampNeg (some b)) a = fup (hpR h a) i.toNatClampNeg (some b) from mx_self rfl]
  exact congrArg some (congrArg (arrV _ _) (mx_updR (x := some b)))
theorem mx_aastN {a kd : Nat} {i : Int32} (hK : hpK h a = kd) (hk : 17 ≤ kd ∧ kd ≤ 20) (hin : vp_in i (hpZ h a)) (hd : decode y.2.1 pc = .ok (.aastore, 1)) (kk : mx_SX y d (pc + 1) lv st (hsR h a i.toNatClampNeg none) Q) : mx_SX y d pc lv (.null :: .int i :: .ref a :: st) h Q := by
  refine mx_write (a := a) (h1 := hsR h a i.toNatClampNeg none) (by rw [hK]; omega) rfl rfl rfl (fun _ _ => rfl) (fun _ _ => rfl) (fun _ _ => rfl) (fun _ _ => rfl) (mx_ne rfl) (fun v hv => List.mem_cons_of_mem _ (List.mem_cons_of_mem _ (List.mem_cons_of_mem _ hv))) (fun o => mx_hd (mx_tl (mx_tl o))) (fun o hc => mx_clR (fun z hz => by cases hz) hc) ?_ kk
  intro p l e R s m args below meth c D cA base x0 xc hC hG H locs cells slots ls ad Qf hR hS o2 k9
  have hobj : ∃ C, mx_tyA kd = .object C := by
    have : kd = 17 ∨ kd = 18 ∨ kd = 19 ∨ kd = 20 := by omega
    rcases this with rfl | rfl | rfl | rfl <;> exact ⟨_, rfl⟩
  obtain ⟨C, hCo⟩ := hobj
  refine va_WaastN (C := C) hC.1 hC.2.1 (mx_arrR hR (mx_hd (mx_tl (mx_tl o2))) hK hk) (by rw [← hCo]; exact mx_isA hG (kd := kd) (by omega) (by omega) _ _) (fun q => by cases q) (mx_bd hin) rfl rfl hd (fun H1 e1 e2 e3 => k9 H1 _ e2 e3 (mx_arrAtR (kd := kd) (h1 := hsR h a i.toNatClampNeg none) hK hk ?_))
  rw [e1, arrV_store, show hpR (hsR h a i.toNatClampNeg none) a = fup (hpR h a) i.toNatClampNeg none from mx_self rfl]
  exact congrArg some (congrArg (arrV _ _) (mx_updR (x := none)))
end MXF
