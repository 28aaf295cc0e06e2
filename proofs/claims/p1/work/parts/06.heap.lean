/-! RULES: an instruction that reads or writes the heap -/
def mx_RX (c : Nat) : String := match c with
  | 0 => RX0
  | 1 => RX1
  | 2 => RX2
  | 3 => RX3
  | 4 => RX4
  | 5 => RX5
  | 6 => RX6
  | 7 => RX7
  | 8 => RX8
  | 9 => RX9
  | 10 => RX10
  | 11 => RX11
  | _ => RX12
def mx_TX (c : Nat) : u_T := match c with
  | 0 => TX0
  | 1 => TX1
  | 2 => TX2
  | 3 => TX3
  | 4 => TX4
  | 5 => TX5
  | 6 => TX6
  | 7 => TX7
  | 8 => TX8
  | 9 => TX9
  | 10 => TX10
  | 11 => TX11
  | _ => TX12
theorem mx_13 {P : Nat → Prop} (h0 : P 0) (h1 : P 1) (h2 : P 2) (h3 : P 3) (h4 : P 4) (h5 : P 5) (h6 : P 6) (h7 : P 7) (h8 : P 8) (h9 : P 9) (h10 : P 10) (h11 : P 11) (h12 : P 12) : ∀ c, c < 13 → P c := by
  intro c hc
  have : c = 0 ∨ c = 1 ∨ c = 2 ∨ c = 3 ∨ c = 4 ∨ c = 5 ∨ c = 6 ∨ c = 7 ∨ c = 8 ∨ c = 9 ∨ c = 10 ∨ c = 11 ∨ c = 12 := by omega
  rcases this with rfl | rfl | rfl | rfl | rfl | rfl | rfl | rfl | rfl | rfl | rfl | rfl | rfl <;> assumption
theorem mx_cl : ∀ c, c < 13 → vwCl[c]? = some (mx_RX c, mx_TX c, mx_nf c) := mx_13 rfl rfl rfl rfl rfl rfl rfl rfl rfl rfl rfl rfl rfl
theorem mx_par : ∀ c, c < 13 → ∀ k, k < mx_nf c → parseFieldDescriptor (mx_TX c k).2.2.1 = some (mx_ty c k) := mx_13 tyX0_ok tyX1_ok tyX2_ok tyX3_ok tyX4_ok tyX5_ok tyX6_ok tyX7_ok tyX8_ok tyX9_ok tyX10_ok tyX11_ok tyX12_ok
theorem mx_nms : ∀ c, c < 13 → ∀ a, a < mx_nf c → ∀ b, b < mx_nf c → a ≠ b → (mx_TX c a).2.1 ≠ (mx_TX c b).2.1 := mx_13 nmX0 nmX1 nmX2 nmX3 nmX4 nmX5 nmX6 nmX7 nmX8 nmX9 nmX10 nmX11 nmX12
section MXS
variable {y : mxY} {d pc : Nat} {lv : List (Nat × Value)} {st : List Value} {h : mxH} {Q : mxRes → mxH → Prop}
theorem mx_step {pc' : Nat} {lv' : List (Nat × Value)} {st' : List Value} {h1 : mxH} (hle : mx_le h h1)
    (hw : ∀ (p : Program) (l : Launch) (e : Env) (R : Room) (s : State) (m : MethodId) (args : Array Value) (below : List Frame) (meth : Method) (c : Code) (D : va_G) (cA : Nat → ClassId) (base : Nat) (x0 : Nat → Nat) (xc : mxXc),
      mx_C y d p l R s m args meth c → mx_G D cA base x0 xc s s.heap →
      ∀ (H : Heap) (locs : List Loc) (cells slots : Nat) (ls : Array Slot) (ad : Nat → Nat), mx_Rep D cA base x0 xc ad h H → va_S (mx_A base) s.heap H locs → lv_has ls y.2.2.1 (mx_trL ad lv) → (∀ q ∈ lv, mx_ok h q.2) → (∀ v ∈ st, mx_ok h v) →
        cells + (hpC h1 - hpC h) ≤ R.cells → slots + (hpS h1 - hpS h) ≤ R.slots →
      ∀ (Qf : State → Prop), (∀ (H1 : Heap) (locs1 : List Loc) (ls1 : Array Slot) (ad1 : Nat → Nat), mx_ext h ad ad1 → mx_Rep D cA base x0 xc ad1 h1 H1 → va_S (mx_A base) s.heap H1 locs1 → lv_has ls1 y.2.2.1 (mx_trL ad1 lv') → (∀ q ∈ lv', mx_ok h1 q.2) → (∀ v ∈ st', mx_ok h1 v) →
          W p l e R s m args below meth c H1 locs1 (cells + (hpC h1 - hpC h)) (slots + (hpS h1 - hpS h)) Qf (F0 m pc' ls1 (mx_trS ad1 st'))) →
        W p l e R s m args below meth c H locs cells slots Qf (F0 m pc ls (mx_trS ad st)))
    (k : mx_SX y d pc' lv' st' h1 Q) : mx_SX y d pc lv st h Q := by
  obtain ⟨r, h', hq, h1', h2, h3⟩ := k
  refine ⟨r, h', hq, hle.tr h1', h2, ?_⟩
  intro p l e R s m args below meth c D cA base x0 xc hC hG H locs cells slots ls ad hR hS hl ho1 ho2 hc hs Qf hE
  have a1 := hle.2.1
  have a2 := hle.2.2
  have b1 := h1'.2.1
  have b2 := h1'.2.2
  have e1 : cells + (hpC h1 - hpC h) + (hpC h' - hpC h1) = cells + (hpC h' - hpC h) := by omega
  have e2 : slots + (hpS h1 - hpS h) + (hpS h' - hpS h1) = slots + (hpS h' - hpS h) := by omega
  refine hw p l e R s m args below meth c D cA base x0 xc hC hG H locs cells slots ls ad hR hS hl ho1 ho2 (by omega) (by omega) Qf (fun H1 locs1 ls1 ad1 hx hR1 hS1 hl1 o1 o2 => ?_)
  refine h3 p l e R s m args below meth c D cA base x0 xc hC hG H1 locs1 _ _ ls1 ad1 hR1 hS1 hl1 o1 o2 (by omega) (by omega) Qf ?_
  rw [e1, e2]
  refine ⟨fun v hv H' locs' pc' ls' ad' hx' hR' hS' hret => hE.1 v hv H' locs' pc' ls' ad' (mx_ext.tr hle.1 hx hx') hR' hS' hret, fun E hE' => ?_⟩
  obtain ⟨Qc, XC, mc, ms, q1, q2, q3, q4⟩ := hE.2 E hE'
  exact ⟨Qc, XC, mc, ms, q1, q2, q3, fun t ad' hx' hR' hF => q4 t ad' (mx_ext.tr hle.1 hx hx') hR' hF⟩
theorem mx_read {pc' : Nat} {st' : List Value}
    (hok : ∀ (D : va_G) (cA : Nat → ClassId) (base : Nat) (x0 : Nat → Nat) (xc : mxXc) (ad : Nat → Nat) (H : Heap), mx_Rep D cA base x0 xc ad h H → (∀ v ∈ st, mx_ok h v) → ∀ v ∈ st', mx_ok h v)
    (hw : ∀ (p : Program) (l : Launch) (e : Env) (R : Room) (s : State) (m : MethodId) (args : Array Value) (below : List Frame) (meth : Method) (c : Code) (D : va_G) (cA : Nat → ClassId) (base : Nat) (x0 : Nat → Nat) (xc : mxXc),
      mx_C y d p l R s m args meth c → mx_G D cA base x0 xc s s.heap →
      ∀ (H : Heap) (locs : List Loc) (cells slots : Nat) (ls : Array Slot) (ad : Nat → Nat) (Qf : State → Prop), mx_Rep D cA base x0 xc ad h H → va_S (mx_A base) s.heap H locs → (∀ v ∈ st, mx_ok h v) →
        W p l e R s m args below meth c H locs cells slots Qf (F0 m pc' ls (mx_trS ad st')) → W p l e R s m args below meth c H locs cells slots Qf (F0 m pc ls (mx_trS ad st)))
    (k : mx_SX y d pc' lv st' h Q) : mx_SX y d pc lv st h Q := by
  refine mx_step mx_le.rf ?_ k
  intro p l e R s m args below meth c D cA base x0 xc hC hG H locs cells slots ls ad hR hS hl ho1 ho2 hc hs Qf k9
  have k9 := k9 H locs ls ad mx_ext.rf hR hS hl ho1 (hok D cA base x0 xc ad H hR ho2)
  rw [Nat.sub_self, Nat.sub_self, Nat.add_zero, Nat.add_zero] at k9
  exact hw p l e R s m args below meth c D cA base x0 xc hC hG H locs cells slots ls ad Qf hR hS ho2 k9
theorem mx_Rep.at {D : va_G} {cA : Nat → ClassId} {base : Nat} {x0 : Nat → Nat} {xc : mxXc} {ad : Nat → Nat} {H : Heap} (hR : mx_Rep D cA base x0 xc ad h H) {a : Nat} (ha : a < hpN h) (hk : hpK h a < 21) : 128 ≤ a ∧ base ≤ ad a ∧ ad a < H.size ∧ mx_at D cA ad h a H := by
  by_cases h6 : a < 128
  · exact absurd (hR.2.1 a h6).2.1 (Nat.ne_of_lt hk)
  · exact ⟨Nat.not_lt.mp h6, hR.2.2.1 a (Nat.not_lt.mp h6) ha⟩
theorem mx_at.cong {D : va_G} {cA : Nat → ClassId} {ad : Nat → Nat} {h1 : mxH} {b : Nat} {H H1 : Heap} (hat : mx_at D cA ad h b H) (e1 : hpK h1 b = hpK h b) (e2 : hpZ h1 b = hpZ h b) (e3 : hpI h1 b = hpI h b) (e4 : hpL h1 b = hpL h b) (e5 : hpR h1 b = hpR h b) (hq : H1[ad b]? = H[ad b]?) : mx_at D cA ad h1 b H1 := by
  have ef : mx_fv ad h1 b = mx_fv ad h b := by funext k; simp only [mx_fv, e1, e3, e4, e5]
  obtain ⟨p1, p2, p3, p4⟩ := hat
  refine ⟨?_, ?_, ?_, ?_⟩
  · rw [e1, ef]; exact fun q => (p1 q).kept hq
  · rw [e1, e2, e3, hq]; exact p2
  · rw [e1, e2, e4, hq]; exact p3
  · rw [e1, e2, e5, hq]; exact p4
/-- one thing is changed -/
theorem mx_Rep.put {D : va_G} {cA : Nat → ClassId} {base : Nat} {x0 : Nat → Nat} {xc : mxXc} {ad : Nat → Nat} {H H1 : Heap} {h1 : mxH} {a : Nat} (hR : mx_Rep D cA base x0 xc ad h H) (ha0 : 128 ≤ a) (ha : a < hpN h) (hz : H1.size = H.size) (oq : ∀ q, q ≠ ad a → H1[q]? = H[q]?)
    (e0 : hpN h1 = hpN h) (e1 : ∀ b, b ≠ a → hpK h1 b = hpK h b) (e2 : ∀ b, b ≠ a → hpZ h1 b = hpZ h b) (e3 : ∀ b, b ≠ a → hpI h1 b = hpI h b) (e4 : ∀ b, b ≠ a → hpL h1 b = hpL h b) (e5 : ∀ b, b ≠ a → hpR h1 b = hpR h b)
    (hat : mx_at D cA ad h1 a H1) (hcl : ∀ k b, hpR h1 a k = some b → b < hpN h) : mx_Rep D cA base x0 xc ad h1 H1 := by
  obtain ⟨r1, r2, r3, r4, r5⟩ := hR
  refine ⟨by rw [e0]; exact r1, fun b hb => ?_, fun b hb hb2 => ?_, ?_, ?_⟩
  · have hne : b ≠ a := by omega
    rw [e1 b hne, e2 b hne, e3 b hne, e4 b hne]
    exact r2 b hb
  · rw [e0] at hb2
    by_cases hba : b = a
    · subst hba
      exact ⟨(r3 b hb hb2).1, by rw [hz]; exact (r3 b hb hb2).2.1, hat⟩
    · obtain ⟨q1, q2, q3⟩ := r3 b hb hb2
      exact ⟨q1, by rw [hz]; exact q2, q3.cong (e1 b hba) (e2 b hba) (e3 b hba) (e4 b hba) (e5 b hba) (oq _ (fun e => hba (r4 b a hb hb2 ha0 ha e)))⟩
  · rw [e0]; exact r4
  · intro b k z hb hz9
    rw [e0] at hb ⊢
    by_cases hba : b = a
    · subst hba; exact hcl k z hz9
    · rw [e5 b hba] at hz9
      exact r5 b k z hb hz9
def mx_isI (ty : FieldType) : Bool := match ty with
  | .long => false
  | .float => false
  | .double => false
  | .object _ => false
  | .array _ => false
  | _ => true
def mx_isR (ty : FieldType) : Bool := match ty with
  | .object _ => true
  | .array _ => true
  | _ => false
theorem mx_val_I {ad : Nat → Nat} {ty : FieldType} {i : Int32} {j : Int64} {r : Option Nat} (ht : mx_isI ty = true) : mx_val ad ty i j r = .int i := by cases ty <;> first | rfl | cases ht
theorem mx_val_R {ad : Nat → Nat} {ty : FieldType} {i : Int32} {j : Int64} {r : Option Nat} (ht : mx_isR ty = true) : mx_val ad ty i j r = va_rf (r.map ad) := by cases ty <;> first | rfl | cases ht
/-- a field as a class's code names it -/
def mx_FL (own : String) (index ci k : Nat) : Prop := k < mx_nf ci ∧ ci < 13 ∧ Cond.fieldLink own index (mx_TX ci k).1 (mx_TX ci k).2.1 (mx_TX ci k).2.2.1 ∈ mx_tbl
def mx_IN : Prop := ∀ c, c < 13 → ∀ w ∈ u_ws (mx_RX c) (mx_TX c) (mx_nf c), w ∈ mx_tbl
end MXS
section MXW
variable {p : Program} {l : Launch} {e : Env} {R : Room} {s : State} {m : MethodId} {args : Array Value} {below : List Frame} {meth : Method} {c : Code} {D : va_G} {cA : Nat → ClassId} {base : Nat} {x0 : Nat → Nat} {xc : mxXc} {y : mxY} {d pc : Nat} {H : Heap} {locs : List Loc} {cells slots : Nat} {Q : State → Prop} {ls : Array Slot} {rest : List Value}
theorem mx_Wget (hin : mx_IN) (hC : mx_C y d p l R s m args meth c) (hG : mx_G D cA base x0 xc s s.heap) {index ci k a : Nat} {V : Nat → Value} (hF : mx_FL y.1.cls index ci k) (hT : t_OB a (D.1 ci) (mx_nf ci) (D.2 ci) H V) (hd : decode y.2.1 pc = .ok (.getfield index, 3))
    (kk : W p l e R s m args below meth c H locs cells slots Q (F0 m (pc + 3) ls (V k :: rest))) : W p l e R s m args below meth c H locs cells slots Q (F0 m pc ls (.ref a :: rest)) := by
  obtain ⟨hk, hci, hlk⟩ := hF
  obtain ⟨cell, q1, q2, q3, q4⟩ := hT
  obtain ⟨hS, hfc, kC, hkC, hkind⟩ := hG.1.1 ci _ (mx_cl ci hci)
  obtain ⟨cf, kf, fi, f, hi, hsl⟩ := hS k hk
  refine W.getf hC.1 hC.2.1 hC.2.2.2.2.1 (hC.2.2.2.2.2.1 _ hlk) hi (u_facts hfc hkC (u_lays hC.2.2.2.2.2.1 (hin ci hci) hk) hi).1 q1 (by rw [q3]; exact fun h => by cases h) (v := V k) ?_ rfl rfl hd kk
  rw [hsl, q4 k hk]
theorem mx_Wput (hin : mx_IN) (hC : mx_C y d p l R s m args meth c) (hG : mx_G D cA base x0 xc s s.heap) {index ci k a : Nat} {V : Nat → Value} {v : Value} (hF : mx_FL y.1.cls index ci k) (hfin : (mx_TX ci k).2.2.2 = false ∨ ((mx_TX ci k).2.2.2 = true ∧ y.1.name = "<init>" ∧ (mx_TX ci k).1 = y.1.cls)) (hn : narrow (mx_ty ci k) v = v) (hfit : fits (mx_ty ci k) v = true)
    (hT : t_OB a (D.1 ci) (mx_nf ci) (D.2 ci) H V) (hd : decode y.2.1 pc = .ok (.putfield index, 3))
    (kk : ∀ (H1 : Heap) (z : Nat), H1.size = H.size → (∀ q, q ≠ a → H1[q]? = H[q]?) → t_OB a (D.1 ci) (mx_nf ci) (D.2 ci) H1 (updV V k v) → W p l e R s m args below meth c H1 (locs ++ [⟨a, z⟩]) cells slots Q (F0 m (pc + 3) ls rest)) :
    W p l e R s m args below meth c H locs cells slots Q (F0 m pc ls (v :: .ref a :: rest)) := by
  obtain ⟨hk, hci, hlk⟩ := hF
  have hap := va_apart (own := y.1.cls) hC.2.2.2.2.2.1 (hin ci hci) (mx_ty ci) (mx_par ci hci) (mx_nms ci hci) hG.1 (mx_cl ci hci)
  obtain ⟨cell, q1, q2, q3, q4⟩ := hT
  obtain ⟨hS, hfc, kC, hkC, hkind⟩ := hG.1.1 ci _ (mx_cl ci hci)
  obtain ⟨cf, kf, fi, f, hi, hsl⟩ := hS k hk
  have hlay := hC.2.2.2.2.2.1 _ (hin ci hci _ (u_in_lay hk))
  have hst := (u_facts hfc hkC (u_lays hC.2.2.2.2.2.1 (hin ci hci) hk) hi).1
  have fin : ∀ H1 : Heap, H1[a]? = some (cell.setSlot f.slot v) → t_OB a (D.1 ci) (mx_nf ci) (D.2 ci) H1 (updV V k v) := fun H1 e1 => ⟨_, e1, q2, q3, by rw [hsl]; exact t_set q4 hap hk v⟩
  rcases hfin with hf | ⟨hf, hini, hdecl⟩
  · unfold u_lay at hlay
    rw [if_neg (by rw [hf]; decide)] at hlay
    have h6 := u_store hfc hkC hkind hlay hi (mx_par ci hci k hk) hn hfit
    exact W.putK hC.1 hC.2.1 (f := f) ⟨hC.2.2.2.2.1, hC.2.2.2.2.2.1 _ hlk, ⟨_, _, _, hi⟩, hst⟩ (by rw [q2]; exact h6) q1 q3 (by rw [hsl]; exact k2_hasslot (q4 k hk)) rfl rfl hd fun H' e1 e2 e3 => kk H' _ e2 e3 (fin H' e1)
  · unfold u_lay at hlay
    rw [if_pos hf] at hlay
    have hcf : m.cls = cf := by
      obtain ⟨_, _, c', _, _, _, -, -, hf', -, -, -, hown2, -⟩ := Cond.laysFinal_spec hlay
      have e1 : c' = cf := by have := hi.symm.trans hf'; simp at this; exact this.1.symm
      rw [hdecl] at hown2
      rw [← e1]; exact Option.some.inj (hC.2.2.2.2.1.symm.trans hown2)
    have h6 := u_fits hfc hkC hkind (Or.inr hlay) hi (mx_par ci hci k hk) hn hfit
    exact W.putFinK hC.1 hC.2.1 hC.2.2.2.2.1 (hC.2.2.2.2.2.1 _ hlk) hi hst hcf (hC.2.2.2.2.2.2.2.1.trans hini) (by rw [q2]; exact h6) q1 q3 (by rw [hsl]; exact k2_hasslot (q4 k hk)) rfl rfl hd fun H' e1 e2 e3 => kk H' _ e2 e3 (fin H' e1)
end MXW
