/-! BLOCKS: what the printed blocks of the methods (wip/whole/genblocks.py) are made with -/
section MXK
variable {y Y : mxY} {d pc index n : Nat} {lv lv' : List (Nat × Value)} {As st st' : List Value} {h : mxH} {Q : mxRes → mxH → Prop}
theorem mx_drop (hs : ∀ q ∈ lv', q ∈ lv) (k : mx_SX y d pc lv' st h Q) : mx_SX y d pc lv st h Q := by
  obtain ⟨r, h', q, x1, x2, x3⟩ := k
  refine ⟨r, h', q, x1, x2, ?_⟩
  intro p l e R s m args below meth c D cA base x0 xc hC hG H locs cells slots ls ad hR hS hl ho1 ho2 hce hsl Qf hE
  exact x3 p l e R s m args below meth c D cA base x0 xc hC hG H locs cells slots ls ad hR hS ⟨hl.1, hl.2.1, fun q hq => hl.2.2 q (List.map_subset _ hs hq)⟩ (fun q hq => ho1 q (hs q hq)) ho2 hce hsl Qf hE
theorem mx_sel (ks : List Nat) (hs : ks.filterMap (fun i => lv[i]?) = lv') (k : mx_SX y d pc lv' st h Q) : mx_SX y d pc lv st h Q :=
  mx_drop (fun q hq => by rw [← hs] at hq; obtain ⟨i, -, hi⟩ := List.mem_filterMap.mp hq; exact List.mem_of_getElem? hi) k
theorem mx_deref {e : Option Nat} {b : Nat} (pre : List Value) (hb : e = some b) (hst : pre ++ .ref b :: st = st') (k : mx_SX y d pc lv st' h Q) : mx_SX y d pc lv (pre ++ va_rf e :: st) h Q := by
  subst hb; subst hst; exact k
theorem mx_sameI {e v : Int32} (hv : e = v) (k : mx_SX y d pc lv (.int v :: st) h Q) : mx_SX y d pc lv (.int e :: st) h Q := by
  subst hv; exact k
theorem mx_getO {index ci k a : Nat} (hF : mx_FL y.1.cls index ci k) (hK : hpK h a = ci) (ht : mx_isR (mx_ty ci k) = true) (hd : decode y.2.1 pc = .ok (.getfield index, 3)) (kk : mx_SX y d (pc + 3) lv (va_rf (hpR h a k) :: st) h Q) : mx_SX y d pc lv (.ref a :: st) h Q := by
  cases hr : hpR h a k with
  | none => rw [hr] at kk; exact mx_getRn hF hK ht hr hd kk
  | some b => rw [hr] at kk; exact mx_getR hF hK ht hr hd kk
theorem mx_putO {index ci k a : Nat} {e : Option Nat} (hF : mx_FL y.1.cls index ci k) (hK : hpK h a = ci) (ht : mx_isR (mx_ty ci k) = true) (hfin : (mx_TX ci k).2.2.2 = false ∨ ((mx_TX ci k).2.2.2 = true ∧ y.1.name = "<init>" ∧ (mx_TX ci k).1 = y.1.cls)) (hd : decode y.2.1 pc = .ok (.putfield index, 3))
    (kk : mx_SX y d (pc + 3) lv st (hsR h a k e) Q) : mx_SX y d pc lv (va_rf e :: .ref a :: st) h Q := by
  cases e with
  | none => exact mx_putRn hF hK ht hfin hd kk
  | some b => exact mx_putR hF hK ht hfin hd kk
theorem mx_aaldO {a kd : Nat} {i : Int32} (hK : hpK h a = kd) (hk : 17 ≤ kd ∧ kd ≤ 20) (hin : vp_in i (hpZ h a)) (hd : decode y.2.1 pc = .ok (.aaload, 1)) (kk : mx_SX y d (pc + 1) lv (va_rf (hpR h a i.toNatClampNeg) :: st) h Q) : mx_SX y d pc lv (.int i :: .ref a :: st) h Q := by
  cases hr : hpR h a i.toNatClampNeg with
  | none => rw [hr] at kk; exact mx_aaldN hK hk hin hr hd kk
  | some b => rw [hr] at kk; exact mx_aald hK hk hin hr hd kk
theorem mx_aastO {a kd ci : Nat} {i : Int32} {e : Option Nat} (hK : hpK h a = kd) (hk : 17 ≤ kd ∧ kd ≤ 20) (hKb : ∀ b, e = some b → hpK h b = ci) (hci : ci < 13) (hc : mx_tyA kd = .object (mx_RX ci)) (hin : vp_in i (hpZ h a)) (hd : decode y.2.1 pc = .ok (.aastore, 1)) (kk : mx_SX y d (pc + 1) lv st (hsR h a i.toNatClampNeg e) Q) : mx_SX y d pc lv (va_rf e :: .int i :: .ref a :: st) h Q := by
  cases e with
  | none => exact mx_aastN hK hk hin hd kk
  | some b => exact mx_aast hK hk (hKb b rfl) hci hc hin hd kk
theorem mx_ifnullO {e : Option Nat} {off : Int} (tgt : Nat) (hd : decode y.2.1 pc = .ok (.ifnull off, 3)) (ht : (pc : Int) + off = (tgt : Int)) (kn : e = none → mx_SX y d tgt lv st h Q) (kf : ∀ b, e = some b → mx_SX y d (pc + 3) lv st h Q) : mx_SX y d pc lv (va_rf e :: st) h Q := by
  cases e with
  | none => exact mx_ifnullN tgt hd ht (kn rfl)
  | some b => exact mx_ifnull hd (kf b rfl)
theorem mx_ifnonnullO {e : Option Nat} {off : Int} (tgt : Nat) (hd : decode y.2.1 pc = .ok (.ifnonnull off, 3)) (ht : (pc : Int) + off = (tgt : Int)) (kf : ∀ b, e = some b → mx_SX y d tgt lv st h Q) (kn : e = none → mx_SX y d (pc + 3) lv st h Q) : mx_SX y d pc lv (va_rf e :: st) h Q := by
  cases e with
  | none => exact mx_ifnonnullN hd (kn rfl)
  | some b => exact mx_ifnonnull tgt hd ht (kf b rfl)
theorem mx_aloadO {e : Option Nat} {i : Nat} (j : Nat) (hd : decode y.2.1 pc = .ok (.aload i, 2)) (hk : lv[j]? = some (i, va_rf e)) (k : mx_SX y d (pc + 2) lv (va_rf e :: st) h Q) : mx_SX y d pc lv st h Q := by
  cases e with
  | none => exact mx_aloadN j hd hk k
  | some b => exact mx_aload j hd hk k
theorem mx_aload_nO {n : Fin 4} {e : Option Nat} {i : Nat} (j : Nat) (hd : decode y.2.1 pc = .ok (.aload_n n, 1)) (hi : (n : Nat) = i) (hk : lv[j]? = some (i, va_rf e)) (k : mx_SX y d (pc + 1) lv (va_rf e :: st) h Q) : mx_SX y d pc lv st h Q := by
  cases e with
  | none => exact mx_aload_nN j hd hi hk k
  | some b => exact mx_aload_n j hd hi hk k
theorem mx_astoreO {i : Nat} {e : Option Nat} (hd : decode y.2.1 pc = .ok (.astore i, 2)) (hn : i < y.2.2.1) (hl9 : mx_sto1 lv i (va_rf e) = lv') (k : mx_SX y d (pc + 2) lv' st h Q) : mx_SX y d pc lv (va_rf e :: st) h Q := by
  cases e with
  | none => exact mx_astoreN hd hn hl9 k
  | some b => exact mx_astore hd hn hl9 k
theorem mx_astore_nO {n : Fin 4} {i : Nat} {e : Option Nat} (hd : decode y.2.1 pc = .ok (.astore_n n, 1)) (hi : (n : Nat) = i) (hn : i < y.2.2.1) (hl9 : mx_sto1 lv i (va_rf e) = lv') (k : mx_SX y d (pc + 1) lv' st h Q) : mx_SX y d pc lv (va_rf e :: st) h Q := by
  cases e with
  | none => exact mx_astore_nN hd hi hn hl9 k
  | some b => exact mx_astore_n hd hi hn hl9 k
theorem mx_areturnO {e : Option Nat} {C : String} (hd : decode y.2.1 pc = .ok (.areturn, 1)) (hr : y.2.2.2.1 = some (.object C)) (he : ∀ b, e = some b → b < hpN h) (hq : Q (.inl (some (va_rf e))) h) : mx_SX y d pc lv [va_rf e] h Q := by
  cases e with
  | none => exact mx_areturnN hd hr hq
  | some b => exact mx_areturn hd hr (he b rfl) hq
theorem mx_kadd {x k : Int32} {n : Int} (hk : Int32.ofInt n = k) : x + Int32.ofInt n = x + k := by rw [hk]
theorem mx_dupO {e : Option Nat} (hd : decode y.2.1 pc = .ok (.dup, 1)) (k : mx_SX y d (pc + 1) lv (va_rf e :: va_rf e :: st) h Q) : mx_SX y d pc lv (va_rf e :: st) h Q := mx_dup hd (by cases e <;> rfl) k
theorem mx_popO {e : Option Nat} (hd : decode y.2.1 pc = .ok (.pop, 1)) (k : mx_SX y d (pc + 1) lv st h Q) : mx_SX y d pc lv (va_rf e :: st) h Q := mx_pop hd (by cases e <;> rfl) k
theorem mx_deref0 {e : Option Nat} {b : Nat} (hb : e = some b) (k : mx_SX y d pc lv (.ref b :: st) h Q) : mx_SX y d pc lv (va_rf e :: st) h Q := by subst hb; exact k
theorem mx_deref1 {e : Option Nat} {b : Nat} {v1 : Value} (hb : e = some b) (k : mx_SX y d pc lv (v1 :: .ref b :: st) h Q) : mx_SX y d pc lv (v1 :: va_rf e :: st) h Q := by subst hb; exact k
theorem mx_deref2 {e : Option Nat} {b : Nat} {v1 v2 : Value} (hb : e = some b) (k : mx_SX y d pc lv (v1 :: v2 :: .ref b :: st) h Q) : mx_SX y d pc lv (v1 :: v2 :: va_rf e :: st) h Q := by subst hb; exact k
theorem mx_deref3 {e : Option Nat} {b : Nat} {v1 v2 v3 : Value} (hb : e = some b) (k : mx_SX y d pc lv (v1 :: v2 :: v3 :: .ref b :: st) h Q) : mx_SX y d pc lv (v1 :: v2 :: v3 :: va_rf e :: st) h Q := by subst hb; exact k
theorem mx_deref4 {e : Option Nat} {b : Nat} {v1 v2 v3 v4 : Value} (hb : e = some b) (k : mx_SX y d pc lv (v1 :: v2 :: v3 :: v4 :: .ref b :: st) h Q) : mx_SX y d pc lv (v1 :: v2 :: v3 :: v4 :: va_rf e :: st) h Q := by subst hb; exact k
theorem mx_catO {e : Option Nat} : (va_rf e).category = 1 := by cases e <;> rfl
def mx_okl (i : Nat) : List (Nat × Value) → Prop
  | [] => True
  | q :: l => (Nat.beq q.1 i = false ∧ (Nat.beq (q.1 + 1) i = false ∨ q.2.category = 1)) ∧ mx_okl i l
theorem mx_okl_at {i : Nat} : ∀ {l : List (Nat × Value)}, mx_okl i l → ∀ q ∈ l, Nat.beq q.1 i = false ∧ (Nat.beq (q.1 + 1) i = false ∨ q.2.category = 1)
  | [], _, _, hq => by cases hq
  | _ :: _, h, q, hq => (List.mem_cons.mp hq).elim (fun e => e ▸ h.1) (fun hm => mx_okl_at h.2 q hm)
theorem mx_stoK {lv2 : List (Nat × Value)} {i : Nat} {v : Value} (ks : List Nat) (hs : ks.filterMap (fun j => lv[j]?) = lv2) (ho : mx_okl i lv2) (k : mx_SX y d pc ((i, v) :: lv2) st h Q) : mx_SX y d pc (mx_sto1 lv i v) st h Q := by
  refine mx_drop (fun q hq => ?_) k
  rcases List.mem_cons.mp hq with rfl | hm
  · exact List.mem_cons_self
  · obtain ⟨o1, o2⟩ := mx_okl_at ho q hm
    refine List.mem_cons_of_mem _ (List.mem_filter.mpr ⟨?_, ?_⟩)
    · rw [← hs] at hm; obtain ⟨j, -, hj⟩ := List.mem_filterMap.mp hm; exact List.mem_of_getElem? hj
    · have e1 : (q.1 == i) = false := by
        rw [beq_eq_false_iff_ne]; exact fun e => by rw [e, Nat.beq_refl] at o1; cases o1
      rw [e1]
      rcases o2 with e2 | e2
      · have e3 : (q.1 + 1 == i) = false := by
          rw [beq_eq_false_iff_ne]; exact fun e => by rw [e, Nat.beq_refl] at e2; cases e2
        rw [e3]; rfl
      · rw [e2]; simp
/-- a byte, char or boolean that the machine's cut leaves as it is -/
theorem mx_nb {x : Int32} (hx : x = 0 ∨ x = 1) : narrow .boolean (.int x) = .int x ∧ fits .boolean (.int x) = true := by
  rcases hx with rfl | rfl <;> exact ⟨rfl, rfl⟩
/-- WHAT A CALL LEAVES: an int, a long, a reference, nothing; or it throws -/
def mx_KI (P : Int32 → mxH → Prop) (X : String → mxH → Prop) : mxRes → mxH → Prop := fun r h1 => (∃ v, r = .inl (some (.int v)) ∧ P v h1) ∨ ∃ E, r = .inr E ∧ X E h1
def mx_KL (P : Int64 → mxH → Prop) (X : String → mxH → Prop) : mxRes → mxH → Prop := fun r h1 => (∃ v, r = .inl (some (.long v)) ∧ P v h1) ∨ ∃ E, r = .inr E ∧ X E h1
def mx_KR (P : Option Nat → mxH → Prop) (X : String → mxH → Prop) : mxRes → mxH → Prop := fun r h1 => (∃ v, r = .inl (some (va_rf v)) ∧ P v h1) ∨ ∃ E, r = .inr E ∧ X E h1
def mx_KV (P : mxH → Prop) (X : String → mxH → Prop) : mxRes → mxH → Prop := fun r h1 => (r = .inl none ∧ P h1) ∨ ∃ E, r = .inr E ∧ X E h1
end MXK
section MXL
variable {y Y : mxY} {d pc index n : Nat} {lv lv' : List (Nat × Value)} {As st st0 : List Value} {h : mxH} {Q : mxRes → mxH → Prop}
abbrev mx_XX (y : mxY) (Q : mxRes → mxH → Prop) : String → mxH → Prop := fun E h1 => y.2.2.2.2 = [] ∧ Q (.inr E) h1
theorem mx_cVI {P : Int32 → mxH → Prop} {b ci : Nat} (hl : Cond.methodLink y.1.cls index Y.1 ∈ mx_tbl) (hY : mx_YV Y n) (hn : As.length = n) (hK : hpK h b = ci) (hci : ci < 13) (hcls : mx_RX ci = Y.1.cls) (hw : (st.map fun v => v.category).sum ≤ 8) (hst : st0 = As.reverse ++ .ref b :: st) (hd : decode y.2.1 pc = .ok (.invokevirtual index, 3)) (hdd : 1 ≤ d) (hmL : Y.2.2.1 ≤ 22)
    (M : mx_SM Y (d - 1) (.ref b :: As) h (mx_KI P (mx_XX y Q))) (kk : ∀ v h1, P v h1 → mx_SX y d (pc + 3) lv (.int v :: st) h1 Q) : mx_SX y d pc lv st0 h Q :=
  mx_callV hl hY hn hK hci hcls hw hst hd (by omega) hmL M (fun v h1 q => by
    rcases q with ⟨w, q1, q2⟩ | ⟨E, q1, _⟩
    · cases q1; exact kk w h1 q2
    · cases q1) (fun E h1 q => by
    rcases q with ⟨w, q1, _⟩ | ⟨E', q1, q2⟩
    · cases q1
    · cases q1; exact q2)
theorem mx_cVL {P : Int64 → mxH → Prop} {b ci : Nat} (hl : Cond.methodLink y.1.cls index Y.1 ∈ mx_tbl) (hY : mx_YV Y n) (hn : As.length = n) (hK : hpK h b = ci) (hci : ci < 13) (hcls : mx_RX ci = Y.1.cls) (hw : (st.map fun v => v.category).sum ≤ 8) (hst : st0 = As.reverse ++ .ref b :: st) (hd : decode y.2.1 pc = .ok (.invokevirtual index, 3)) (hdd : 1 ≤ d) (hmL : Y.2.2.1 ≤ 22)
    (M : mx_SM Y (d - 1) (.ref b :: As) h (mx_KL P (mx_XX y Q))) (kk : ∀ v h1, P v h1 → mx_SX y d (pc + 3) lv (.long v :: st) h1 Q) : mx_SX y d pc lv st0 h Q :=
  mx_callV hl hY hn hK hci hcls hw hst hd (by omega) hmL M (fun v h1 q => by
    rcases q with ⟨w, q1, q2⟩ | ⟨E, q1, _⟩
    · cases q1; exact kk w h1 q2
    · cases q1) (fun E h1 q => by
    rcases q with ⟨w, q1, _⟩ | ⟨E', q1, q2⟩
    · cases q1
    · cases q1; exact q2)
theorem mx_cVR {P : Option Nat → mxH → Prop} {b ci : Nat} (hl : Cond.methodLink y.1.cls index Y.1 ∈ mx_tbl) (hY : mx_YV Y n) (hn : As.length = n) (hK : hpK h b = ci) (hci : ci < 13) (hcls : mx_RX ci = Y.1.cls) (hw : (st.map fun v => v.category).sum ≤ 8) (hst : st0 = As.reverse ++ .ref b :: st) (hd : decode y.2.1 pc = .ok (.invokevirtual index, 3)) (hdd : 1 ≤ d) (hmL : Y.2.2.1 ≤ 22)
    (M : mx_SM Y (d - 1) (.ref b :: As) h (mx_KR P (mx_XX y Q))) (kk : ∀ v h1, P v h1 → mx_SX y d (pc + 3) lv (va_rf v :: st) h1 Q) : mx_SX y d pc lv st0 h Q :=
  mx_callV hl hY hn hK hci hcls hw hst hd (by omega) hmL M (fun v h1 q => by
    rcases q with ⟨w, q1, q2⟩ | ⟨E, q1, _⟩
    · cases q1; exact kk w h1 q2
    · cases q1) (fun E h1 q => by
    rcases q with ⟨w, q1, _⟩ | ⟨E', q1, q2⟩
    · cases q1
    · cases q1; exact q2)
theorem mx_cVV {P : mxH → Prop} {b ci : Nat} (hl : Cond.methodLink y.1.cls index Y.1 ∈ mx_tbl) (hY : mx_YV Y n) (hn : As.length = n) (hK : hpK h b = ci) (hci : ci < 13) (hcls : mx_RX ci = Y.1.cls) (hw : (st.map fun v => v.category).sum ≤ 8) (hst : st0 = As.reverse ++ .ref b :: st) (hd : decode y.2.1 pc = .ok (.invokevirtual index, 3)) (hdd : 1 ≤ d) (hmL : Y.2.2.1 ≤ 22)
    (M : mx_SM Y (d - 1) (.ref b :: As) h (mx_KV P (mx_XX y Q))) (kk : ∀ h1, P h1 → mx_SX y d (pc + 3) lv st h1 Q) : mx_SX y d pc lv st0 h Q :=
  mx_callV hl hY hn hK hci hcls hw hst hd (by omega) hmL M (fun v h1 q => by
    rcases q with ⟨q1, q2⟩ | ⟨E, q1, _⟩
    · cases q1; exact kk h1 q2
    · cases q1) (fun E h1 q => by
    rcases q with ⟨q1, _⟩ | ⟨E', q1, q2⟩
    · cases q1
    · cases q1; exact q2)
theorem mx_cSI {P : Int32 → mxH → Prop} (hl : Cond.methodLink y.1.cls index Y.1 ∈ mx_tbl) (hY : mx_YS Y n) (hh : Y.2.2.2.2 = []) (hn : As.length = n) (hw : (st.map fun v => v.category).sum ≤ 8) (hst : st0 = As.reverse ++ st) (hd : decode y.2.1 pc = .ok (.invokestatic index, 3)) (hdd : 1 ≤ d) (hmL : Y.2.2.1 ≤ 22)
    (M : mx_SM Y (d - 1) As h (mx_KI P (mx_XX y Q))) (kk : ∀ v h1, P v h1 → mx_SX y d (pc + 3) lv (.int v :: st) h1 Q) : mx_SX y d pc lv st0 h Q :=
  mx_callS hl hY hh hn hw hst hd (by omega) hmL M (fun v h1 q => by
    rcases q with ⟨w, q1, q2⟩ | ⟨E, q1, _⟩
    · cases q1; exact kk w h1 q2
    · cases q1) (fun E h1 q => by
    rcases q with ⟨w, q1, _⟩ | ⟨E', q1, q2⟩
    · cases q1
    · cases q1; exact q2)
theorem mx_cSL {P : Int64 → mxH → Prop} (hl : Cond.methodLink y.1.cls index Y.1 ∈ mx_tbl) (hY : mx_YS Y n) (hh : Y.2.2.2.2 = []) (hn : As.length = n) (hw : (st.map fun v => v.category).sum ≤ 8) (hst : st0 = As.reverse ++ st) (hd : decode y.2.1 pc = .ok (.invokestatic index, 3)) (hdd : 1 ≤ d) (hmL : Y.2.2.1 ≤ 22)
    (M : mx_SM Y (d - 1) As h (mx_KL P (mx_XX y Q))) (kk : ∀ v h1, P v h1 → mx_SX y d (pc + 3) lv (.long v :: st) h1 Q) : mx_SX y d pc lv st0 h Q :=
  mx_callS hl hY hh hn hw hst hd (by omega) hmL M (fun v h1 q => by
    rcases q with ⟨w, q1, q2⟩ | ⟨E, q1, _⟩
    · cases q1; exact kk w h1 q2
    · cases q1) (fun E h1 q => by
    rcases q with ⟨w, q1, _⟩ | ⟨E', q1, q2⟩
    · cases q1
    · cases q1; exact q2)
/-- calls that never throw: constructors, calls between nest mates -/
theorem mx_cI {b : Nat} {P : mxH → Prop} (hl : Cond.methodLink y.1.cls index Y.1 ∈ mx_tbl) (hY : mx_YI Y n) (hret : Y.2.2.2.1 = none) (hn : As.length = n) (hw : (st.map fun v => v.category).sum ≤ 8) (hst : st0 = As.reverse ++ .ref b :: st) (hd : decode y.2.1 pc = .ok (.invokespecial index, 3)) (hdd : 1 ≤ d) (hmL : Y.2.2.1 ≤ 22)
    (M : mx_SM Y (d - 1) (.ref b :: As) h (mx_KV P fun _ _ => False)) (kk : ∀ h1, P h1 → mx_SX y d (pc + 3) lv st h1 Q) : mx_SX y d pc lv st0 h Q :=
  mx_callI (P := P) hl hY hret hn hw hst hd (by omega) hmL (M.mono fun r h1 q => by
    rcases q with q | ⟨E, _, q⟩
    · exact q
    · exact q.elim) kk
theorem mx_cIN {b : Nat} {host : String} {P : mxH → Prop} (hl : Cond.methodLinkNest y.1.cls index Y.1 host ∈ lw_tbl) (hY : mx_YI Y n) (hret : Y.2.2.2.1 = none) (hn : As.length = n) (hw : (st.map fun v => v.category).sum ≤ 8) (hst : st0 = As.reverse ++ .ref b :: st) (hd : decode y.2.1 pc = .ok (.invokespecial index, 3)) (hdd : 1 ≤ d) (hmL : Y.2.2.1 ≤ 22)
    (M : mx_SM Y (d - 1) (.ref b :: As) h (mx_KV P fun _ _ => False)) (kk : ∀ h1, P h1 → mx_SX y d (pc + 3) lv st h1 Q) : mx_SX y d pc lv st0 h Q :=
  mx_callIN (P := P) hl hY hret hn hw hst hd (by omega) hmL (M.mono fun r h1 q => by
    rcases q with q | ⟨E, _, q⟩
    · exact q
    · exact q.elim) kk
theorem mx_cSNI {host : String} {P : Int32 → mxH → Prop} (hl : Cond.methodLinkNest y.1.cls index Y.1 host ∈ lw_tbl) (hY : mx_YS Y n) (hh : Y.2.2.2.2 = []) (hn : As.length = n) (hw : (st.map fun v => v.category).sum ≤ 8) (hst : st0 = As.reverse ++ st) (hd : decode y.2.1 pc = .ok (.invokestatic index, 3)) (hdd : 1 ≤ d) (hmL : Y.2.2.1 ≤ 22)
    (M : mx_SM Y (d - 1) As h (mx_KI P fun _ _ => False)) (kk : ∀ v h1, P v h1 → mx_SX y d (pc + 3) lv (.int v :: st) h1 Q) : mx_SX y d pc lv st0 h Q :=
  mx_callSN (P := fun o h1 => ∃ v, o = some (.int v) ∧ P v h1) hl hY hh hn hw hst hd (by omega) hmL (M.mono fun r h1 q => by
    rcases q with ⟨v, q1, q2⟩ | ⟨E, _, q⟩
    · exact ⟨_, q1, v, rfl, q2⟩
    · exact q.elim) (fun o h1 q => by
    obtain ⟨v, rfl, q2⟩ := q
    exact kk v h1 q2)
theorem mx_cSNL {host : String} {P : Int64 → mxH → Prop} (hl : Cond.methodLinkNest y.1.cls index Y.1 host ∈ lw_tbl) (hY : mx_YS Y n) (hh : Y.2.2.2.2 = []) (hn : As.length = n) (hw : (st.map fun v => v.category).sum ≤ 8) (hst : st0 = As.reverse ++ st) (hd : decode y.2.1 pc = .ok (.invokestatic index, 3)) (hdd : 1 ≤ d) (hmL : Y.2.2.1 ≤ 22)
    (M : mx_SM Y (d - 1) As h (mx_KL P fun _ _ => False)) (kk : ∀ v h1, P v h1 → mx_SX y d (pc + 3) lv (.long v :: st) h1 Q) : mx_SX y d pc lv st0 h Q :=
  mx_callSN (P := fun o h1 => ∃ v, o = some (.long v) ∧ P v h1) hl hY hh hn hw hst hd (by omega) hmL (M.mono fun r h1 q => by
    rcases q with ⟨v, q1, q2⟩ | ⟨E, _, q⟩
    · exact ⟨_, q1, v, rfl, q2⟩
    · exact q.elim) (fun o h1 q => by
    obtain ⟨v, rfl, q2⟩ := q
    exact kk v h1 q2)
theorem mx_tsw {dflt lo hi : Int} {offs : Array Int} {len : Nat} {x : Int32} (tD : Nat) (hd : decode y.2.1 pc = .ok (.tableswitch dflt lo hi offs, len)) (hD : (pc : Int) + dflt = (tD : Int)) (ts : List Nat) (hlen : hi = lo + ts.length - 1) (hts : ts.map (fun (t : Nat) => (t : Int)) = offs.toList.map (fun o => (pc : Int) + o))
    (ko : x.toInt < lo ∨ hi < x.toInt → mx_SX y d tD lv st h Q) (ki : ∀ (j t : Nat), ts[j]? = some t → x.toInt = lo + (j : Int) → mx_SX y d t lv st h Q) : mx_SX y d pc lv (.int x :: st) h Q := by
  by_cases hx : x.toInt < lo ∨ hi < x.toInt
  · exact mx_tableOut tD hd hx hD (ko hx)
  · have h1 : ¬ x.toInt < lo := fun q => hx (Or.inl q)
    have h2 : ¬ hi < x.toInt := fun q => hx (Or.inr q)
    have hj : (x.toInt - lo).toNat < ts.length := by omega
    have e1 : (ts.map (fun (t : Nat) => (t : Int)))[(x.toInt - lo).toNat]? = some ((ts[(x.toInt - lo).toNat] : Nat) : Int) := by
      rw [List.getElem?_map, List.getElem?_eq_getElem hj]; rfl
    rw [hts, List.getElem?_map] at e1
    obtain ⟨o, ho, ho2⟩ := Option.map_eq_some_iff.mp e1
    refine mx_tableIn (off := o) (ts[(x.toInt - lo).toNat]) hd h1 h2 (by rw [← Array.getElem?_toList]; exact ho) ho2 (ki _ _ (List.getElem?_eq_getElem hj) (by omega))
theorem mx_lsw {dflt : Int} {ps : Array (Int × Int)} {len : Nat} {x : Int32} (tD : Nat) (hd : decode y.2.1 pc = .ok (.lookupswitch dflt ps, len)) (hp : (ps.toList.zip (ps.toList.drop 1)).all (fun (a, next) => a.1 < next.1) = true) (hD : (pc : Int) + dflt = (tD : Int)) {ks : List Int} (hks : ps.toList.map (fun q => q.1) = ks) {ts : List Nat} (hts : ps.toList.map (fun q => (pc : Int) + q.2) = ts.map (fun (t : Nat) => (t : Int)))
    (ko : x.toInt ∉ ks → mx_SX y d tD lv st h Q) (ki : ∀ (j : Nat) (k : Int) (t : Nat), ks[j]? = some k → ts[j]? = some t → x.toInt = k → mx_SX y d t lv st h Q) : mx_SX y d pc lv (.int x :: st) h Q := by
  have G : ∀ (l : List (Int × Int)), (x.toInt ∉ l.map (fun q => q.1) ∧ Op.lookupswitch.offset l dflt x.toInt = dflt) ∨ ∃ (j : Nat) (q : Int × Int), l[j]? = some q ∧ x.toInt = q.1 ∧ Op.lookupswitch.offset l dflt x.toInt = q.2 := by
    intro l
    induction l with
    | nil => exact Or.inl ⟨by simp, rfl⟩
    | cons q r ih =>
      by_cases hq : q.1 = x.toInt
      · exact Or.inr ⟨0, q, rfl, hq.symm, by obtain ⟨a, o⟩ := q; rw [Op.lookupswitch.offset_cons, if_pos hq]⟩
      · have e : Op.lookupswitch.offset (q :: r) dflt x.toInt = Op.lookupswitch.offset r dflt x.toInt := by obtain ⟨a, o⟩ := q; rw [Op.lookupswitch.offset_cons, if_neg hq]
        rw [e]
        rcases ih with ⟨i1, i2⟩ | ⟨j, q2, i1, i2, i3⟩
        · refine Or.inl ⟨fun hm => ?_, i2⟩
          rw [List.map_cons, List.mem_cons] at hm
          exact hm.elim (fun e9 => hq e9.symm) i1
        · exact Or.inr ⟨j + 1, q2, i1, i2, i3⟩
  rcases G ps.toList with ⟨i1, i2⟩ | ⟨j, q, i1, i2, i3⟩
  · rw [hks] at i1
    exact mx_lookup tD hd hp i2 hD (ko i1)
  · have e1 : ks[j]? = some q.1 := by rw [← hks, List.getElem?_map, i1]; rfl
    have e2 : (ts.map (fun (t : Nat) => (t : Int)))[j]? = some ((pc : Int) + q.2) := by rw [← hts, List.getElem?_map, i1]; rfl
    rw [List.getElem?_map] at e2
    obtain ⟨t, t1, t2⟩ := Option.map_eq_some_iff.mp e2
    exact mx_lookup t hd hp i3 t2.symm (ki j q.1 t e1 t1 i2)
theorem mx_acmp {e1 e2 : Option Nat} {pc' : Nat} (h1 : ∀ b, e1 = some b → 128 ≤ b) (h2 : ∀ b, e2 = some b → 128 ≤ b) (E : Prop) (hE : E ↔ e1 = e2)
    (hw : ∀ (p : Program) (l : Launch) (e : Env) (R : Room) (s : State) (m : MethodId) (args : Array Value) (below : List Frame) (meth : Method) (c : Code) (H : Heap) (locs : List Loc) (cells slots : Nat) (Qf : State → Prop) (ls : Array Slot) (ad : Nat → Nat),
      mx_C y d p l R s m args meth c → (E ↔ e1.map ad = e2.map ad) → lv_has ls y.2.2.1 (mx_trL ad lv) → W p l e R s m args below meth c H locs cells slots Qf (F0 m pc' ls (mx_trS ad st)) → W p l e R s m args below meth c H locs cells slots Qf (F0 m pc ls (mx_trS ad (va_rf e2 :: va_rf e1 :: st))))
    (k : mx_SX y d pc' lv st h Q) : mx_SX y d pc lv (va_rf e2 :: va_rf e1 :: st) h Q := by
  obtain ⟨r, h', hq, g1, g2, g3⟩ := k
  refine ⟨r, h', hq, g1, g2, ?_⟩
  intro p l e R s m args below meth c D cA base x0 xc hC hG H locs cells slots ls ad hR hS hl ho1 ho2 hc hs Qf hEE
  have o1 : ∀ b, e1 = some b → b < hpN h := fun b hb => by have := ho2 (va_rf e1) (by simp); rw [hb] at this; exact this
  have o2 : ∀ b, e2 = some b → b < hpN h := fun b hb => by have := ho2 (va_rf e2) (by simp); rw [hb] at this; exact this
  refine hw p l e R s m args below meth c H locs cells slots Qf ls ad hC ?_ hl (g3 p l e R s m args below meth c D cA base x0 xc hC hG H locs cells slots ls ad hR hS hl ho1 (fun v hv => ho2 v (List.mem_cons_of_mem _ (List.mem_cons_of_mem _ hv))) hc hs Qf hEE)
  rw [hE]
  refine ⟨fun q => by rw [q], fun q => ?_⟩
  cases e1 with
  | none => cases e2 with
    | none => rfl
    | some b => cases q
  | some a => cases e2 with
    | none => cases q
    | some b =>
      have := hR.2.2.2.1 a b (h1 a rfl) (o1 a rfl) (h2 b rfl) (o2 b rfl) (Option.some.inj q)
      rw [this]
theorem mx_rf_tr (ad : Nat → Nat) (e : Option Nat) : mx_tr ad (va_rf e) = va_rf (e.map ad) := by cases e <;> rfl
theorem mx_acmp_eq {e1 e2 : Option Nat} {off : Int} (tgt : Nat) (hd : decode y.2.1 pc = .ok (.if_acmp .eq off, 3)) (ht : (pc : Int) + off = (tgt : Int)) (h1 : ∀ b, e1 = some b → 128 ≤ b) (h2 : ∀ b, e2 = some b → 128 ≤ b) (kt : e1 = e2 → mx_SX y d tgt lv st h Q) (kf : ¬ e1 = e2 → mx_SX y d (pc + 3) lv st h Q) : mx_SX y d pc lv (va_rf e2 :: va_rf e1 :: st) h Q := by
  by_cases hP : e1 = e2
  · refine mx_acmp h1 h2 (e1 = e2) Iff.rfl (fun p l e R s m args below meth c H locs cells slots Qf ls ad hC hi hl k => ?_) (kt hP)
    show W p l e R s m args below meth c H locs cells slots Qf (F0 m pc ls (mx_tr ad (va_rf e2) :: mx_tr ad (va_rf e1) :: mx_trS ad st))
    rw [mx_rf_tr, mx_rf_tr]
    exact lv_acmp_eq hC.1 hC.2.1 hd ht (fun _ => k) (fun n9 => absurd (hi.mp hP) n9)
  · refine mx_acmp h1 h2 (e1 = e2) Iff.rfl (fun p l e R s m args below meth c H locs cells slots Qf ls ad hC hi hl k => ?_) (kf hP)
    show W p l e R s m args below meth c H locs cells slots Qf (F0 m pc ls (mx_tr ad (va_rf e2) :: mx_tr ad (va_rf e1) :: mx_trS ad st))
    rw [mx_rf_tr, mx_rf_tr]
    exact lv_acmp_eq hC.1 hC.2.1 hd ht (fun n9 => absurd (hi.mpr n9) hP) (fun _ => k)
theorem mx_acmp_ne {e1 e2 : Option Nat} {off : Int} (tgt : Nat) (hd : decode y.2.1 pc = .ok (.if_acmp .ne off, 3)) (ht : (pc : Int) + off = (tgt : Int)) (h1 : ∀ b, e1 = some b → 128 ≤ b) (h2 : ∀ b, e2 = some b → 128 ≤ b) (kt : ¬ e1 = e2 → mx_SX y d tgt lv st h Q) (kf : e1 = e2 → mx_SX y d (pc + 3) lv st h Q) : mx_SX y d pc lv (va_rf e2 :: va_rf e1 :: st) h Q := by
  by_cases hP : e1 = e2
  · refine mx_acmp h1 h2 (e1 = e2) Iff.rfl (fun p l e R s m args below meth c H locs cells slots Qf ls ad hC hi hl k => ?_) (kf hP)
    show W p l e R s m args below meth c H locs cells slots Qf (F0 m pc ls (mx_tr ad (va_rf e2) :: mx_tr ad (va_rf e1) :: mx_trS ad st))
    rw [mx_rf_tr, mx_rf_tr]
    exact lv_acmp_ne hC.1 hC.2.1 hd ht (fun n9 => absurd (hi.mp hP) n9) (fun _ => k)
  · refine mx_acmp h1 h2 (e1 = e2) Iff.rfl (fun p l e R s m args below meth c H locs cells slots Qf ls ad hC hi hl k => ?_) (kt hP)
    show W p l e R s m args below meth c H locs cells slots Qf (F0 m pc ls (mx_tr ad (va_rf e2) :: mx_tr ad (va_rf e1) :: mx_trS ad st))
    rw [mx_rf_tr, mx_rf_tr]
    exact lv_acmp_ne hC.1 hC.2.1 hd ht (fun _ => k) (fun n9 => absurd (hi.mpr n9) hP)
end MXL
