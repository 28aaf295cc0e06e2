/-! RULES: an instruction that leaves the heap -/
abbrev mx_Wt : Type := Program → Launch → Env → Room → State → MethodId → Array Value → List Frame → Method → Code → Heap → List Loc → Nat → Nat → (State → Prop) → JFrame → Prop
theorem mx_pure {y : mxY} {d pc pc' : Nat} {lv lv' : List (Nat × Value)} {st st' : List Value} {h : mxH} {Q : mxRes → mxH → Prop}
    (hok : (∀ q ∈ lv, mx_ok h q.2) → (∀ v ∈ st, mx_ok h v) → (∀ q ∈ lv', mx_ok h q.2) ∧ (∀ v ∈ st', mx_ok h v))
    (hw : ∀ (p : Program) (l : Launch) (e : Env) (R : Room) (s : State) (m : MethodId) (args : Array Value) (below : List Frame) (meth : Method) (c : Code) (H : Heap) (locs : List Loc) (cells slots : Nat) (Qf : State → Prop) (ls : Array Slot) (ad : Nat → Nat),
      mx_C y d p l R s m args meth c → lv_has ls y.2.2.1 (mx_trL ad lv) → (∀ ls', lv_has ls' y.2.2.1 (mx_trL ad lv') → W p l e R s m args below meth c H locs cells slots Qf (F0 m pc' ls' (mx_trS ad st'))) → W p l e R s m args below meth c H locs cells slots Qf (F0 m pc ls (mx_trS ad st)))
    (k : mx_SX y d pc' lv' st' h Q) : mx_SX y d pc lv st h Q := by
  obtain ⟨r, h', hq, h1, h2, h3⟩ := k
  refine ⟨r, h', hq, h1, h2, ?_⟩
  intro p l e R s m args below meth c D cA base x0 xc hC hG H locs cells slots ls ad hR hS hl ho1 ho2 hc hs Qf hE
  obtain ⟨o1, o2⟩ := hok ho1 ho2
  exact hw p l e R s m args below meth c H locs cells slots Qf ls ad hC hl (fun ls' hl' => h3 p l e R s m args below meth c D cA base x0 xc hC hG H locs cells slots ls' ad hR hS hl' o1 o2 hc hs Qf hE)
theorem mx_lv_at {ad : Nat → Nat} {lv : List (Nat × Value)} {k i : Nat} {v : Value} (h : lv[k]? = some (i, v)) : (mx_trL ad lv)[k]? = some (i, mx_tr ad v) := by
  simp [mx_trL, List.getElem?_map, h]
theorem mx_lv_ok {h : mxH} {lv : List (Nat × Value)} {k i : Nat} {v : Value} (hk : lv[k]? = some (i, v)) (ho : ∀ q ∈ lv, mx_ok h q.2) : mx_ok h v := ho (i, v) (List.mem_of_getElem? hk)
theorem mx_push {h : mxH} {st : List Value} {v : Value} (hv : mx_ok h v) (ho : ∀ v ∈ st, mx_ok h v) : ∀ w ∈ v :: st, mx_ok h w := fun w hw => (List.mem_cons.mp hw).elim (fun e => e ▸ hv) (ho w)
theorem mx_tl {h : mxH} {st : List Value} {v : Value} (ho : ∀ w ∈ v :: st, mx_ok h w) : ∀ w ∈ st, mx_ok h w := fun w hw => ho w (List.mem_cons_of_mem _ hw)
theorem mx_hd {h : mxH} {st : List Value} {v : Value} (ho : ∀ w ∈ v :: st, mx_ok h w) : mx_ok h v := ho v List.mem_cons_self
/-- the locals behind a store -/
def mx_sto1 (lv : List (Nat × Value)) (i : Nat) (v : Value) : List (Nat × Value) := (i, v) :: lv.filter (fun q => !(q.1 == i) && !(q.1 + 1 == i && q.2.category == 2))
def mx_sto2 (lv : List (Nat × Value)) (i : Nat) (v : Value) : List (Nat × Value) := (i, v) :: lv.filter (fun q => !(q.1 == i) && (!(q.1 == i + 1) && !(q.1 + 1 == i && q.2.category == 2)))
theorem mx_filt {ad : Nat → Nat} (lv : List (Nat × Value)) (g : Nat → Nat → Bool) : (mx_trL ad lv).filter (fun q => g q.1 q.2.category) = mx_trL ad (lv.filter (fun q => g q.1 q.2.category)) := by
  induction lv with
  | nil => rfl
  | cons q l ih =>
    have hc : (mx_tr ad q.2).category = q.2.category := mx_cat ad q.2
    show ((q.1, mx_tr ad q.2) :: mx_trL ad l).filter _ = _
    rw [List.filter_cons, List.filter_cons, ih]
    simp only [hc]
    cases g q.1 q.2.category <;> rfl
theorem mx_sto1_tr {ad : Nat → Nat} (lv : List (Nat × Value)) (i : Nat) (v : Value) : (i, mx_tr ad v) :: (mx_trL ad lv).filter (fun q => !(q.1 == i) && !(q.1 + 1 == i && q.2.category == 2)) = mx_trL ad (mx_sto1 lv i v) := by
  rw [mx_filt lv (fun a c => !(a == i) && !(a + 1 == i && c == 2))]; rfl
theorem mx_sto2_tr {ad : Nat → Nat} (lv : List (Nat × Value)) (i : Nat) (v : Value) : (i, mx_tr ad v) :: (mx_trL ad lv).filter (fun q => !(q.1 == i) && (!(q.1 == i + 1) && !(q.1 + 1 == i && q.2.category == 2))) = mx_trL ad (mx_sto2 lv i v) := by
  rw [mx_filt lv (fun a c => !(a == i) && (!(a == i + 1) && !(a + 1 == i && c == 2)))]; rfl
theorem mx_sto1_ok {h : mxH} {lv : List (Nat × Value)} {i : Nat} {v : Value} (hv : mx_ok h v) (ho : ∀ q ∈ lv, mx_ok h q.2) : ∀ q ∈ mx_sto1 lv i v, mx_ok h q.2 := fun q hq => (List.mem_cons.mp hq).elim (fun e => by rw [e]; exact hv) (fun hm => ho q (List.mem_filter.mp hm).1)
theorem mx_sto2_ok {h : mxH} {lv : List (Nat × Value)} {i : Nat} {v : Value} (hv : mx_ok h v) (ho : ∀ q ∈ lv, mx_ok h q.2) : ∀ q ∈ mx_sto2 lv i v, mx_ok h q.2 := fun q hq => (List.mem_cons.mp hq).elim (fun e => by rw [e]; exact hv) (fun hm => ho q (List.mem_filter.mp hm).1)
section MXR
variable {y : mxY} {d pc : Nat} {lv lv' : List (Nat × Value)} {st : List Value} {h : mxH} {Q : mxRes → mxH → Prop}
theorem mx_iconst {n : Int} {v : Int32} (hd : decode y.2.1 pc = .ok (.iconst n, 1)) (hv : Int32.ofInt n = v) (k : mx_SX y d (pc + 1) lv (.int v :: st) h Q) : mx_SX y d pc lv st h Q :=
  mx_pure (fun o1 o2 => ⟨o1, mx_push (v := .int _) trivial o2⟩) (fun p l e R s m args below meth c H locs cells slots Qf ls ad hC hl k => lv_iconst hC.1 hC.2.1 hd hv (k ls hl)) k
theorem mx_bipush {n : Int} {v : Int32} (hd : decode y.2.1 pc = .ok (.bipush n, 2)) (hv : (Int8.ofInt n).toInt32 = v) (k : mx_SX y d (pc + 2) lv (.int v :: st) h Q) : mx_SX y d pc lv st h Q :=
  mx_pure (fun o1 o2 => ⟨o1, mx_push (v := .int _) trivial o2⟩) (fun p l e R s m args below meth c H locs cells slots Qf ls ad hC hl k => lv_bipush hC.1 hC.2.1 hd hv (k ls hl)) k
theorem mx_sipush {n : Int} {v : Int32} (hd : decode y.2.1 pc = .ok (.sipush n, 3)) (hv : (Int16.ofInt n).toInt32 = v) (k : mx_SX y d (pc + 3) lv (.int v :: st) h Q) : mx_SX y d pc lv st h Q :=
  mx_pure (fun o1 o2 => ⟨o1, mx_push (v := .int _) trivial o2⟩) (fun p l e R s m args below meth c H locs cells slots Qf ls ad hC hl k => lv_sipush hC.1 hC.2.1 hd hv (k ls hl)) k
theorem mx_lconst {n : Fin 2} {v : Int64} (hd : decode y.2.1 pc = .ok (.lconst n, 1)) (hv : Int64.ofNat (n : Nat) = v) (k : mx_SX y d (pc + 1) lv (.long v :: st) h Q) : mx_SX y d pc lv st h Q :=
  mx_pure (fun o1 o2 => ⟨o1, mx_push (v := .long _) trivial o2⟩) (fun p l e R s m args below meth c H locs cells slots Qf ls ad hC hl k => lv_lconst hC.1 hC.2.1 hd hv (k ls hl)) k
theorem mx_null  (hd : decode y.2.1 pc = .ok (.aconst_null, 1)) (k : mx_SX y d (pc + 1) lv (.null :: st) h Q) : mx_SX y d pc lv st h Q :=
  mx_pure (fun o1 o2 => ⟨o1, mx_push (v := .null) trivial o2⟩) (fun p l e R s m args below meth c H locs cells slots Qf ls ad hC hl k => lv_null hC.1 hC.2.1 hd (k ls hl)) k
theorem mx_ldc2 {index : Nat} {v : Int64} (hc : Cond.constantLong y.1.cls index v ∈ mx_tbl) (hd : decode y.2.1 pc = .ok (.ldc2_w index, 3)) (k : mx_SX y d (pc + 3) lv (.long v :: st) h Q) : mx_SX y d pc lv st h Q :=
  mx_pure (fun o1 o2 => ⟨o1, mx_push (v := .long _) trivial o2⟩) (fun p l e R s m args below meth c H locs cells slots Qf ls ad hC hl k => lv_ldc2 hC.1 hC.2.1 hC.2.2.2.2.1 (hC.2.2.2.2.2.1 _ hc) hd (k ls hl)) k
theorem mx_ldc {index : Nat} {v : Int32} (hc : Cond.constant y.1.cls index v ∈ mx_tbl) (hd : decode y.2.1 pc = .ok (.ldc index, 2)) (k : mx_SX y d (pc + 2) lv (.int v :: st) h Q) : mx_SX y d pc lv st h Q :=
  mx_pure (fun o1 o2 => ⟨o1, mx_push (v := .int _) trivial o2⟩) (fun p l e R s m args below meth c H locs cells slots Qf ls ad hC hl k => lv_ldc hC.1 hC.2.1 hC.2.2.2.2.1 (hC.2.2.2.2.2.1 _ hc) hd (k ls hl)) k
theorem mx_ldcw {index : Nat} {v : Int32} (hc : Cond.constant y.1.cls index v ∈ mx_tbl) (hd : decode y.2.1 pc = .ok (.ldc_w index, 3)) (k : mx_SX y d (pc + 3) lv (.int v :: st) h Q) : mx_SX y d pc lv st h Q :=
  mx_pure (fun o1 o2 => ⟨o1, mx_push (v := .int _) trivial o2⟩) (fun p l e R s m args below meth c H locs cells slots Qf ls ad hC hl k => lv_ldcw hC.1 hC.2.1 hC.2.2.2.2.1 (hC.2.2.2.2.2.1 _ hc) hd (k ls hl)) k
theorem mx_iload_n {n : Fin 4} {x : Int32} {i : Nat} (j : Nat) (hd : decode y.2.1 pc = .ok (.iload_n n, 1)) (hi : (n : Nat) = i) (hk : lv[j]? = some (i, .int x)) (k : mx_SX y d (pc + 1) lv (.int x :: st) h Q) : mx_SX y d pc lv st h Q :=
  mx_pure (fun o1 o2 => ⟨o1, mx_push (v := .int _) trivial o2⟩) (fun p l e R s m args below meth c H locs cells slots Qf ls ad hC hl k => lv_iload_n hC.1 hC.2.1 hd hi (lv_at hl j (mx_lv_at hk)) (k ls hl)) k
theorem mx_iload {x : Int32} {i : Nat} (j : Nat) (hd : decode y.2.1 pc = .ok (.iload i, 2)) (hk : lv[j]? = some (i, .int x)) (k : mx_SX y d (pc + 2) lv (.int x :: st) h Q) : mx_SX y d pc lv st h Q :=
  mx_pure (fun o1 o2 => ⟨o1, mx_push (v := .int _) trivial o2⟩) (fun p l e R s m args below meth c H locs cells slots Qf ls ad hC hl k => lv_iload hC.1 hC.2.1 hd (lv_at hl j (mx_lv_at hk)) (k ls hl)) k
theorem mx_lload_n {n : Fin 4} {x : Int64} {i : Nat} (j : Nat) (hd : decode y.2.1 pc = .ok (.lload_n n, 1)) (hi : (n : Nat) = i) (hk : lv[j]? = some (i, .long x)) (k : mx_SX y d (pc + 1) lv (.long x :: st) h Q) : mx_SX y d pc lv st h Q :=
  mx_pure (fun o1 o2 => ⟨o1, mx_push (v := .long _) trivial o2⟩) (fun p l e R s m args below meth c H locs cells slots Qf ls ad hC hl k => lv_lload_n hC.1 hC.2.1 hd hi (lv_at hl j (mx_lv_at hk)) (k ls hl)) k
theorem mx_lload {x : Int64} {i : Nat} (j : Nat) (hd : decode y.2.1 pc = .ok (.lload i, 2)) (hk : lv[j]? = some (i, .long x)) (k : mx_SX y d (pc + 2) lv (.long x :: st) h Q) : mx_SX y d pc lv st h Q :=
  mx_pure (fun o1 o2 => ⟨o1, mx_push (v := .long _) trivial o2⟩) (fun p l e R s m args below meth c H locs cells slots Qf ls ad hC hl k => lv_lload hC.1 hC.2.1 hd (lv_at hl j (mx_lv_at hk)) (k ls hl)) k
theorem mx_aload_n {n : Fin 4} {x : Nat} {i : Nat} (j : Nat) (hd : decode y.2.1 pc = .ok (.aload_n n, 1)) (hi : (n : Nat) = i) (hk : lv[j]? = some (i, .ref x)) (k : mx_SX y d (pc + 1) lv (.ref x :: st) h Q) : mx_SX y d pc lv st h Q :=
  mx_pure (fun o1 o2 => ⟨o1, mx_push (mx_lv_ok hk o1) o2⟩) (fun p l e R s m args below meth c H locs cells slots Qf ls ad hC hl k => lv_aload_n hC.1 hC.2.1 hd hi (lv_at hl j (mx_lv_at hk)) (k ls hl)) k
theorem mx_aload {x : Nat} {i : Nat} (j : Nat) (hd : decode y.2.1 pc = .ok (.aload i, 2)) (hk : lv[j]? = some (i, .ref x)) (k : mx_SX y d (pc + 2) lv (.ref x :: st) h Q) : mx_SX y d pc lv st h Q :=
  mx_pure (fun o1 o2 => ⟨o1, mx_push (mx_lv_ok hk o1) o2⟩) (fun p l e R s m args below meth c H locs cells slots Qf ls ad hC hl k => lv_aload hC.1 hC.2.1 hd (lv_at hl j (mx_lv_at hk)) (k ls hl)) k
theorem mx_aload_nN {n : Fin 4} {i : Nat} (j : Nat) (hd : decode y.2.1 pc = .ok (.aload_n n, 1)) (hi : (n : Nat) = i) (hk : lv[j]? = some (i, .null)) (k : mx_SX y d (pc + 1) lv (.null :: st) h Q) : mx_SX y d pc lv st h Q :=
  mx_pure (fun o1 o2 => ⟨o1, mx_push (mx_lv_ok hk o1) o2⟩) (fun p l e R s m args below meth c H locs cells slots Qf ls ad hC hl k => lv_aload_nN hC.1 hC.2.1 hd hi (lv_at hl j (mx_lv_at hk)) (k ls hl)) k
theorem mx_aloadN {i : Nat} (j : Nat) (hd : decode y.2.1 pc = .ok (.aload i, 2)) (hk : lv[j]? = some (i, .null)) (k : mx_SX y d (pc + 2) lv (.null :: st) h Q) : mx_SX y d pc lv st h Q :=
  mx_pure (fun o1 o2 => ⟨o1, mx_push (mx_lv_ok hk o1) o2⟩) (fun p l e R s m args below meth c H locs cells slots Qf ls ad hC hl k => lv_aloadN hC.1 hC.2.1 hd (lv_at hl j (mx_lv_at hk)) (k ls hl)) k
theorem mx_istore_n {n : Fin 4} {i : Nat} {x : Int32} (hd : decode y.2.1 pc = .ok (.istore_n n, 1)) (hi : (n : Nat) = i) (hn : i < y.2.2.1) (hl9 : mx_sto1 lv i (.int x) = lv') (k : mx_SX y d (pc + 1) lv' st h Q) : mx_SX y d pc lv (.int x :: st) h Q :=
  mx_pure (fun o1 o2 => by rw [← hl9]; exact ⟨mx_sto1_ok (mx_hd o2) o1, mx_tl o2⟩) (fun p l e R s m args below meth c H locs cells slots Qf ls ad hC hl k => lv_istore_n hC.1 hC.2.1 hd hi hl hn rfl (fun ls' hl' => k ls' (by rw [← hl9, ← mx_sto1_tr]; exact hl'))) k
theorem mx_istore {i : Nat} {x : Int32} (hd : decode y.2.1 pc = .ok (.istore i, 2)) (hn : i < y.2.2.1) (hl9 : mx_sto1 lv i (.int x) = lv') (k : mx_SX y d (pc + 2) lv' st h Q) : mx_SX y d pc lv (.int x :: st) h Q :=
  mx_pure (fun o1 o2 => by rw [← hl9]; exact ⟨mx_sto1_ok (mx_hd o2) o1, mx_tl o2⟩) (fun p l e R s m args below meth c H locs cells slots Qf ls ad hC hl k => lv_istore hC.1 hC.2.1 hd hl hn rfl (fun ls' hl' => k ls' (by rw [← hl9, ← mx_sto1_tr]; exact hl'))) k
theorem mx_lstore_n {n : Fin 4} {i : Nat} {x : Int64} (hd : decode y.2.1 pc = .ok (.lstore_n n, 1)) (hi : (n : Nat) = i) (hn : i + 1 < y.2.2.1) (hl9 : mx_sto2 lv i (.long x) = lv') (k : mx_SX y d (pc + 1) lv' st h Q) : mx_SX y d pc lv (.long x :: st) h Q :=
  mx_pure (fun o1 o2 => by rw [← hl9]; exact ⟨mx_sto2_ok (mx_hd o2) o1, mx_tl o2⟩) (fun p l e R s m args below meth c H locs cells slots Qf ls ad hC hl k => lv_lstore_n hC.1 hC.2.1 hd hi hl hn rfl (fun ls' hl' => k ls' (by rw [← hl9, ← mx_sto2_tr]; exact hl'))) k
theorem mx_lstore {i : Nat} {x : Int64} (hd : decode y.2.1 pc = .ok (.lstore i, 2)) (hn : i + 1 < y.2.2.1) (hl9 : mx_sto2 lv i (.long x) = lv') (k : mx_SX y d (pc + 2) lv' st h Q) : mx_SX y d pc lv (.long x :: st) h Q :=
  mx_pure (fun o1 o2 => by rw [← hl9]; exact ⟨mx_sto2_ok (mx_hd o2) o1, mx_tl o2⟩) (fun p l e R s m args below meth c H locs cells slots Qf ls ad hC hl k => lv_lstore hC.1 hC.2.1 hd hl hn rfl (fun ls' hl' => k ls' (by rw [← hl9, ← mx_sto2_tr]; exact hl'))) k
theorem mx_astore_n {n : Fin 4} {i : Nat} {x : Nat} (hd : decode y.2.1 pc = .ok (.astore_n n, 1)) (hi : (n : Nat) = i) (hn : i < y.2.2.1) (hl9 : mx_sto1 lv i (.ref x) = lv') (k : mx_SX y d (pc + 1) lv' st h Q) : mx_SX y d pc lv (.ref x :: st) h Q :=
  mx_pure (fun o1 o2 => by rw [← hl9]; exact ⟨mx_sto1_ok (mx_hd o2) o1, mx_tl o2⟩) (fun p l e R s m args below meth c H locs cells slots Qf ls ad hC hl k => lv_astore_n hC.1 hC.2.1 hd hi hl hn rfl (fun ls' hl' => k ls' (by rw [← hl9, ← mx_sto1_tr]; exact hl'))) k
theorem mx_astore {i : Nat} {x : Nat} (hd : decode y.2.1 pc = .ok (.astore i, 2)) (hn : i < y.2.2.1) (hl9 : mx_sto1 lv i (.ref x) = lv') (k : mx_SX y d (pc + 2) lv' st h Q) : mx_SX y d pc lv (.ref x :: st) h Q :=
  mx_pure (fun o1 o2 => by rw [← hl9]; exact ⟨mx_sto1_ok (mx_hd o2) o1, mx_tl o2⟩) (fun p l e R s m args below meth c H locs cells slots Qf ls ad hC hl k => lv_astore hC.1 hC.2.1 hd hl hn rfl (fun ls' hl' => k ls' (by rw [← hl9, ← mx_sto1_tr]; exact hl'))) k
theorem mx_astore_nN {n : Fin 4} {i : Nat}  (hd : decode y.2.1 pc = .ok (.astore_n n, 1)) (hi : (n : Nat) = i) (hn : i < y.2.2.1) (hl9 : mx_sto1 lv i (.null) = lv') (k : mx_SX y d (pc + 1) lv' st h Q) : mx_SX y d pc lv (.null :: st) h Q :=
  mx_pure (fun o1 o2 => by rw [← hl9]; exact ⟨mx_sto1_ok (mx_hd o2) o1, mx_tl o2⟩) (fun p l e R s m args below meth c H locs cells slots Qf ls ad hC hl k => lv_astore_nN hC.1 hC.2.1 hd hi hl hn rfl (fun ls' hl' => k ls' (by rw [← hl9, ← mx_sto1_tr]; exact hl'))) k
theorem mx_astoreN {i : Nat}  (hd : decode y.2.1 pc = .ok (.astore i, 2)) (hn : i < y.2.2.1) (hl9 : mx_sto1 lv i (.null) = lv') (k : mx_SX y d (pc + 2) lv' st h Q) : mx_SX y d pc lv (.null :: st) h Q :=
  mx_pure (fun o1 o2 => by rw [← hl9]; exact ⟨mx_sto1_ok (mx_hd o2) o1, mx_tl o2⟩) (fun p l e R s m args below meth c H locs cells slots Qf ls ad hC hl k => lv_astoreN hC.1 hC.2.1 hd hl hn rfl (fun ls' hl' => k ls' (by rw [← hl9, ← mx_sto1_tr]; exact hl'))) k
theorem mx_iinc {i : Nat} {n : Int} {x v : Int32} (j : Nat) (hd : decode y.2.1 pc = .ok (.iinc i n, 3)) (hk : lv[j]? = some (i, .int x)) (hv : x + Int32.ofInt n = v) (hn : i < y.2.2.1) (hl9 : mx_sto1 lv i (.int v) = lv') (k : mx_SX y d (pc + 3) lv' st h Q) : mx_SX y d pc lv st h Q :=
  mx_pure (fun o1 o2 => by rw [← hl9]; exact ⟨mx_sto1_ok (v := .int v) trivial o1, o2⟩) (fun p l e R s m args below meth c H locs cells slots Qf ls ad hC hl k => lv_iinc hC.1 hC.2.1 hd hl (mx_lv_at hk) hv hn rfl (fun ls' hl' => k ls' (by rw [← hl9, ← mx_sto1_tr (v := .int v)]; exact hl'))) k
theorem mx_iadd {x y9 : Int32} (hd : decode y.2.1 pc = .ok (.iadd, 1)) (k : mx_SX y d (pc + 1) lv (.int (x + y9) :: st) h Q) : mx_SX y d pc lv (.int y9 :: .int x :: st) h Q :=
  mx_pure (fun o1 o2 => ⟨o1, mx_push (v := .int _) trivial (mx_tl (mx_tl o2))⟩) (fun p l e R s m args below meth c H locs cells slots Qf ls ad hC hl k => lv_iadd hC.1 hC.2.1 hd (k ls hl)) k
theorem mx_isub {x y9 : Int32} (hd : decode y.2.1 pc = .ok (.isub, 1)) (k : mx_SX y d (pc + 1) lv (.int (x - y9) :: st) h Q) : mx_SX y d pc lv (.int y9 :: .int x :: st) h Q :=
  mx_pure (fun o1 o2 => ⟨o1, mx_push (v := .int _) trivial (mx_tl (mx_tl o2))⟩) (fun p l e R s m args below meth c H locs cells slots Qf ls ad hC hl k => lv_isub hC.1 hC.2.1 hd (k ls hl)) k
theorem mx_imul {x y9 : Int32} (hd : decode y.2.1 pc = .ok (.imul, 1)) (k : mx_SX y d (pc + 1) lv (.int (x * y9) :: st) h Q) : mx_SX y d pc lv (.int y9 :: .int x :: st) h Q :=
  mx_pure (fun o1 o2 => ⟨o1, mx_push (v := .int _) trivial (mx_tl (mx_tl o2))⟩) (fun p l e R s m args below meth c H locs cells slots Qf ls ad hC hl k => lv_imul hC.1 hC.2.1 hd (k ls hl)) k
theorem mx_iand {x y9 : Int32} (hd : decode y.2.1 pc = .ok (.iand, 1)) (k : mx_SX y d (pc + 1) lv (.int (x &&& y9) :: st) h Q) : mx_SX y d pc lv (.int y9 :: .int x :: st) h Q :=
  mx_pure (fun o1 o2 => ⟨o1, mx_push (v := .int _) trivial (mx_tl (mx_tl o2))⟩) (fun p l e R s m args below meth c H locs cells slots Qf ls ad hC hl k => lv_iand hC.1 hC.2.1 hd (k ls hl)) k
theorem mx_ior {x y9 : Int32} (hd : decode y.2.1 pc = .ok (.ior, 1)) (k : mx_SX y d (pc + 1) lv (.int (x ||| y9) :: st) h Q) : mx_SX y d pc lv (.int y9 :: .int x :: st) h Q :=
  mx_pure (fun o1 o2 => ⟨o1, mx_push (v := .int _) trivial (mx_tl (mx_tl o2))⟩) (fun p l e R s m args below meth c H locs cells slots Qf ls ad hC hl k => lv_ior hC.1 hC.2.1 hd (k ls hl)) k
theorem mx_ixor {x y9 : Int32} (hd : decode y.2.1 pc = .ok (.ixor, 1)) (k : mx_SX y d (pc + 1) lv (.int (x ^^^ y9) :: st) h Q) : mx_SX y d pc lv (.int y9 :: .int x :: st) h Q :=
  mx_pure (fun o1 o2 => ⟨o1, mx_push (v := .int _) trivial (mx_tl (mx_tl o2))⟩) (fun p l e R s m args below meth c H locs cells slots Qf ls ad hC hl k => lv_ixor hC.1 hC.2.1 hd (k ls hl)) k
theorem mx_ishl {x y9 : Int32} (hd : decode y.2.1 pc = .ok (.ishl, 1)) (k : mx_SX y d (pc + 1) lv (.int (x <<< (y9 &&& 31)) :: st) h Q) : mx_SX y d pc lv (.int y9 :: .int x :: st) h Q :=
  mx_pure (fun o1 o2 => ⟨o1, mx_push (v := .int _) trivial (mx_tl (mx_tl o2))⟩) (fun p l e R s m args below meth c H locs cells slots Qf ls ad hC hl k => lv_ishl hC.1 hC.2.1 hd (k ls hl)) k
theorem mx_ishr {x y9 : Int32} (hd : decode y.2.1 pc = .ok (.ishr, 1)) (k : mx_SX y d (pc + 1) lv (.int (x >>> (y9 &&& 31)) :: st) h Q) : mx_SX y d pc lv (.int y9 :: .int x :: st) h Q :=
  mx_pure (fun o1 o2 => ⟨o1, mx_push (v := .int _) trivial (mx_tl (mx_tl o2))⟩) (fun p l e R s m args below meth c H locs cells slots Qf ls ad hC hl k => lv_ishr hC.1 hC.2.1 hd (k ls hl)) k
theorem mx_idiv {x y9 : Int32} (hd : decode y.2.1 pc = .ok (.idiv, 1)) (hne : ¬ y9 = 0) (k : mx_SX y d (pc + 1) lv (.int (x / y9) :: st) h Q) : mx_SX y d pc lv (.int y9 :: .int x :: st) h Q :=
  mx_pure (fun o1 o2 => ⟨o1, mx_push (v := .int _) trivial (mx_tl (mx_tl o2))⟩) (fun p l e R s m args below meth c H locs cells slots Qf ls ad hC hl k => lv_idiv hC.1 hC.2.1 hd hne (k ls hl)) k
theorem mx_irem {x y9 : Int32} (hd : decode y.2.1 pc = .ok (.irem, 1)) (hne : ¬ y9 = 0) (k : mx_SX y d (pc + 1) lv (.int (x - x / y9 * y9) :: st) h Q) : mx_SX y d pc lv (.int y9 :: .int x :: st) h Q :=
  mx_pure (fun o1 o2 => ⟨o1, mx_push (v := .int _) trivial (mx_tl (mx_tl o2))⟩) (fun p l e R s m args below meth c H locs cells slots Qf ls ad hC hl k => lv_irem hC.1 hC.2.1 hd hne (k ls hl)) k
theorem mx_ladd {x y9 : Int64} (hd : decode y.2.1 pc = .ok (.ladd, 1)) (k : mx_SX y d (pc + 1) lv (.long (x + y9) :: st) h Q) : mx_SX y d pc lv (.long y9 :: .long x :: st) h Q :=
  mx_pure (fun o1 o2 => ⟨o1, mx_push (v := .long _) trivial (mx_tl (mx_tl o2))⟩) (fun p l e R s m args below meth c H locs cells slots Qf ls ad hC hl k => lv_ladd hC.1 hC.2.1 hd (k ls hl)) k
theorem mx_lsub {x y9 : Int64} (hd : decode y.2.1 pc = .ok (.lsub, 1)) (k : mx_SX y d (pc + 1) lv (.long (x - y9) :: st) h Q) : mx_SX y d pc lv (.long y9 :: .long x :: st) h Q :=
  mx_pure (fun o1 o2 => ⟨o1, mx_push (v := .long _) trivial (mx_tl (mx_tl o2))⟩) (fun p l e R s m args below meth c H locs cells slots Qf ls ad hC hl k => lv_lsub hC.1 hC.2.1 hd (k ls hl)) k
theorem mx_lmul {x y9 : Int64} (hd : decode y.2.1 pc = .ok (.lmul, 1)) (k : mx_SX y d (pc + 1) lv (.long (x * y9) :: st) h Q) : mx_SX y d pc lv (.long y9 :: .long x :: st) h Q :=
  mx_pure (fun o1 o2 => ⟨o1, mx_push (v := .long _) trivial (mx_tl (mx_tl o2))⟩) (fun p l e R s m args below meth c H locs cells slots Qf ls ad hC hl k => lv_lmul hC.1 hC.2.1 hd (k ls hl)) k
theorem mx_land {x y9 : Int64} (hd : decode y.2.1 pc = .ok (.land, 1)) (k : mx_SX y d (pc + 1) lv (.long (x &&& y9) :: st) h Q) : mx_SX y d pc lv (.long y9 :: .long x :: st) h Q :=
  mx_pure (fun o1 o2 => ⟨o1, mx_push (v := .long _) trivial (mx_tl (mx_tl o2))⟩) (fun p l e R s m args below meth c H locs cells slots Qf ls ad hC hl k => lv_land hC.1 hC.2.1 hd (k ls hl)) k
theorem mx_lor {x y9 : Int64} (hd : decode y.2.1 pc = .ok (.lor, 1)) (k : mx_SX y d (pc + 1) lv (.long (x ||| y9) :: st) h Q) : mx_SX y d pc lv (.long y9 :: .long x :: st) h Q :=
  mx_pure (fun o1 o2 => ⟨o1, mx_push (v := .long _) trivial (mx_tl (mx_tl o2))⟩) (fun p l e R s m args below meth c H locs cells slots Qf ls ad hC hl k => lv_lor hC.1 hC.2.1 hd (k ls hl)) k
theorem mx_ldiv {x y9 : Int64} (hd : decode y.2.1 pc = .ok (.ldiv, 1)) (hne : ¬ y9 = 0) (k : mx_SX y d (pc + 1) lv (.long (x / y9) :: st) h Q) : mx_SX y d pc lv (.long y9 :: .long x :: st) h Q :=
  mx_pure (fun o1 o2 => ⟨o1, mx_push (v := .long _) trivial (mx_tl (mx_tl o2))⟩) (fun p l e R s m args below meth c H locs cells slots Qf ls ad hC hl k => lv_ldiv hC.1 hC.2.1 hd hne (k ls hl)) k
theorem mx_lrem {x y9 : Int64} (hd : decode y.2.1 pc = .ok (.lrem, 1)) (hne : ¬ y9 = 0) (k : mx_SX y d (pc + 1) lv (.long (x - x / y9 * y9) :: st) h Q) : mx_SX y d pc lv (.long y9 :: .long x :: st) h Q :=
  mx_pure (fun o1 o2 => ⟨o1, mx_push (v := .long _) trivial (mx_tl (mx_tl o2))⟩) (fun p l e R s m args below meth c H locs cells slots Qf ls ad hC hl k => lv_lrem hC.1 hC.2.1 hd hne (k ls hl)) k
theorem mx_lshl {x : Int64} {y9 : Int32} (hd : decode y.2.1 pc = .ok (.lshl, 1)) (k : mx_SX y d (pc + 1) lv (.long (x <<< (y9.toInt64 &&& 63)) :: st) h Q) : mx_SX y d pc lv (.int y9 :: .long x :: st) h Q :=
  mx_pure (fun o1 o2 => ⟨o1, mx_push (v := .long _) trivial (mx_tl (mx_tl o2))⟩) (fun p l e R s m args below meth c H locs cells slots Qf ls ad hC hl k => lv_lshl hC.1 hC.2.1 hd rfl (k ls hl)) k
theorem mx_lcmp {x y9 : Int64} (hd : decode y.2.1 pc = .ok (.lcmp, 1)) (k : mx_SX y d (pc + 1) lv (.int (lg_cmp x y9) :: st) h Q) : mx_SX y d pc lv (.long y9 :: .long x :: st) h Q :=
  mx_pure (fun o1 o2 => ⟨o1, mx_push (v := .int _) trivial (mx_tl (mx_tl o2))⟩) (fun p l e R s m args below meth c H locs cells slots Qf ls ad hC hl k => W.lcmp hC.1 hC.2.1 hd (k ls hl)) k
theorem mx_ineg {x : Int32} (hd : decode y.2.1 pc = .ok (.ineg, 1)) (k : mx_SX y d (pc + 1) lv (.int (-x) :: st) h Q) : mx_SX y d pc lv (.int x :: st) h Q :=
  mx_pure (fun o1 o2 => ⟨o1, mx_push (v := .int _) trivial (mx_tl o2)⟩) (fun p l e R s m args below meth c H locs cells slots Qf ls ad hC hl k => lv_ineg hC.1 hC.2.1 hd (k ls hl)) k
theorem mx_i2l {x : Int32} (hd : decode y.2.1 pc = .ok (.i2l, 1)) (k : mx_SX y d (pc + 1) lv (.long x.toInt64 :: st) h Q) : mx_SX y d pc lv (.int x :: st) h Q :=
  mx_pure (fun o1 o2 => ⟨o1, mx_push (v := .long _) trivial (mx_tl o2)⟩) (fun p l e R s m args below meth c H locs cells slots Qf ls ad hC hl k => lv_i2l hC.1 hC.2.1 hd rfl (k ls hl)) k
theorem mx_l2i {x : Int64} (hd : decode y.2.1 pc = .ok (.l2i, 1)) (k : mx_SX y d (pc + 1) lv (.int x.toInt32 :: st) h Q) : mx_SX y d pc lv (.long x :: st) h Q :=
  mx_pure (fun o1 o2 => ⟨o1, mx_push (v := .int _) trivial (mx_tl o2)⟩) (fun p l e R s m args below meth c H locs cells slots Qf ls ad hC hl k => lv_l2i hC.1 hC.2.1 hd rfl (k ls hl)) k
theorem mx_i2b {x : Int32} (hd : decode y.2.1 pc = .ok (.i2b, 1)) (k : mx_SX y d (pc + 1) lv (.int x.toInt8.toInt32 :: st) h Q) : mx_SX y d pc lv (.int x :: st) h Q :=
  mx_pure (fun o1 o2 => ⟨o1, mx_push (v := .int _) trivial (mx_tl o2)⟩) (fun p l e R s m args below meth c H locs cells slots Qf ls ad hC hl k => lv_i2b hC.1 hC.2.1 hd rfl (k ls hl)) k
theorem mx_dup {v : Value} (hd : decode y.2.1 pc = .ok (.dup, 1)) (hv : v.category = 1) (k : mx_SX y d (pc + 1) lv (v :: v :: st) h Q) : mx_SX y d pc lv (v :: st) h Q :=
  mx_pure (fun o1 o2 => ⟨o1, mx_push (mx_hd o2) o2⟩) (fun p l e R s m args below meth c H locs cells slots Qf ls ad hC hl k => lv_dup hC.1 hC.2.1 hd (by rw [mx_cat]; exact hv) (k ls hl)) k
theorem mx_pop {v : Value} (hd : decode y.2.1 pc = .ok (.pop, 1)) (hv : v.category = 1) (k : mx_SX y d (pc + 1) lv st h Q) : mx_SX y d pc lv (v :: st) h Q :=
  mx_pure (fun o1 o2 => ⟨o1, mx_tl o2⟩) (fun p l e R s m args below meth c H locs cells slots Qf ls ad hC hl k => lv_pop hC.1 hC.2.1 hd (by rw [mx_cat]; exact hv) (k ls hl)) k
theorem mx_dup2 {v w : Value} (hd : decode y.2.1 pc = .ok (.dup2, 1)) (hv : v.category = 1) (hw : w.category = 1) (k : mx_SX y d (pc + 1) lv (v :: w :: v :: w :: st) h Q) : mx_SX y d pc lv (v :: w :: st) h Q :=
  mx_pure (fun o1 o2 => ⟨o1, mx_push (mx_hd o2) (mx_push (mx_hd (mx_tl o2)) o2)⟩) (fun p l e R s m args below meth c H locs cells slots Qf ls ad hC hl k => lv_dup2_11 hC.1 hC.2.1 hd (by rw [mx_cat]; exact hv) (by rw [mx_cat]; exact hw) (k ls hl)) k
theorem mx_dup_x1 {v w : Value} (hd : decode y.2.1 pc = .ok (.dup_x1, 1)) (hv : v.category = 1) (hw : w.category = 1) (k : mx_SX y d (pc + 1) lv (v :: w :: v :: st) h Q) : mx_SX y d pc lv (v :: w :: st) h Q :=
  mx_pure (fun o1 o2 => ⟨o1, mx_push (mx_hd o2) (mx_push (mx_hd (mx_tl o2)) (mx_push (mx_hd o2) (mx_tl (mx_tl o2))))⟩) (fun p l e R s m args below meth c H locs cells slots Qf ls ad hC hl k => lv_dup_x1 hC.1 hC.2.1 hd (by rw [mx_cat]; exact hv) (by rw [mx_cat]; exact hw) (k ls hl)) k
theorem mx_goto {off : Int} (tgt : Nat) (hd : decode y.2.1 pc = .ok (.goto off, 3)) (ht : (pc : Int) + off = (tgt : Int)) (k : mx_SX y d tgt lv st h Q) : mx_SX y d pc lv st h Q :=
  mx_pure (fun o1 o2 => ⟨o1, o2⟩) (fun p l e R s m args below meth c H locs cells slots Qf ls ad hC hl k => lv_goto hC.1 hC.2.1 hd ht (k ls hl)) k
theorem mx_if_eq {x : Int32} {off : Int} (tgt : Nat) (hd : decode y.2.1 pc = .ok (.ifCond .eq off, 3)) (ht : (pc : Int) + off = (tgt : Int)) (kt : x = 0 → mx_SX y d tgt lv st h Q) (kf : ¬ (x = 0) → mx_SX y d (pc + 3) lv st h Q) : mx_SX y d pc lv (.int x :: st) h Q := by
  by_cases hP : x = 0
  · exact mx_pure (fun o1 o2 => ⟨o1, mx_tl o2⟩) (fun p l e R s m args below meth c H locs cells slots Qf ls ad hC hl k => lv_if_eq hC.1 hC.2.1 hd ht (fun _ => k ls hl) (fun n9 => absurd hP n9)) (kt hP)
  · exact mx_pure (fun o1 o2 => ⟨o1, mx_tl o2⟩) (fun p l e R s m args below meth c H locs cells slots Qf ls ad hC hl k => lv_if_eq hC.1 hC.2.1 hd ht (fun n9 => absurd n9 hP) (fun _ => k ls hl)) (kf hP)
theorem mx_icmp_eq {x y9 : Int32} {off : Int} (tgt : Nat) (hd : decode y.2.1 pc = .ok (.if_icmp .eq off, 3)) (ht : (pc : Int) + off = (tgt : Int)) (kt : x = y9 → mx_SX y d tgt lv st h Q) (kf : ¬ (x = y9) → mx_SX y d (pc + 3) lv st h Q) : mx_SX y d pc lv (.int y9 :: .int x :: st) h Q := by
  by_cases hP : x = y9
  · exact mx_pure (fun o1 o2 => ⟨o1, mx_tl (mx_tl o2)⟩) (fun p l e R s m args below meth c H locs cells slots Qf ls ad hC hl k => lv_icmp_eq hC.1 hC.2.1 hd ht (fun _ => k ls hl) (fun n9 => absurd hP n9)) (kt hP)
  · exact mx_pure (fun o1 o2 => ⟨o1, mx_tl (mx_tl o2)⟩) (fun p l e R s m args below meth c H locs cells slots Qf ls ad hC hl k => lv_icmp_eq hC.1 hC.2.1 hd ht (fun n9 => absurd n9 hP) (fun _ => k ls hl)) (kf hP)
theorem mx_if_ne {x : Int32} {off : Int} (tgt : Nat) (hd : decode y.2.1 pc = .ok (.ifCond .ne off, 3)) (ht : (pc : Int) + off = (tgt : Int)) (kt : ¬ x = 0 → mx_SX y d tgt lv st h Q) (kf : x = 0 → mx_SX y d (pc + 3) lv st h Q) : mx_SX y d pc lv (.int x :: st) h Q := by
  by_cases hP : x = 0
  · exact mx_pure (fun o1 o2 => ⟨o1, mx_tl o2⟩) (fun p l e R s m args below meth c H locs cells slots Qf ls ad hC hl k => lv_if_ne hC.1 hC.2.1 hd ht (fun n9 => absurd hP n9) (fun _ => k ls hl)) (kf hP)
  · exact mx_pure (fun o1 o2 => ⟨o1, mx_tl o2⟩) (fun p l e R s m args below meth c H locs cells slots Qf ls ad hC hl k => lv_if_ne hC.1 hC.2.1 hd ht (fun _ => k ls hl) (fun n9 => absurd n9 hP)) (kt hP)
theorem mx_icmp_ne {x y9 : Int32} {off : Int} (tgt : Nat) (hd : decode y.2.1 pc = .ok (.if_icmp .ne off, 3)) (ht : (pc : Int) + off = (tgt : Int)) (kt : ¬ x = y9 → mx_SX y d tgt lv st h Q) (kf : x = y9 → mx_SX y d (pc + 3) lv st h Q) : mx_SX y d pc lv (.int y9 :: .int x :: st) h Q := by
  by_cases hP : x = y9
  · exact mx_pure (fun o1 o2 => ⟨o1, mx_tl (mx_tl o2)⟩) (fun p l e R s m args below meth c H locs cells slots Qf ls ad hC hl k => lv_icmp_ne hC.1 hC.2.1 hd ht (fun n9 => absurd hP n9) (fun _ => k ls hl)) (kf hP)
  · exact mx_pure (fun o1 o2 => ⟨o1, mx_tl (mx_tl o2)⟩) (fun p l e R s m args below meth c H locs cells slots Qf ls ad hC hl k => lv_icmp_ne hC.1 hC.2.1 hd ht (fun _ => k ls hl) (fun n9 => absurd n9 hP)) (kt hP)
theorem mx_if_lt {x : Int32} {off : Int} (tgt : Nat) (hd : decode y.2.1 pc = .ok (.ifCond .lt off, 3)) (ht : (pc : Int) + off = (tgt : Int)) (kt : x < 0 → mx_SX y d tgt lv st h Q) (kf : ¬ (x < 0) → mx_SX y d (pc + 3) lv st h Q) : mx_SX y d pc lv (.int x :: st) h Q := by
  by_cases hP : x < 0
  · exact mx_pure (fun o1 o2 => ⟨o1, mx_tl o2⟩) (fun p l e R s m args below meth c H locs cells slots Qf ls ad hC hl k => lv_if_lt hC.1 hC.2.1 hd ht (fun _ => k ls hl) (fun n9 => absurd hP n9)) (kt hP)
  · exact mx_pure (fun o1 o2 => ⟨o1, mx_tl o2⟩) (fun p l e R s m args below meth c H locs cells slots Qf ls ad hC hl k => lv_if_lt hC.1 hC.2.1 hd ht (fun n9 => absurd n9 hP) (fun _ => k ls hl)) (kf hP)
theorem mx_icmp_lt {x y9 : Int32} {off : Int} (tgt : Nat) (hd : decode y.2.1 pc = .ok (.if_icmp .lt off, 3)) (ht : (pc : Int) + off = (tgt : Int)) (kt : x < y9 → mx_SX y d tgt lv st h Q) (kf : ¬ (x < y9) → mx_SX y d (pc + 3) lv st h Q) : mx_SX y d pc lv (.int y9 :: .int x :: st) h Q := by
  by_cases hP : x < y9
  · exact mx_pure (fun o1 o2 => ⟨o1, mx_tl (mx_tl o2)⟩) (fun p l e R s m args below meth c H locs cells slots Qf ls ad hC hl k => lv_icmp_lt hC.1 hC.2.1 hd ht (fun _ => k ls hl) (fun n9 => absurd hP n9)) (kt hP)
  · exact mx_pure (fun o1 o2 => ⟨o1, mx_tl (mx_tl o2)⟩) (fun p l e R s m args below meth c H locs cells slots Qf ls ad hC hl k => lv_icmp_lt hC.1 hC.2.1 hd ht (fun n9 => absurd n9 hP) (fun _ => k ls hl)) (kf hP)
theorem mx_if_ge {x : Int32} {off : Int} (tgt : Nat) (hd : decode y.2.1 pc = .ok (.ifCond .ge off, 3)) (ht : (pc : Int) + off = (tgt : Int)) (kt : 0 ≤ x → mx_SX y d tgt lv st h Q) (kf : ¬ (0 ≤ x) → mx_SX y d (pc + 3) lv st h Q) : mx_SX y d pc lv (.int x :: st) h Q := by
  by_cases hP : 0 ≤ x
  · exact mx_pure (fun o1 o2 => ⟨o1, mx_tl o2⟩) (fun p l e R s m args below meth c H locs cells slots Qf ls ad hC hl k => lv_if_ge hC.1 hC.2.1 hd ht (fun _ => k ls hl) (fun n9 => absurd hP n9)) (kt hP)
  · exact mx_pure (fun o1 o2 => ⟨o1, mx_tl o2⟩) (fun p l e R s m args below meth c H locs cells slots Qf ls ad hC hl k => lv_if_ge hC.1 hC.2.1 hd ht (fun n9 => absurd n9 hP) (fun _ => k ls hl)) (kf hP)
theorem mx_icmp_ge {x y9 : Int32} {off : Int} (tgt : Nat) (hd : decode y.2.1 pc = .ok (.if_icmp .ge off, 3)) (ht : (pc : Int) + off = (tgt : Int)) (kt : y9 ≤ x → mx_SX y d tgt lv st h Q) (kf : ¬ (y9 ≤ x) → mx_SX y d (pc + 3) lv st h Q) : mx_SX y d pc lv (.int y9 :: .int x :: st) h Q := by
  by_cases hP : y9 ≤ x
  · exact mx_pure (fun o1 o2 => ⟨o1, mx_tl (mx_tl o2)⟩) (fun p l e R s m args below meth c H locs cells slots Qf ls ad hC hl k => lv_icmp_ge hC.1 hC.2.1 hd ht (fun _ => k ls hl) (fun n9 => absurd hP n9)) (kt hP)
  · exact mx_pure (fun o1 o2 => ⟨o1, mx_tl (mx_tl o2)⟩) (fun p l e R s m args below meth c H locs cells slots Qf ls ad hC hl k => lv_icmp_ge hC.1 hC.2.1 hd ht (fun n9 => absurd n9 hP) (fun _ => k ls hl)) (kf hP)
theorem mx_if_gt {x : Int32} {off : Int} (tgt : Nat) (hd : decode y.2.1 pc = .ok (.ifCond .gt off, 3)) (ht : (pc : Int) + off = (tgt : Int)) (kt : 0 < x → mx_SX y d tgt lv st h Q) (kf : ¬ (0 < x) → mx_SX y d (pc + 3) lv st h Q) : mx_SX y d pc lv (.int x :: st) h Q := by
  by_cases hP : 0 < x
  · exact mx_pure (fun o1 o2 => ⟨o1, mx_tl o2⟩) (fun p l e R s m args below meth c H locs cells slots Qf ls ad hC hl k => lv_if_gt hC.1 hC.2.1 hd ht (fun _ => k ls hl) (fun n9 => absurd hP n9)) (kt hP)
  · exact mx_pure (fun o1 o2 => ⟨o1, mx_tl o2⟩) (fun p l e R s m args below meth c H locs cells slots Qf ls ad hC hl k => lv_if_gt hC.1 hC.2.1 hd ht (fun n9 => absurd n9 hP) (fun _ => k ls hl)) (kf hP)
theorem mx_icmp_gt {x y9 : Int32} {off : Int} (tgt : Nat) (hd : decode y.2.1 pc = .ok (.if_icmp .gt off, 3)) (ht : (pc : Int) + off = (tgt : Int)) (kt : y9 < x → mx_SX y d tgt lv st h Q) (kf : ¬ (y9 < x) → mx_SX y d (pc + 3) lv st h Q) : mx_SX y d pc lv (.int y9 :: .int x :: st) h Q := by
  by_cases hP : y9 < x
  · exact mx_pure (fun o1 o2 => ⟨o1, mx_tl (mx_tl o2)⟩) (fun p l e R s m args below meth c H locs cells slots Qf ls ad hC hl k => lv_icmp_gt hC.1 hC.2.1 hd ht (fun _ => k ls hl) (fun n9 => absurd hP n9)) (kt hP)
  · exact mx_pure (fun o1 o2 => ⟨o1, mx_tl (mx_tl o2)⟩) (fun p l e R s m args below meth c H locs cells slots Qf ls ad hC hl k => lv_icmp_gt hC.1 hC.2.1 hd ht (fun n9 => absurd n9 hP) (fun _ => k ls hl)) (kf hP)
theorem mx_if_le {x : Int32} {off : Int} (tgt : Nat) (hd : decode y.2.1 pc = .ok (.ifCond .le off, 3)) (ht : (pc : Int) + off = (tgt : Int)) (kt : x ≤ 0 → mx_SX y d tgt lv st h Q) (kf : ¬ (x ≤ 0) → mx_SX y d (pc + 3) lv st h Q) : mx_SX y d pc lv (.int x :: st) h Q := by
  by_cases hP : x ≤ 0
  · exact mx_pure (fun o1 o2 => ⟨o1, mx_tl o2⟩) (fun p l e R s m args below meth c H locs cells slots Qf ls ad hC hl k => lv_if_le hC.1 hC.2.1 hd ht (fun _ => k ls hl) (fun n9 => absurd hP n9)) (kt hP)
  · exact mx_pure (fun o1 o2 => ⟨o1, mx_tl o2⟩) (fun p l e R s m args below meth c H locs cells slots Qf ls ad hC hl k => lv_if_le hC.1 hC.2.1 hd ht (fun n9 => absurd n9 hP) (fun _ => k ls hl)) (kf hP)
theorem mx_icmp_le {x y9 : Int32} {off : Int} (tgt : Nat) (hd : decode y.2.1 pc = .ok (.if_icmp .le off, 3)) (ht : (pc : Int) + off = (tgt : Int)) (kt : x ≤ y9 → mx_SX y d tgt lv st h Q) (kf : ¬ (x ≤ y9) → mx_SX y d (pc + 3) lv st h Q) : mx_SX y d pc lv (.int y9 :: .int x :: st) h Q := by
  by_cases hP : x ≤ y9
  · exact mx_pure (fun o1 o2 => ⟨o1, mx_tl (mx_tl o2)⟩) (fun p l e R s m args below meth c H locs cells slots Qf ls ad hC hl k => lv_icmp_le hC.1 hC.2.1 hd ht (fun _ => k ls hl) (fun n9 => absurd hP n9)) (kt hP)
  · exact mx_pure (fun o1 o2 => ⟨o1, mx_tl (mx_tl o2)⟩) (fun p l e R s m args below meth c H locs cells slots Qf ls ad hC hl k => lv_icmp_le hC.1 hC.2.1 hd ht (fun n9 => absurd n9 hP) (fun _ => k ls hl)) (kf hP)
theorem mx_ifnull {x : Nat} {off : Int} (hd : decode y.2.1 pc = .ok (.ifnull off, 3)) (k : mx_SX y d (pc + 3) lv st h Q) : mx_SX y d pc lv (.ref x :: st) h Q :=
  mx_pure (fun o1 o2 => ⟨o1, mx_tl o2⟩) (fun p l e R s m args below meth c H locs cells slots Qf ls ad hC hl k => lv_ifnull hC.1 hC.2.1 hd (k ls hl)) k
theorem mx_ifnonnull {x : Nat} {off : Int} (tgt : Nat) (hd : decode y.2.1 pc = .ok (.ifnonnull off, 3)) (ht : (pc : Int) + off = (tgt : Int)) (k : mx_SX y d tgt lv st h Q) : mx_SX y d pc lv (.ref x :: st) h Q :=
  mx_pure (fun o1 o2 => ⟨o1, mx_tl o2⟩) (fun p l e R s m args below meth c H locs cells slots Qf ls ad hC hl k => lv_ifnonnull hC.1 hC.2.1 hd ht (k ls hl)) k
theorem mx_ifnullN {off : Int} (tgt : Nat) (hd : decode y.2.1 pc = .ok (.ifnull off, 3)) (ht : (pc : Int) + off = (tgt : Int)) (k : mx_SX y d tgt lv st h Q) : mx_SX y d pc lv (.null :: st) h Q :=
  mx_pure (fun o1 o2 => ⟨o1, mx_tl o2⟩) (fun p l e R s m args below meth c H locs cells slots Qf ls ad hC hl k => lv_ifnullN hC.1 hC.2.1 hd ht (k ls hl)) k
theorem mx_ifnonnullN {off : Int} (hd : decode y.2.1 pc = .ok (.ifnonnull off, 3)) (k : mx_SX y d (pc + 3) lv st h Q) : mx_SX y d pc lv (.null :: st) h Q :=
  mx_pure (fun o1 o2 => ⟨o1, mx_tl o2⟩) (fun p l e R s m args below meth c H locs cells slots Qf ls ad hC hl k => lv_ifnonnullN hC.1 hC.2.1 hd (k ls hl)) k
theorem mx_tableOut {dflt lo hi : Int} {offs : Array Int} {len : Nat} {x : Int32} (tgt : Nat) (hd : decode y.2.1 pc = .ok (.tableswitch dflt lo hi offs, len)) (hx : x.toInt < lo ∨ hi < x.toInt) (ht : (pc : Int) + dflt = (tgt : Int)) (k : mx_SX y d tgt lv st h Q) : mx_SX y d pc lv (.int x :: st) h Q :=
  mx_pure (fun o1 o2 => ⟨o1, mx_tl o2⟩) (fun p l e R s m args below meth c H locs cells slots Qf ls ad hC hl k => lv_tableOut hC.1 hC.2.1 hd hx ht (k ls hl)) k
theorem mx_tableIn {dflt lo hi : Int} {offs : Array Int} {len : Nat} {x : Int32} {off : Int} (tgt : Nat) (hd : decode y.2.1 pc = .ok (.tableswitch dflt lo hi offs, len)) (h1 : ¬ x.toInt < lo) (h2 : ¬ hi < x.toInt) (ho : offs[(x.toInt - lo).toNat]? = some off) (ht : (pc : Int) + off = (tgt : Int)) (k : mx_SX y d tgt lv st h Q) : mx_SX y d pc lv (.int x :: st) h Q :=
  mx_pure (fun o1 o2 => ⟨o1, mx_tl o2⟩) (fun p l e R s m args below meth c H locs cells slots Qf ls ad hC hl k => lv_tableIn hC.1 hC.2.1 hd h1 h2 ho ht (k ls hl)) k
theorem mx_lookup {dflt : Int} {ps : Array (Int × Int)} {len : Nat} {x : Int32} {off : Int} (tgt : Nat) (hd : decode y.2.1 pc = .ok (.lookupswitch dflt ps, len)) (hp : (ps.toList.zip (ps.toList.drop 1)).all (fun (a, next) => a.1 < next.1) = true) (ho : Op.lookupswitch.offset ps.toList dflt x.toInt = off) (ht : (pc : Int) + off = (tgt : Int)) (k : mx_SX y d tgt lv st h Q) : mx_SX y d pc lv (.int x :: st) h Q :=
  mx_pure (fun o1 o2 => ⟨o1, mx_tl o2⟩) (fun p l e R s m args below meth c H locs cells slots Qf ls ad hC hl k => lv_lookup hC.1 hC.2.1 hd hp ho ht (k ls hl)) k
end MXR
