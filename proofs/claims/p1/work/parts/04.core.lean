/-! THE MACHINE, SEEN FROM A HEAP OF NUMBERS. A state of the heap is mxH: how many addresses, cells and slots were made; of each address its kind (0..12 an object of vwCl's class, 13 byte[], 14 int[], 15 long[], 16 boolean[], 17..20 rows of Handles, OpenFile, Shell, World) and length; what its places hold (ints, longs, references). Addresses below 128 lie outside: the script, static rows, texts. -/
abbrev mxH : Type := Nat × Nat × Nat × (Nat → Nat) × (Nat → Nat) × (Nat → Nat → Int32) × (Nat → Nat → Int64) × (Nat → Nat → Option Nat)
def hpN (h : mxH) : Nat := h.1
def hpC (h : mxH) : Nat := h.2.1
def hpS (h : mxH) : Nat := h.2.2.1
def hpK (h : mxH) : Nat → Nat := h.2.2.2.1
def hpZ (h : mxH) : Nat → Nat := h.2.2.2.2.1
def hpI (h : mxH) : Nat → Nat → Int32 := h.2.2.2.2.2.1
def hpL (h : mxH) : Nat → Nat → Int64 := h.2.2.2.2.2.2.1
def hpR (h : mxH) : Nat → Nat → Option Nat := h.2.2.2.2.2.2.2
/-- a whole row of ints, longs, references is set -/
def hrI (h : mxH) (a : Nat) (f : Nat → Int32) : mxH := (h.1, h.2.1, h.2.2.1, h.2.2.2.1, h.2.2.2.2.1, (fun b => if b = a then f else h.2.2.2.2.2.1 b), h.2.2.2.2.2.2.1, h.2.2.2.2.2.2.2)
def hrL (h : mxH) (a : Nat) (f : Nat → Int64) : mxH := (h.1, h.2.1, h.2.2.1, h.2.2.2.1, h.2.2.2.2.1, h.2.2.2.2.2.1, (fun b => if b = a then f else h.2.2.2.2.2.2.1 b), h.2.2.2.2.2.2.2)
def hrR (h : mxH) (a : Nat) (f : Nat → Option Nat) : mxH := (h.1, h.2.1, h.2.2.1, h.2.2.2.1, h.2.2.2.2.1, h.2.2.2.2.2.1, h.2.2.2.2.2.2.1, (fun b => if b = a then f else h.2.2.2.2.2.2.2 b))
def fup {α : Type} (f : Nat → α) (k : Nat) (v : α) : Nat → α := fun j => if j = k then v else f j
def hsI (h : mxH) (a k : Nat) (v : Int32) : mxH := hrI h a (fup (hpI h a) k v)
def hsL (h : mxH) (a k : Nat) (v : Int64) : mxH := hrL h a (fup (hpL h a) k v)
def hsR (h : mxH) (a k : Nat) (v : Option Nat) : mxH := hrR h a (fup (hpR h a) k v)
/-- a new thing of this kind and length, of so many slots -/
def hnw (h : mxH) (kd len z : Nat) : mxH := (h.1 + 1, h.2.1 + 1, h.2.2.1 + z, fup h.2.2.2.1 h.1 kd, fup h.2.2.2.2.1 h.1 len, fup h.2.2.2.2.2.1 h.1 (fun _ => 0), fup h.2.2.2.2.2.2.1 h.1 (fun _ => 0), fup h.2.2.2.2.2.2.2 h.1 (fun _ => none))
/-- an exception was made -/
def hth (h : mxH) : mxH := (h.1, h.2.1 + 1, h.2.2.1 + 6, h.2.2.2.1, h.2.2.2.2.1, h.2.2.2.2.2.1, h.2.2.2.2.2.2.1, h.2.2.2.2.2.2.2)
theorem hpN_rI (h a f) : hpN (hrI h a f) = hpN h := rfl
theorem hpC_rI (h a f) : hpC (hrI h a f) = hpC h := rfl
theorem hpS_rI (h a f) : hpS (hrI h a f) = hpS h := rfl
theorem hpK_rI (h a f) : hpK (hrI h a f) = hpK h := rfl
theorem hpZ_rI (h a f) : hpZ (hrI h a f) = hpZ h := rfl
theorem hpI_rI (h a f) (b : Nat) : hpI (hrI h a f) b = if b = a then f else hpI h b := rfl
theorem hpL_rI (h a f) : hpL (hrI h a f) = hpL h := rfl
theorem hpR_rI (h a f) : hpR (hrI h a f) = hpR h := rfl
theorem hpN_rL (h a f) : hpN (hrL h a f) = hpN h := rfl
theorem hpC_rL (h a f) : hpC (hrL h a f) = hpC h := rfl
theorem hpS_rL (h a f) : hpS (hrL h a f) = hpS h := rfl
theorem hpK_rL (h a f) : hpK (hrL h a f) = hpK h := rfl
theorem hpZ_rL (h a f) : hpZ (hrL h a f) = hpZ h := rfl
theorem hpI_rL (h a f) : hpI (hrL h a f) = hpI h := rfl
theorem hpL_rL (h a f) (b : Nat) : hpL (hrL h a f) b = if b = a then f else hpL h b := rfl
theorem hpR_rL (h a f) : hpR (hrL h a f) = hpR h := rfl
theorem hpN_rR (h a f) : hpN (hrR h a f) = hpN h := rfl
theorem hpC_rR (h a f) : hpC (hrR h a f) = hpC h := rfl
theorem hpS_rR (h a f) : hpS (hrR h a f) = hpS h := rfl
theorem hpK_rR (h a f) : hpK (hrR h a f) = hpK h := rfl
theorem hpZ_rR (h a f) : hpZ (hrR h a f) = hpZ h := rfl
theorem hpI_rR (h a f) : hpI (hrR h a f) = hpI h := rfl
theorem hpL_rR (h a f) : hpL (hrR h a f) = hpL h := rfl
theorem hpR_rR (h a f) (b : Nat) : hpR (hrR h a f) b = if b = a then f else hpR h b := rfl
theorem hpN_nw (h kd len z) : hpN (hnw h kd len z) = hpN h + 1 := rfl
theorem hpC_nw (h kd len z) : hpC (hnw h kd len z) = hpC h + 1 := rfl
theorem hpS_nw (h kd len z) : hpS (hnw h kd len z) = hpS h + z := rfl
theorem hpK_nw (h kd len z) (b : Nat) : hpK (hnw h kd len z) b = if b = hpN h then kd else hpK h b := rfl
theorem hpZ_nw (h kd len z) (b : Nat) : hpZ (hnw h kd len z) b = if b = hpN h then len else hpZ h b := rfl
theorem hpI_nw (h kd len z) (b : Nat) : hpI (hnw h kd len z) b = if b = hpN h then (fun _ => 0) else hpI h b := rfl
theorem hpL_nw (h kd len z) (b : Nat) : hpL (hnw h kd len z) b = if b = hpN h then (fun _ => 0) else hpL h b := rfl
theorem hpR_nw (h kd len z) (b : Nat) : hpR (hnw h kd len z) b = if b = hpN h then (fun _ => none) else hpR h b := rfl
theorem hpN_th (h) : hpN (hth h) = hpN h := rfl
theorem hpC_th (h) : hpC (hth h) = hpC h + 1 := rfl
theorem hpS_th (h) : hpS (hth h) = hpS h + 6 := rfl
theorem hpK_th (h) : hpK (hth h) = hpK h := rfl
theorem hpZ_th (h) : hpZ (hth h) = hpZ h := rfl
theorem hpI_th (h) : hpI (hth h) = hpI h := rfl
theorem hpL_th (h) : hpL (hth h) = hpL h := rfl
theorem hpR_th (h) : hpR (hth h) = hpR h := rfl
/-- a value with the machine's addresses -/
def mx_tr (ad : Nat → Nat) : Value → Value
  | .ref a => .ref (ad a)
  | v => v
def mx_trL (ad : Nat → Nat) (lv : List (Nat × Value)) : List (Nat × Value) := lv.map fun q => (q.1, mx_tr ad q.2)
def mx_trS (ad : Nat → Nat) (st : List Value) : List Value := st.map (mx_tr ad)
theorem mx_cat (ad : Nat → Nat) (v : Value) : (mx_tr ad v).category = v.category := by cases v <;> rfl
/-- the field types of a class of vwCl, by its number -/
def mx_ty (c : Nat) : Nat → FieldType := match c with
  | 0 => tyX0
  | 1 => tyX1
  | 2 => tyX2
  | 3 => tyX3
  | 4 => tyX4
  | 5 => tyX5
  | 6 => tyX6
  | 7 => tyX7
  | 8 => tyX8
  | 9 => tyX9
  | 10 => tyX10
  | 11 => tyX11
  | _ => tyX12
def mx_nf (c : Nat) : Nat := match c with
  | 0 => 8
  | 1 => 5
  | 2 => 2
  | 3 => 5
  | 4 => 13
  | 5 => 6
  | 6 => 9
  | 7 => 18
  | 8 => 18
  | 9 => 3
  | 10 => 14
  | 11 => 12
  | _ => 85
def mx_val (ad : Nat → Nat) (ty : FieldType) (i : Int32) (j : Int64) (r : Option Nat) : Value := match ty with
  | .long => .long j
  | .object _ => va_rf (r.map ad)
  | .array _ => va_rf (r.map ad)
  | _ => .int i
def mx_fv (ad : Nat → Nat) (h : mxH) (a k : Nat) : Value := mx_val ad (mx_ty (hpK h a) k) (hpI h a k) (hpL h a k) (hpR h a k)
def mx_at (D : va_G) (cA : Nat → ClassId) (ad : Nat → Nat) (h : mxH) (a : Nat) (H : Heap) : Prop :=
  (hpK h a < 13 → t_OB (ad a) (D.1 (hpK h a)) (mx_nf (hpK h a)) (D.2 (hpK h a)) H (mx_fv ad h a)) ∧
  ((hpK h a = 13 ∨ hpK h a = 14 ∨ hpK h a = 16) → H[ad a]? = some (vp_cell (cA (hpK h a)) (hpZ h a, .inl (hpI h a)))) ∧
  (hpK h a = 15 → H[ad a]? = some (vp_cell (cA (hpK h a)) (hpZ h a, .inr (.inl (hpL h a))))) ∧
  ((17 ≤ hpK h a ∧ hpK h a ≤ 20) → H[ad a]? = some (vp_cell (cA (hpK h a)) (hpZ h a, .inr (.inr (.inr (.inr (fun j => (hpR h a j).map ad)))))))
/-- what lies outside: its lengths, ints, longs -/
abbrev mxXc : Type := (Nat → Nat) × (Nat → Nat → Int32) × (Nat → Nat → Int64)
def mx_A (base : Nat) : Nat → Prop := fun q => base ≤ q
def mx_Rep (D : va_G) (cA : Nat → ClassId) (base : Nat) (x0 : Nat → Nat) (xc : mxXc) (ad : Nat → Nat) (h : mxH) (H : Heap) : Prop :=
  128 ≤ hpN h ∧ (∀ a, a < 128 → ad a = x0 a ∧ hpK h a = 21 ∧ hpZ h a = xc.1 a ∧ hpI h a = xc.2.1 a ∧ hpL h a = xc.2.2 a ∧ (a ≠ 75 → ad a < base)) ∧
  (∀ a, 128 ≤ a → a < hpN h → base ≤ ad a ∧ ad a < H.size ∧ mx_at D cA ad h a H) ∧
  (∀ a b, 128 ≤ a → a < hpN h → 128 ≤ b → b < hpN h → ad a = ad b → a = b) ∧
  (∀ a k b, a < hpN h → hpR h a k = some b → b < hpN h)
def mx_tys (cA : Nat → ClassId) : List (ClassId × FieldType) := [(cA 13, .byte), (cA 14, .int), (cA 15, .long), (cA 16, .boolean), (cA 17, .object "ShellCore$Handles"), (cA 18, .object "ShellCore$OpenFile"), (cA 19, .object "ShellCore$Shell"), (cA 20, .object "ShellCore$World")]
def mx_tyA (k : Nat) : FieldType := match k with
  | 13 => .byte
  | 14 => .int
  | 15 => .long
  | 16 => .boolean
  | 17 => .object "ShellCore$Handles"
  | 18 => .object "ShellCore$OpenFile"
  | 19 => .object "ShellCore$Shell"
  | _ => .object "ShellCore$World"
theorem mx_tyA_at (cA : Nat → ClassId) {k : Nat} (h1 : 13 ≤ k) (h2 : k ≤ 20) : (mx_tys cA)[k - 13]? = some (cA k, mx_tyA k) := by
  have : k = 13 ∨ k = 14 ∨ k = 15 ∨ k = 16 ∨ k = 17 ∨ k = 18 ∨ k = 19 ∨ k = 20 := by omega
  rcases this with rfl | rfl | rfl | rfl | rfl | rfl | rfl | rfl <;> rfl
/-- the words that every method asks for -/
def mx_tbl : List Cond := lw_tbl.filter goodWord
theorem mx_tbl_good : GoodIn mx_tbl mx_tbl := fun w hw => ⟨hw, good_of_word (List.mem_filter.mp hw).2⟩
theorem mx_in {w : Cond} (i : Nat) (h : lw_tbl[i]? = some w) (hg : goodWord w = true) : w ∈ mx_tbl := List.mem_filter.mpr ⟨List.mem_of_getElem? h, hg⟩
/-- the texts of the claim's classes, at 3 + place; their bytes at 39 + place -/
def mx_strs : List (String × Nat × String) := [("ShellCore$Parser", 62, "the text is no script"), ("ShellCore", 103, "too many input lines"), ("ShellCore", 160, "no such handle"), ("ShellCore", 188, "no such signal"), ("ShellCore", 209, "no such file"), ("ShellCore", 218, "no such record"), ("ShellCore", 222, "no such field of a record"), ("ShellCore", 232, "no such line"), ("ShellCoreModel", 162, "then"), ("ShellCoreModel", 164, "else"), ("ShellCoreModel", 166, "fi"), ("ShellCoreModel", 168, "do"), ("ShellCoreModel", 170, "done"), ("ShellCoreModel", 197, "if"), ("ShellCoreModel", 202, "while"), ("ShellCoreModel", 207, "def"), ("ShellCoreModel", 231, "true"), ("ShellCoreModel", 233, "false"), ("ShellCoreModel", 235, "echo"), ("ShellCoreModel", 237, "read"), ("ShellCoreModel", 239, "cat"), ("ShellCoreModel", 241, "exec"), ("ShellCoreModel", 243, "exit"), ("ShellCoreModel", 245, "trap"), ("ShellCoreModel", 247, "raise"), ("ShellCoreModel", 249, "set"), ("ShellCoreModel", 251, "wait"), ("ShellCoreModel", 253, "fg"), ("ShellCoreModel", 669, "hup"), ("ShellCoreModel", 671, "int"), ("ShellCoreModel", 673, "term"), ("ShellCoreModel", 675, "default"), ("ShellCoreModel", 677, "ignore"), ("ShellCoreModel", 679, "pipefail"), ("ShellCoreModel", 681, "on"), ("ShellCoreModel", 683, "off")]
def mx_slen : List Nat := [21, 20, 14, 14, 12, 14, 25, 12, 4, 4, 2, 2, 4, 2, 5, 3, 4, 5, 4, 4, 3, 4, 4, 4, 5, 3, 4, 2, 3, 3, 4, 7, 6, 8, 2, 3]
def mx_sbyt : List (List Int32) := [[116, 104, 101, 32, 116, 101, 120, 116, 32, 105, 115, 32, 110, 111, 32, 115, 99, 114, 105, 112, 116], [116, 111, 111, 32, 109, 97, 110, 121, 32, 105, 110, 112, 117, 116, 32, 108, 105, 110, 101, 115], [110, 111, 32, 115, 117, 99, 104, 32, 104, 97, 110, 100, 108, 101], [110, 111, 32, 115, 117, 99, 104, 32, 115, 105, 103, 110, 97, 108], [110, 111, 32, 115, 117, 99, 104, 32, 102, 105, 108, 101], [110, 111, 32, 115, 117, 99, 104, 32, 114, 101, 99, 111, 114, 100], [110, 111, 32, 115, 117, 99, 104, 32, 102, 105, 101, 108, 100, 32, 111, 102, 32, 97, 32, 114, 101, 99, 111, 114, 100], [110, 111, 32, 115, 117, 99, 104, 32, 108, 105, 110, 101], [116, 104, 101, 110], [101, 108, 115, 101], [102, 105], [100, 111], [100, 111, 110, 101], [105, 102], [119, 104, 105, 108, 101], [100, 101, 102], [116, 114, 117, 101], [102, 97, 108, 115, 101], [101, 99, 104, 111], [114, 101, 97, 100], [99, 97, 116], [101, 120, 101, 99], [101, 120, 105, 116], [116, 114, 97, 112], [114, 97, 105, 115, 101], [115, 101, 116], [119, 97, 105, 116], [102, 103], [104, 117, 112], [105, 110, 116], [116, 101, 114, 109], [100, 101, 102, 97, 117, 108, 116], [105, 103, 110, 111, 114, 101], [112, 105, 112, 101, 102, 97, 105, 108], [111, 110], [111, 102, 102]]
/-- what lies outside, and what the tables say beside the words of mx_tbl -/
def mx_E (base : Nat) (x0 : Nat → Nat) (xc : mxXc) (s : State) (H : Heap) : Prop :=
  va_T .int (x0 0) (xc.1 0) (fun j => .int (xc.2.1 0 j)) (mx_A base) s H ∧
  (va_Z "ShellCore$Commands" "NAMES" "[J" (.ref (x0 1)) (mx_A base) s H ∧ va_T .long (x0 1) (xc.1 1) (fun j => .long (xc.2.2 1 j)) (mx_A base) s H) ∧
  (va_Z "ShellCore$Commands" "SIGNAL_NAMES" "[J" (.ref (x0 2)) (mx_A base) s H ∧ va_T .long (x0 2) (xc.1 2) (fun j => .long (xc.2.2 2 j)) (mx_A base) s H) ∧
  (vx_Zq Bundle.tN "UNASSIGNED_STACK" Bundle.steD (mx_A base) s H ∧ vx_Zq Bundle.tN "SUPPRESSED_SENTINEL" Bundle.listD (mx_A base) s H) ∧
  vk_S 36 mx_slen mx_sbyt (fun i => x0 (3 + i)) (fun i => x0 (39 + i)) (mx_A base) s H ∧ va_Z "java/lang/String" "COMPACT_STRINGS" "Z" (.int 1) (mx_A base) s H ∧
  (va_Z "jdk/internal/util/Preconditions" "SIOOBE_FORMATTER" "Ljava/util/function/BiFunction;" .null (mx_A base) s H ∨ va_Z "jdk/internal/util/Preconditions" "SIOOBE_FORMATTER" "Ljava/util/function/BiFunction;" (.ref (x0 75)) (mx_A base) s H) ∧
  (∀ i, i < 36 → xc.1 (39 + i) = mx_slen.getD i 0 ∧ ∀ j, j < mx_slen.getD i 0 → xc.2.1 (39 + i) j = (mx_sbyt.getD i []).getD j 0)
/-- words that the tables decide, that stay, and that are no good words -/
def mx_softk (w : Cond) : Bool := w.onTables && (w.faceAtom || match w with
  | .methodLinkNest _ _ _ _ => true
  | _ => false)
theorem mx_soft_warm {w : Cond} (hw : mx_softk w = true) {s U : State} (hW : s.WarmedH U.vm) (h : va_Nw w s) : va_Nw w U := by
  unfold mx_softk at hw
  rw [Bool.and_eq_true, Bool.or_eq_true] at hw
  obtain ⟨h1, h2 | h2⟩ := hw
  · have hk : w.keepsFace = true := by
      cases w <;> first | (simp [Cond.faceAtom] at h2; done) | (simp only [Cond.keepsFace, h2, Bool.or_true])
    exact va_tabs h1 (rfl : (s.setVm U.vm).vm = U.vm) (Cond.before_shiftedFace (args := #[]) (State.Shifted.of_warmed hW) w hk h)
  · cases w <;> first | exact va_Nw.warmM hW h | cases h2
def mx_G (D : va_G) (cA : Nat → ClassId) (base : Nat) (x0 : Nat → Nat) (xc : mxXc) (s : State) (H : Heap) : Prop :=
  va_K D vwCl (mx_tys cA) s ∧ base ≤ H.size ∧ mx_E base x0 xc s H ∧ (∀ w ∈ lw_tbl, mx_softk w = true → va_Nw w s) ∧ (va_AO "ShellCore$Handles" s ∧ va_AO "ShellCore$OpenFile" s ∧ va_AO "ShellCore$Shell" s ∧ va_AO "ShellCore$World" s) ∧
  (∀ i q, mx_strs[i]? = some q → vk_R q.1 q.2.1 q.2.2 (x0 (3 + i)) s) ∧ va_Nc "java/lang/IllegalArgumentException" "java/lang/IndexOutOfBoundsException" s
theorem mx_E.moved {base : Nat} {x0 : Nat → Nat} {xc : mxXc} {u U : State} {H : Heap} (hvm : u.vm.Alike U.vm) (h : mx_E base x0 xc u H) : mx_E base x0 xc U H := by
  obtain ⟨h1, ⟨h2, h3⟩, ⟨h4, h5⟩, ⟨h6, h7⟩, h8, h9, h10, h11⟩ := h
  exact ⟨va_T.moved hvm h1, ⟨va_Z.moved hvm h2, va_T.moved hvm h3⟩, ⟨va_Z.moved hvm h4, va_T.moved hvm h5⟩, ⟨vx_Zq.moved hvm h6, vx_Zq.moved hvm h7⟩, vk_S.moved hvm h8, va_Z.moved hvm h9, h10.imp (va_Z.moved hvm) (va_Z.moved hvm), h11⟩
theorem mx_E.kept {base : Nat} {x0 : Nat → Nat} {xc : mxXc} {U : State} {H H1 : Heap} (h : mx_E base x0 xc U H) (hq : ∀ a : Nat, a < H.size → ¬ mx_A base a → H1[a]? = H[a]?) : mx_E base x0 xc U H1 := by
  obtain ⟨h1, ⟨h2, h3⟩, ⟨h4, h5⟩, ⟨h6, h7⟩, h8, h9, h10, h11⟩ := h
  exact ⟨h1.kept hq, ⟨h2.kept hq, h3.kept hq⟩, ⟨h4.kept hq, h5.kept hq⟩, ⟨h6.kept hq, h7.kept hq⟩, h8.kept hq, h9.kept hq, h10.imp (fun h => h.kept hq) (fun h => h.kept hq), h11⟩
theorem mx_G.call {D : va_G} {cA : Nat → ClassId} {base : Nat} {x0 : Nat → Nat} {xc : mxXc} {s U : State} {H : Heap} {locs : List Loc} (h : mx_G D cA base x0 xc s s.heap) (hS : va_S (mx_A base) s.heap H locs) (hW : s.WarmedH U.vm) (hU : U.heap = H) : mx_G D cA base x0 xc U U.heap := by
  obtain ⟨h1, h2, h3, h4, ⟨h5, h6, h7, h8⟩, h9, h10⟩ := h
  refine ⟨va_K.moved hW.alike h1, ?_, ?_, fun w hw hk => mx_soft_warm hk hW (h4 w hw hk), ⟨va_AO.moved hW.alike h5, va_AO.moved hW.alike h6, va_AO.moved hW.alike h7, va_AO.moved hW.alike h8⟩, fun i q hq => vk_R.warm hW (h9 i q hq), va_Nc.moved hW.alike h10⟩
  · rw [hU]; exact Nat.le_trans h2 hS.1
  · rw [hU]; exact mx_E.moved hW.alike (h3.kept hS.2.1)
/-- a method: its name, code, locals, what it returns, its table of handlers -/
abbrev mxY : Type := MethodName × ByteArray × Nat × Option FieldType × List (Nat × Nat × Nat × Nat)
def mx_ok (h : mxH) : Value → Prop
  | .ref a => a < hpN h
  | _ => True
theorem mx_ok.mono {h h' : mxH} (hn : hpN h ≤ hpN h') {v : Value} (hv : mx_ok h v) : mx_ok h' v := by
  cases v with
  | ref a => exact Nat.lt_of_lt_of_le hv hn
  | _ => trivial
abbrev mxRes : Type := Option Value ⊕ String
def mx_le (h h' : mxH) : Prop := hpN h ≤ hpN h' ∧ hpC h ≤ hpC h' ∧ hpS h ≤ hpS h'
theorem mx_le.rf {h : mxH} : mx_le h h := ⟨Nat.le_refl _, Nat.le_refl _, Nat.le_refl _⟩
theorem mx_le.tr {a b c : mxH} (h1 : mx_le a b) (h2 : mx_le b c) : mx_le a c := ⟨Nat.le_trans h1.1 h2.1, Nat.le_trans h1.2.1 h2.2.1, Nat.le_trans h1.2.2 h2.2.2⟩
def mx_okR (h' : mxH) (r : mxRes) : Prop := ∀ v, r = .inl (some v) → mx_ok h' v
def mx_ext (h : mxH) (ad ad' : Nat → Nat) : Prop := ∀ a, a < hpN h → ad' a = ad a
theorem mx_ext.rf {h : mxH} {ad : Nat → Nat} : mx_ext h ad ad := fun _ _ => rfl
theorem mx_ext.tr {h h1 : mxH} {a b c : Nat → Nat} (hn : hpN h ≤ hpN h1) (h1' : mx_ext h a b) (h2 : mx_ext h1 b c) : mx_ext h a c := fun q hq => (h2 q (Nat.lt_of_lt_of_le hq hn)).trans (h1' q hq)
theorem mx_tr_ext {h : mxH} {ad ad' : Nat → Nat} (he : mx_ext h ad ad') {v : Value} (hv : mx_ok h v) : mx_tr ad' v = mx_tr ad v := by
  cases v with
  | ref a => exact congrArg Value.ref (he a hv)
  | _ => rfl
/-- the words of a method, as its callers must have them -/
def mx_code (y : mxY) : Cond := if y.2.2.2.2 = [] then .code y.1 y.2.1 y.2.2.1 y.2.2.2.1 else .codeWith y.1 y.2.1 y.2.2.1 y.2.2.2.1 y.2.2.2.2
def mx_ws (y : mxY) : List Cond := mx_code y :: mx_tbl
def mx_room (d : Nat) (h h' : mxH) : Room := { frames := d, cells := hpC h' - hpC h, slots := hpS h' - hpS h, locals := 41 * d }
/-- A METHOD'S RUN: called at these arguments in this heap it answers r (or throws) and leaves that heap, with at most d calls open -/
def mx_M (y : mxY) (d : Nat) (As : List Value) (h : mxH) (r : mxRes) (h' : mxH) : Prop :=
  mx_le h h' ∧ mx_okR h' r ∧
  ∀ (l : Launch) (D : va_G) (cA : Nat → ClassId) (base : Nat) (x0 : Nat → Nat) (xc : mxXc) (ad : Nat → Nat), l.stackTraces = false → (∀ v ∈ As, mx_ok h v) →
    vx_Met l y.1 (mx_ws y) (mx_room d h h') (fun a U => a = (mx_trS ad As).toArray ∧ mx_Rep D cA base x0 xc ad h U.heap ∧ mx_G D cA base x0 xc U U.heap)
      (fun _ st o t => (∃ v ad', r = .inl v ∧ o = .returned (v.map (mx_tr ad')) ∧ mx_Rep D cA base x0 xc ad' h' t.heap ∧ mx_ext h ad ad') ∧ va_F (mx_A base) st t)
      (fun E st t => (∃ ad', r = .inr E ∧ mx_Rep D cA base x0 xc ad' h' t.heap ∧ mx_ext h ad ad') ∧ va_F (mx_A base) st t)
      (hpC h' - hpC h) (hpS h' - hpS h) (mx_A base)
/-- where a method's body stands -/
def mx_C (y : mxY) (d : Nat) (p : Program) (l : Launch) (R : Room) (s : State) (m : MethodId) (args : Array Value) (meth : Method) (c : Code) : Prop :=
  p.tables.exec = Jvm.exec ∧ c.code = y.2.1 ∧ meth.sig.returnType = y.2.2.2.1 ∧ c.maxLocals = y.2.2.1 ∧ s.vm.findClass y.1.cls = some m.cls ∧ (∀ w ∈ mx_tbl, w.before args s = true) ∧ meth.locks = false ∧ meth.name = y.1.name ∧ d ≤ R.frames ∧ 41 * d ≤ R.locals ∧ l.stackTraces = false ∧ c.exceptionTable.toList = tableOf y.2.2.2.2
/-- the instruction that returns this -/
def mx_isRet (y : mxY) (pc : Nat) : Option Value → Prop
  | none => decode y.2.1 pc = .ok (.return_, 1) ∧ y.2.2.2.1 = none
  | some (.int v) => decode y.2.1 pc = .ok (.ireturn, 1) ∧ ∃ ty, y.2.2.2.1 = some ty ∧ narrow ty (.int v) = .int v
  | some (.long _) => decode y.2.1 pc = .ok (.lreturn, 1) ∧ y.2.2.2.1 = some .long
  | some .null => decode y.2.1 pc = .ok (.areturn, 1) ∧ ∃ rt, y.2.2.2.1 = some rt ∧ ((∃ n, rt = .object n) ∨ ∃ t, rt = .array t)
  | some (.ref _) => decode y.2.1 pc = .ok (.areturn, 1) ∧ ∃ rt, y.2.2.2.1 = some rt ∧ ((∃ n, rt = .object n) ∨ ∃ t, rt = .array t)
  | _ => False
def mx_End (y : mxY) (p : Program) (l : Launch) (e : Env) (R : Room) (s : State) (m : MethodId) (args : Array Value) (below : List Frame) (meth : Method) (c : Code)
    (D : va_G) (cA : Nat → ClassId) (base : Nat) (x0 : Nat → Nat) (xc : mxXc) (h : mxH) (ad : Nat → Nat) (r : mxRes) (h' : mxH) (cells slots : Nat) (Qf : State → Prop) : Prop :=
  (∀ (v : Option Value), r = .inl v → ∀ (H' : Heap) (locs' : List Loc) (pc' : Nat) (ls' : Array Slot) (ad' : Nat → Nat), mx_ext h ad ad' → mx_Rep D cA base x0 xc ad' h' H' → va_S (mx_A base) s.heap H' locs' → mx_isRet y pc' v →
    W p l e R s m args below meth c H' locs' cells slots Qf (F0 m pc' ls' (v.map (mx_tr ad')).toList)) ∧
  (∀ (E : String), r = .inr E → ∃ (Qc : Array Value → State → Outcome → State → Prop) (XC : String → State → State → Prop) (mc ms : Nat), Qf = vx_MQ below Qc XC args s mc ms (mx_A base) ∧ cells ≤ mc ∧ slots ≤ ms ∧
    ∀ (t : State) (ad' : Nat → Nat), mx_ext h ad ad' → mx_Rep D cA base x0 xc ad' h' t.heap → va_F (mx_A base) s t → XC E s t)
/-- A BODY'S RUN from here: locals, stack, heap; it comes to its end with r and h' -/
def mx_X (y : mxY) (d pc : Nat) (lv : List (Nat × Value)) (st : List Value) (h : mxH) (r : mxRes) (h' : mxH) : Prop :=
  mx_le h h' ∧ mx_okR h' r ∧
  ∀ (p : Program) (l : Launch) (e : Env) (R : Room) (s : State) (m : MethodId) (args : Array Value) (below : List Frame) (meth : Method) (c : Code) (D : va_G) (cA : Nat → ClassId) (base : Nat) (x0 : Nat → Nat) (xc : mxXc),
    mx_C y d p l R s m args meth c → mx_G D cA base x0 xc s s.heap →
  ∀ (H : Heap) (locs : List Loc) (cells slots : Nat) (ls : Array Slot) (ad : Nat → Nat), mx_Rep D cA base x0 xc ad h H → va_S (mx_A base) s.heap H locs → lv_has ls y.2.2.1 (mx_trL ad lv) → (∀ q ∈ lv, mx_ok h q.2) → (∀ v ∈ st, mx_ok h v) →
    cells + (hpC h' - hpC h) ≤ R.cells → slots + (hpS h' - hpS h) ≤ R.slots →
  ∀ (Qf : State → Prop), mx_End y p l e R s m args below meth c D cA base x0 xc h ad r h' (cells + (hpC h' - hpC h)) (slots + (hpS h' - hpS h)) Qf →
    W p l e R s m args below meth c H locs cells slots Qf (F0 m pc ls (mx_trS ad st))
def mx_SX (y : mxY) (d pc : Nat) (lv : List (Nat × Value)) (st : List Value) (h : mxH) (Q : mxRes → mxH → Prop) : Prop := ∃ r h', Q r h' ∧ mx_X y d pc lv st h r h'
def mx_SM (y : mxY) (d : Nat) (As : List Value) (h : mxH) (Q : mxRes → mxH → Prop) : Prop := ∃ r h', Q r h' ∧ mx_M y d As h r h'
theorem mx_SX.mono {y : mxY} {d pc : Nat} {lv : List (Nat × Value)} {st : List Value} {h : mxH} {Q Q' : mxRes → mxH → Prop} (k : mx_SX y d pc lv st h Q) (hq : ∀ r h', Q r h' → Q' r h') : mx_SX y d pc lv st h Q' := by
  obtain ⟨r, h', q, x⟩ := k
  exact ⟨r, h', hq _ _ q, x⟩
theorem mx_SM.mono {y : mxY} {d : Nat} {As : List Value} {h : mxH} {Q Q' : mxRes → mxH → Prop} (k : mx_SM y d As h Q) (hq : ∀ r h', Q r h' → Q' r h') : mx_SM y d As h Q' := by
  obtain ⟨r, h', q, x⟩ := k
  exact ⟨r, h', hq _ _ q, x⟩
