/-! THE BRIDGE (p1): what holds at the law's entry is a heap of numbers; the claim out of the law's run -/
section MXN6
section BR
variable {args : Array Value} {s : State}
theorem brg_inst : ∀ c, c < 13 → Cond.instantiable (mx_RX c) (mx_nf c) ∈ mx_tbl := mx_13 mx_nw_X11_23.2.2.1 mx_nw_X4_19.2.2.1 mx_nw_X4_32.2.2.1 mx_nw_X11_16.2.2.1 mx_nw_X11_48.2.2.1 mx_nw_X0_32.2.2.1 mx_nw_X11_39.2.2.1 mx_nw_X11_57.2.2.1 mx_nw_X4_59.2.2.1 mx_nw_X8_9.2.2.1 mx_nw_X11_26.2.2.1 mx_nw_L_8.2.2.1 mx_nw_L_47.2.2.1
theorem brg_cls (hm : ∀ w ∈ mx_tbl, w.before args s = true) : ∃ D : va_G, ∀ (c : Nat) (q : vw_C), vwCl[c]? = some q → u_Kn s q.1 q.2.1 q.2.2 (D.1 c) (D.2 c) := by
  have h0 : ∀ c : Nat, ∃ p : ClassId × (Nat → Nat), c < 13 → u_Kn s (mx_RX c) (mx_TX c) (mx_nf c) p.1 p.2 := by
    intro c
    by_cases hc : c < 13
    · obtain ⟨cC, iS, h⟩ := u_known (T := mx_TX c) hm (mx_inall c hc) (hm _ (brg_inst c hc))
      exact ⟨(cC, iS), fun _ => h⟩
    · exact ⟨(0, fun _ => 0), fun h => absurd h hc⟩
  obtain ⟨p, hp⟩ := Classical.axiomOfChoice h0
  refine ⟨(fun c => (p c).1, fun c => (p c).2), fun c q hq => ?_⟩
  have hc : c < 13 := (List.getElem?_eq_some_iff.mp hq).1
  have e : (mx_RX c, mx_TX c, mx_nf c) = q := Option.some.inj ((mx_cl c hc).symm.trans hq)
  rw [← e]
  exact hp c hc
theorem brg_ao_17 : Cond.arrayOver (.object "ShellCore$Handles") ∈ lw_tbl := by decide +kernel
theorem brg_ao_18 : Cond.arrayOver (.object "ShellCore$OpenFile") ∈ lw_tbl := by decide +kernel
theorem brg_ao_19 : Cond.arrayOver (.object "ShellCore$Shell") ∈ lw_tbl := by decide +kernel
theorem brg_ao_20 : Cond.arrayOver (.object "ShellCore$World") ∈ lw_tbl := by decide +kernel
theorem brg_prim {ty : FieldType} (hne : ∀ C, ty ≠ .object C) (h : (Cond.arrayClass ty).before args s = true) : ∃ c : ClassId, ArrOfT s c ty ∧ va_RA s c ty := by
  obtain ⟨c, k, comp, h1, h2, h3⟩ := Cond.arrayClass_spec h
  refine ⟨c, fun n z => ⟨(fun k h => by cases h), k, h2, comp, h3⟩, ?_⟩
  cases ty with
  | object C => exact absurd rfl (hne C)
  | _ => exact h1
theorem brg_obj {C : String} (h : (Cond.arrayOver (.object C)).before args s = true) : ∃ c : ClassId, ArrOfT s c (.object C) ∧ va_RA s c (.object C) := by
  obtain ⟨comp, c, k, h1, h2, h3, h4, h5⟩ := Cond.arrayOver_spec h
  exact ⟨c, fun n z => ⟨(fun k h => by cases h), k, h3, comp, h4⟩, k, comp, h3, h4, h1, h5⟩
theorem brg_arr (hts : ∀ w ∈ lw_tbl, w.before args s = true) (hm : ∀ w ∈ mx_tbl, w.before args s = true) : ∃ cA : Nat → ClassId, ∀ (k : Nat) (q : ClassId × FieldType), (mx_tys cA)[k]? = some q → ArrOfT s q.1 q.2 ∧ va_RA s q.1 q.2 := by
  obtain ⟨c13, a13⟩ := brg_prim (ty := .byte) (fun C h => by cases h) (hm _ mx_ac_13)
  obtain ⟨c14, a14⟩ := brg_prim (ty := .int) (fun C h => by cases h) (hm _ mx_ac_14)
  obtain ⟨c15, a15⟩ := brg_prim (ty := .long) (fun C h => by cases h) (hm _ mx_ac_15)
  obtain ⟨c16, a16⟩ := brg_prim (ty := .boolean) (fun C h => by cases h) (hm _ mx_ac_16)
  obtain ⟨c17, a17⟩ := brg_obj (hts _ brg_ao_17)
  obtain ⟨c18, a18⟩ := brg_obj (hts _ brg_ao_18)
  obtain ⟨c19, a19⟩ := brg_obj (hts _ brg_ao_19)
  obtain ⟨c20, a20⟩ := brg_obj (hts _ brg_ao_20)
  refine ⟨fun k => match k with
    | 13 => c13
    | 14 => c14
    | 15 => c15
    | 16 => c16
    | 17 => c17
    | 18 => c18
    | 19 => c19
    | _ => c20, fun k q hq => ?_⟩
  match k, hq with
  | 0, hq => cases hq; exact a13
  | 1, hq => cases hq; exact a14
  | 2, hq => cases hq; exact a15
  | 3, hq => cases hq; exact a16
  | 4, hq => cases hq; exact a17
  | 5, hq => cases hq; exact a18
  | 6, hq => cases hq; exact a19
  | 7, hq => cases hq; exact a20
  | k + 8, hq => simp [mx_tys] at hq
/-- words by their places -/
theorem brg_sl {l ws : List Cond} (a n : Nat) (h : (l.drop a).take n = ws) : ∀ w ∈ ws, w ∈ l := fun w hw => by
  rw [← h] at hw
  exact List.mem_of_mem_drop (List.mem_of_mem_take hw)
abbrev brg_gv : Cond := Cond.and given_1 narrow_1
abbrev brg_NL : List Int64 := [1038484, 11312755, 257683, 918640, 4164, 286309, 1037755, 26216, 286474, 33798580, 1166741, 229]
abbrev brg_SL : List Int64 := [11745, 12859, 1020584, 286474]
abbrev brg_cm : String := "ShellCore$Commands"
def bw_L (C n : String) (xs : List Int64) : List Cond := [.arrayOf (.static C n "[J") .long, .eq (.length (.static C n "[J")) (.int (Int32.ofNat xs.length))] ++ (List.range xs.length).map (fun j => .eq (.elem (.static C n "[J") (.int (Int32.ofNat j))) (.long (xs.getD j 0)))
theorem brg_fN : ((flatC brg_gv).drop 14).take 14 = bw_L brg_cm "NAMES" brg_NL := by decide +kernel
theorem brg_fM : ((flatC brg_gv).drop 5).take 6 = bw_L brg_cm "SIGNAL_NAMES" brg_SL := by decide +kernel
theorem brg_L {C n : String} {xs : List Int64} {A : Nat → Prop} (hw : ∀ w ∈ bw_L C n xs, w.before args s = true) (hl : (Cond.laysStatic C n "[J").before args s = true) (hi : (Cond.initialized C).before args s = true) (hn : xs.length < 2 ^ 31) (hA : ∀ a : Nat, a < s.heap.size → ¬ A a) :
    ∃ t : Nat, (va_Z C n "[J" (.ref t) A s s.heap ∧ va_T .long t xs.length (fun j => .long (xs.getD j 0)) A s s.heap) ∧ t < s.heap.size := by
  obtain ⟨t, ht, hT⟩ := va_Tof (tm := .static C n "[J") (ty := .long) (N := xs.length) (f := fun j => .long (xs.getD j 0)) (A := A) hn
    (hw (.arrayOf (.static C n "[J") .long) (List.mem_append_left _ List.mem_cons_self))
    (va_eqt (hw (.eq (.length (.static C n "[J")) (.int (Int32.ofNat xs.length))) (List.mem_append_left _ (List.mem_cons_of_mem _ List.mem_cons_self))))
    (fun j hj => va_eqtl (hw (.eq (.elem (.static C n "[J") (.int (Int32.ofNat j))) (.long (xs.getD j 0))) (List.mem_append_right _ (List.mem_map.mpr ⟨j, List.mem_range.mpr hj, rfl⟩)))) hA
  have hz : t < s.heap.size := by
    obtain ⟨cell, hc, -⟩ := hT
    exact (Array.getElem?_eq_some_iff.mp hc).1
  exact ⟨t, ⟨va_Zof hl hi ht hA, hT⟩, hz⟩
/-! the texts -/
abbrev bs_t (i : Nat) : Term := .string (mx_strs.getD i ("", 0, "")).1 (mx_strs.getD i ("", 0, "")).2.1
abbrev bs_v (i : Nat) : Term := .field (bs_t i) "java/lang/String" "value" "[B"
def bs_ws (i : Nat) : List Cond := [.exactly (bs_t i) "java/lang/String", .eq (.field (bs_t i) "java/lang/String" "coder" "B") (.int 0), .arrayOf (bs_v i) .byte, .eq (.length (bs_v i)) (.int (Int32.ofNat (mx_slen.getD i 0)))] ++
  (List.range (mx_slen.getD i 0)).map (fun j => .eq (.elem (bs_v i) (.int (Int32.ofNat j))) (.int ((mx_sbyt.getD i []).getD j 0)))
theorem brg_fS : ((flatC brg_gv).drop 146).take 384 = (List.range 36).flatMap bs_ws := by decide +kernel
theorem brg_len : ∀ i, i < 36 → mx_slen.getD i 0 < 2 ^ 31 := by decide +kernel
theorem brg_dis : ∀ i, i < 36 → ∀ j, j < 36 → mx_slen.getD i 0 = mx_slen.getD j 0 → (∀ k, k < mx_slen.getD i 0 → (mx_sbyt.getD i []).getD k 0 = (mx_sbyt.getD j []).getD k 0) → i = j := by decide +kernel
theorem brg_sr : ∀ q ∈ mx_strs, Cond.stringRef q.1 q.2.1 q.2.2 ∈ lw_tbl := by decide +kernel
theorem brg_o32 {a b : Nat} (ha : a < 2 ^ 31) (hb : b < 2 ^ 31) (h : Int32.ofNat a = Int32.ofNat b) : a = b := by
  have e := congrArg Int32.toNatClampNeg h
  rw [Int32.toNatClampNeg_ofNat_of_lt ha, Int32.toNatClampNeg_ofNat_of_lt hb] at e
  exact e
theorem brg_str {A : Nat → Prop} (hw : ∀ w ∈ (List.range 36).flatMap bs_ws, w.before args s = true) (hA : ∀ a : Nat, a < s.heap.size → ¬ A a) :
    ∃ adK adV : Nat → Nat, vk_S 36 mx_slen mx_sbyt adK adV A s s.heap ∧ (∀ i, i < 36 → (bs_t i).eval args s none [] s = some (.ref (adK i))) ∧ ∀ i, i < 36 → adK i < s.heap.size ∧ adV i < s.heap.size := by
  have hW : ∀ i, i < 36 → ∀ w ∈ bs_ws i, w.before args s = true := fun i hi w h => hw w (List.mem_flatMap.mpr ⟨i, List.mem_range.mpr hi, h⟩)
  have h0 : ∀ i : Nat, ∃ q : Nat × Nat, i < 36 → (bs_t i).eval args s none [] s = some (.ref q.1) ∧ va_O "java/lang/String" q.1 A s s.heap ∧ va_OF "java/lang/String" "coder" "B" (.int 0) q.1 A s s.heap ∧ va_OF "java/lang/String" "value" "[B" (.ref q.2) q.1 A s s.heap ∧ va_T .byte q.2 (mx_slen.getD i 0) (fun j => .int ((mx_sbyt.getD i []).getD j 0)) A s s.heap := by
    intro i
    by_cases hi : i < 36
    · have w0 : (Cond.exactly (bs_t i) "java/lang/String").before args s = true := hW i hi _ (List.mem_append_left _ List.mem_cons_self)
      have w1 : (Cond.eq (.field (bs_t i) "java/lang/String" "coder" "B") (.int 0)).before args s = true := hW i hi _ (List.mem_append_left _ (List.mem_cons_of_mem _ List.mem_cons_self))
      have w2 : (Cond.arrayOf (bs_v i) .byte).before args s = true := hW i hi _ (List.mem_append_left _ (List.mem_cons_of_mem _ (List.mem_cons_of_mem _ List.mem_cons_self)))
      have w3 : (Cond.eq (.length (bs_v i)) (.int (Int32.ofNat (mx_slen.getD i 0)))).before args s = true := hW i hi _ (List.mem_append_left _ (List.mem_cons_of_mem _ (List.mem_cons_of_mem _ (List.mem_cons_of_mem _ List.mem_cons_self))))
      have w4 : ∀ j, j < mx_slen.getD i 0 → (Cond.eq (.elem (bs_v i) (.int (Int32.ofNat j))) (.int ((mx_sbyt.getD i []).getD j 0))).before args s = true := fun j hj => hW i hi _ (List.mem_append_right _ (List.mem_map.mpr ⟨j, List.mem_range.mpr hj, rfl⟩))
      obtain ⟨a, c, cA, kA, q1, q2, q3, q4, q5, q6, -⟩ := Cond.exactly_spec (args := args) (first := s) (o := none) (s := s) (idx := []) (t := bs_t i) (cls := "java/lang/String") w0
      obtain ⟨t, ht, hT⟩ := va_Tof (f := fun j => .int ((mx_sbyt.getD i []).getD j 0)) (A := A) (brg_len i hi) w2 (va_eqt w3) (fun j hj => va_eqt (w4 j hj)) hA
      exact ⟨(a, t), fun _ => ⟨q1, ⟨cA, q3, q5, by rw [q6]; exact q2, hA a (Array.getElem?_eq_some_iff.mp q3).1⟩, vk_OFof q1 (va_eqt w1) hA, vk_OFof q1 ht hA, hT⟩⟩
    · exact ⟨(0, 0), fun h => absurd h hi⟩
  obtain ⟨ad, had⟩ := Classical.axiomOfChoice h0
  refine ⟨fun i => (ad i).1, fun i => (ad i).2, ⟨fun i hi => (had i hi).2, fun i j hi hj e => ?_⟩, fun i hi => (had i hi).1, fun i hi => ?_⟩
  · have e : (ad i).1 = (ad j).1 := e
    obtain ⟨-, -, -, f, t⟩ := had i hi
    obtain ⟨-, -, -, g, u⟩ := had j hj
    obtain ⟨cf, k, fi, fd, cell, f1, f2, f3, f4, f5, f6⟩ := f
    obtain ⟨cf', k', fi', fd', cell', g1, g2, g3, g4, g5, g6⟩ := g
    rw [← e] at g3
    have ec : cell = cell' := Option.some.inj (f3.symm.trans g3)
    have ef := Option.some.inj (f1.symm.trans g1)
    have ef : fd = fd' := congrArg (fun z => z.2.2.2) ef
    subst ec
    subst ef
    have e2 : (ad i).2 = (ad j).2 := Value.ref.inj (Option.some.inj (f5.symm.trans g5))
    obtain ⟨c1, t1, t2, t3, t4, t5, t6, t7⟩ := t
    obtain ⟨c2, u1, u2, u3, u4, u5, u6, u7⟩ := u
    rw [← e2] at u1
    have ec : c1 = c2 := Option.some.inj (t1.symm.trans u1)
    subst ec
    have el : mx_slen.getD i 0 = mx_slen.getD j 0 := brg_o32 (brg_len i hi) (brg_len j hj) (t5.symm.trans u5)
    exact brg_dis i hi j hj el (fun k hk => Value.int.inj (Option.some.inj ((t6 k hk).symm.trans (u6 k (by rw [← el]; exact hk)))))
  · obtain ⟨-, ⟨c1, o1, -⟩, -, -, c2, o2, -⟩ := had i hi
    exact ⟨(Array.getElem?_eq_some_iff.mp o1).1, (Array.getElem?_eq_some_iff.mp o2).1⟩
/-! the addresses and what lies outside -/
theorem brg_x {B b tN tS q : Nat} {adK adV : Nat → Nat} (hb : b < B) (hN : tN < B) (hS : tS < B) (hK : ∀ i, i < 36 → adK i < B ∧ adV i < B) :
    ∃ x0 : Nat → Nat, x0 0 = b ∧ x0 1 = tN ∧ x0 2 = tS ∧ (∀ i, i < 36 → x0 (3 + i) = adK i) ∧ (∀ i, i < 36 → x0 (39 + i) = adV i) ∧ x0 75 = q ∧ ∀ a, a < 128 → a ≠ 75 → x0 a < B := by
  refine ⟨fun a => if a = 0 then b else if a = 1 then tN else if a = 2 then tS else if a < 39 then adK (a - 3) else if a < 75 then adV (a - 39) else if a = 75 then q else b, rfl, rfl, rfl, fun i hi => ?_, fun i hi => ?_, rfl, fun a ha h75 => ?_⟩
  · show (if 3 + i = 0 then b else if 3 + i = 1 then tN else if 3 + i = 2 then tS else if 3 + i < 39 then adK (3 + i - 3) else if 3 + i < 75 then adV (3 + i - 39) else if 3 + i = 75 then q else b) = adK i
    rw [if_neg (by omega), if_neg (by omega), if_neg (by omega), if_pos (by omega), Nat.add_sub_cancel_left]
  · show (if 39 + i = 0 then b else if 39 + i = 1 then tN else if 39 + i = 2 then tS else if 39 + i < 39 then adK (39 + i - 3) else if 39 + i < 75 then adV (39 + i - 39) else if 39 + i = 75 then q else b) = adV i
    rw [if_neg (by omega), if_neg (by omega), if_neg (by omega), if_neg (by omega), if_pos (by omega), Nat.add_sub_cancel_left]
  · show (if a = 0 then b else if a = 1 then tN else if a = 2 then tS else if a < 39 then adK (a - 3) else if a < 75 then adV (a - 39) else if a = 75 then q else b) < B
    by_cases h0 : a = 0
    · rw [if_pos h0]; exact hb
    rw [if_neg h0]
    by_cases h1 : a = 1
    · rw [if_pos h1]; exact hN
    rw [if_neg h1]
    by_cases h2 : a = 2
    · rw [if_pos h2]; exact hS
    rw [if_neg h2]
    by_cases h3 : a < 39
    · rw [if_pos h3]; exact (hK _ (by omega)).1
    rw [if_neg h3]
    by_cases h4 : a < 75
    · rw [if_pos h4]; exact (hK _ (by omega)).2
    rw [if_neg h4, if_neg h75]
    exact hb
theorem brg_c (L : Nat) (xs : Nat → Int32) : ∃ xc : mxXc, xc.1 0 = L ∧ xc.1 1 = 12 ∧ xc.1 2 = 4 ∧ xc.2.1 0 = xs ∧ xc.2.2 1 = (fun j => brg_NL.getD j 0) ∧ xc.2.2 2 = (fun j => brg_SL.getD j 0) ∧ ∀ i, i < 36 → xc.1 (39 + i) = mx_slen.getD i 0 ∧ ∀ j, xc.2.1 (39 + i) j = (mx_sbyt.getD i []).getD j 0 := by
  refine ⟨(fun a => if a = 0 then L else if a = 1 then 12 else if a = 2 then 4 else mx_slen.getD (a - 39) 0, fun a => if a = 0 then xs else fun j => (mx_sbyt.getD (a - 39) []).getD j 0, fun a => if a = 1 then fun j => brg_NL.getD j 0 else fun j => brg_SL.getD j 0), rfl, rfl, rfl, rfl, rfl, rfl, fun i hi => ⟨?_, fun j => ?_⟩⟩
  · show (if 39 + i = 0 then L else if 39 + i = 1 then 12 else if 39 + i = 2 then 4 else mx_slen.getD (39 + i - 39) 0) = _
    rw [if_neg (by omega), if_neg (by omega), if_neg (by omega), Nat.add_sub_cancel_left]
  · show (if 39 + i = 0 then xs else fun j => (mx_sbyt.getD (39 + i - 39) []).getD j 0) j = _
    rw [if_neg (by omega), Nat.add_sub_cancel_left]
abbrev brg_g (xc : mxXc) : mxH := (0, 0, 0, fun _ => 21, xc.1, xc.2.1, xc.2.2, fun _ _ => none)
theorem brg_Rep {D : va_G} {cA : Nat → ClassId} {base : Nat} {x0 : Nat → Nat} {xc : mxXc} {H : Heap} (hlt : ∀ a, a < 128 → a ≠ 75 → x0 a < base) : mx_Rep D cA base x0 xc x0 (mkH (brg_g xc) 0 0 0 pZ) H := by
  refine ⟨Nat.le_refl _, fun a ha => ⟨rfl, hpK_mkLo ha, hpZ_mkLo ha, hpI_mkLo ha, hpL_mkLo ha, hlt a ha⟩, fun a h1 h2 => ?_, fun a b h1 h2 => ?_, fun a k b h1 h2 => ?_⟩
  · exfalso
    have h2 : a < 128 + 0 := h2
    omega
  · exfalso
    have h2 : a < 128 + 0 := h2
    omega
  · have h1 : a < 128 + 0 := h1
    have e : hpR (mkH (brg_g xc) 0 0 0 pZ) a = hpR (brg_g xc) a := hmF_lo (hpR (brg_g xc)) (fun q => q.2.2.2.2) (by omega)
    rw [e] at h2
    have h2 : (none : Option Nat) = some b := h2
    cases h2
theorem brg_w1 : Cond.laysStatic brg_cm "NAMES" "[J" ∈ lw_tbl := by decide +kernel
theorem brg_w2 : Cond.laysStatic brg_cm "SIGNAL_NAMES" "[J" ∈ lw_tbl := by decide +kernel
theorem brg_w3 : Cond.initialized brg_cm ∈ lw_tbl := by decide +kernel
theorem brg_w4 : Cond.laysStatic Bundle.tN "UNASSIGNED_STACK" Bundle.steD ∈ lw_tbl := by decide +kernel
theorem brg_w5 : Cond.laysStatic Bundle.tN "SUPPRESSED_SENTINEL" Bundle.listD ∈ lw_tbl := by decide +kernel
theorem brg_w6 : Cond.initialized Bundle.tN ∈ lw_tbl := by decide +kernel
theorem brg_w7 : Cond.laysStatic "java/lang/String" "COMPACT_STRINGS" "Z" ∈ lw_tbl := by decide +kernel
theorem brg_w8 : Cond.initialized "java/lang/String" ∈ lw_tbl := by decide +kernel
theorem brg_w9 : Cond.laysStatic "jdk/internal/util/Preconditions" "SIOOBE_FORMATTER" "Ljava/util/function/BiFunction;" ∈ lw_tbl := by decide +kernel
theorem brg_w10 : Cond.initialized "jdk/internal/util/Preconditions" ∈ lw_tbl := by decide +kernel
theorem brg_v4 : Cond.isRef (.static Bundle.tN "UNASSIGNED_STACK" Bundle.steD) ∈ flatC brg_gv := by decide +kernel
theorem brg_v5 : Cond.isRef (.static Bundle.tN "SUPPRESSED_SENTINEL" Bundle.listD) ∈ flatC brg_gv := by decide +kernel
theorem brg_v7 : Cond.eq (.static "java/lang/String" "COMPACT_STRINGS" "Z") (.int 1) ∈ flatC brg_gv := by decide +kernel
theorem brg_v9 : Cond.isRef (.static "jdk/internal/util/Preconditions" "SIOOBE_FORMATTER" "Ljava/util/function/BiFunction;") ∈ flatC brg_gv := by decide +kernel
theorem brg_vN : Cond.not (.castable "java/lang/IllegalArgumentException" "java/lang/IndexOutOfBoundsException") ∈ flatC brg_gv := by decide +kernel
/-- all that the runs ask of the world -/
theorem brg_G {b L : Nat} {xs : Nat → Int32} (hts : ∀ w ∈ lw_tbl, w.before args s = true) (hgv : brg_gv.before args s = true) (hX : va_X b L xs s s.heap) (hbl : b < s.heap.size) :
    ∃ (D : va_G) (cA : Nat → ClassId) (x0 : Nat → Nat) (xc : mxXc), mx_G D cA s.heap.size x0 xc s s.heap ∧ x0 0 = b ∧ xc.1 0 = L ∧ xc.1 2 = 4 ∧ xc.2.2 2 = (fun j => brg_SL.getD j 0) ∧ ∀ a, a < 128 → a ≠ 75 → x0 a < s.heap.size := by
  have hm : ∀ w ∈ mx_tbl, w.before args s = true := fun w hw => hts w (List.mem_filter.mp hw).1
  have hq : ∀ w ∈ flatC brg_gv, w.before args s = true := flat_of_before _ hgv
  have hA : ∀ a : Nat, a < s.heap.size → ¬ mx_A s.heap.size a := fun a h => Nat.not_le.mpr h
  obtain ⟨D, hD⟩ := brg_cls hm
  obtain ⟨cA, hC⟩ := brg_arr hts hm
  obtain ⟨tN, hN, lN⟩ := brg_L (A := mx_A s.heap.size) (fun w hw => hq w (brg_sl 14 14 brg_fN w hw)) (hts _ brg_w1) (hts _ brg_w3) (by decide) hA
  obtain ⟨tS, hS, lS⟩ := brg_L (A := mx_A s.heap.size) (fun w hw => hq w (brg_sl 5 6 brg_fM w hw)) (hts _ brg_w2) (hts _ brg_w3) (by decide) hA
  obtain ⟨adK, adV, hK, hev, lK⟩ := brg_str (A := mx_A s.heap.size) (fun w hw => hq w (brg_sl 146 384 brg_fS w hw)) hA
  obtain ⟨q, hF⟩ : ∃ q : Nat, va_Z "jdk/internal/util/Preconditions" "SIOOBE_FORMATTER" "Ljava/util/function/BiFunction;" .null (mx_A s.heap.size) s s.heap ∨ va_Z "jdk/internal/util/Preconditions" "SIOOBE_FORMATTER" "Ljava/util/function/BiFunction;" (.ref q) (mx_A s.heap.size) s s.heap := by
    rcases va_Zqof (A := mx_A s.heap.size) (hts _ brg_w9) (hts _ brg_w10) (hq _ brg_v9) hA with h | ⟨t, h⟩
    · exact ⟨0, Or.inl h⟩
    · exact ⟨t, Or.inr h⟩
  have hU := vx_Zqof (A := mx_A s.heap.size) (hts _ brg_w4) (hts _ brg_w6) (hq _ brg_v4) hA
  have hP := vx_Zqof (A := mx_A s.heap.size) (hts _ brg_w5) (hts _ brg_w6) (hq _ brg_v5) hA
  have hCS := va_Zof (A := mx_A s.heap.size) (hts _ brg_w7) (hts _ brg_w8) (va_eqt (hq _ brg_v7)) hA
  obtain ⟨x0, e0, e1, e2, e3, e4, e5, hlt⟩ := brg_x (q := q) hbl lN lS lK
  obtain ⟨xc, z0, z1, z2, i0, l1, l2, zs⟩ := brg_c L xs
  refine ⟨D, cA, x0, xc, ⟨⟨hD, hC⟩, Nat.le_refl _, ⟨?_, ?_, ?_, ⟨hU, hP⟩, ?_, hCS, ?_, fun i hi => ⟨(zs i hi).1, fun j _ => (zs i hi).2 j⟩⟩, fun w hw hk => ?_, ⟨va_AO.of (hts _ brg_ao_17), va_AO.of (hts _ brg_ao_18), va_AO.of (hts _ brg_ao_19), va_AO.of (hts _ brg_ao_20)⟩, fun i q hi => ?_, va_Nc.of (hq _ brg_vN)⟩, e0, z0, z2, l2, hlt⟩
  · rw [e0, z0, i0]
    obtain ⟨scr, hcb, hof, hkn, hsz, hval⟩ := hX
    exact ⟨scr, hcb, hof, hkn, Nat.le_of_eq hsz.symm, by rw [hsz], hval, hA b hbl⟩
  · rw [e1, z1, l1]
    exact hN
  · rw [e2, z2, l2]
    exact hS
  · refine ⟨fun i hi => ?_, fun i j hi hj e => hK.2 i j hi hj ?_⟩
    · show va_O "java/lang/String" (x0 (3 + i)) (mx_A s.heap.size) s s.heap ∧ va_OF "java/lang/String" "coder" "B" (.int 0) (x0 (3 + i)) (mx_A s.heap.size) s s.heap ∧ va_OF "java/lang/String" "value" "[B" (.ref (x0 (39 + i))) (x0 (3 + i)) (mx_A s.heap.size) s s.heap ∧ va_T .byte (x0 (39 + i)) (mx_slen.getD i 0) (fun j => .int ((mx_sbyt.getD i []).getD j 0)) (mx_A s.heap.size) s s.heap
      rw [e3 i hi, e4 i hi]
      exact hK.1 i hi
    · have e : x0 (3 + i) = x0 (3 + j) := e
      rw [e3 i hi, e3 j hj] at e
      exact e
  · rw [e5]
    exact hF
  · have h1 : w.onTables = true := by
      unfold mx_softk at hk
      rw [Bool.and_eq_true] at hk
      exact hk.1
    exact va_Nw.of h1 (hts w hw)
  · have hi36 : i < 36 := (List.getElem?_eq_some_iff.mp hi).1
    have e : mx_strs.getD i ("", 0, "") = q := by rw [List.getD_eq_getElem?_getD, hi]; rfl
    rw [e3 i hi36]
    have h2 := hev i hi36
    have h2 : (Term.string (mx_strs.getD i ("", 0, "")).1 (mx_strs.getD i ("", 0, "")).2.1).eval args s none [] s = some (.ref (adK i)) := h2
    rw [e] at h2
    exact vk_R.of (hts _ (brg_sr q (List.mem_of_getElem? hi))) h2
end BR
def R_law : String := "ShellCoreLaw"
def lw_P (b : Addr) (xs : List Int32) (args : Array Value) (s : State) : Prop := args = #[.ref b] ∧ s.IntsAt b xs ∧ xs.length ≤ 6 ∧ (Jvm.Cond.and given_1 narrow_1).before args s = true
def lw_Q (_ : Array Value) (s : State) (o : Outcome) (t : State) : Prop := o = .returned (some (.int 1)) ∧ Framed s o t [] 600002 7302231
def lw_Z (below : List Frame) (a : Array Value) (s : State) : State → Prop := fun t => ∃ o, t.status = .running ∧ Ended t below o ∧ lw_Q a s o t
/-- the law's own end, with 1 on the stack, nothing written that was there before, its room as the claim has it -/
theorem lw_ret {p : Program} {l : Launch} {e : Env} {s : State} {m : MethodId} {below : List Frame} {meth : Method} {c : Code} {b : Nat} (hx : p.tables.exec = Jvm.exec) (hb : c.code = code) (hr : meth.sig.returnType = ret) (hlocks : meth.locks = false) {pc : Nat} {H : Heap} {ls : Array Slot} (hdg : decode code pc = .ok (.ireturn, 1)) : W p l e room_1 s m #[Value.ref b] below meth c H [] 600002 7302231 (lw_Z below #[Value.ref b] s) (F0 m pc ls [.int 1]) := by
  intro T hT X
  obtain ⟨fs, hret, hrun, hended, hW, hframe⟩ := X.leave (v := some (.int 1)) (hlocks := hlocks) (fun h => by rw [hr] at h; cases h)
  have hmeth' : T.vm.method? m = some meth := X.method'
  refine ⟨T.setFrames fs, ?_, .returned (some (.int 1)), hrun, hended, rfl, ⟨_, rfl⟩, hW, hframe⟩
  jvm_step X.here [X.here.top, hx, hb, hdg, hmeth', hr, ret, narrow_b1]
  (try refine ⟨rfl, ?_⟩); (try refine ⟨rfl, ?_⟩)
  first | (intro acts; rw [hret _ acts rfl rfl rfl]) | rw [hret _ _ rfl rfl rfl]
  exact Steps.refl _
/-- what holds at the law's entry -/
def lw_At (p : Program) (s : State) (m : MethodId) (meth : Method) (c : Code) (b L : Nat) (xs : Nat → Int32) : Prop :=
  p.tables.exec = Jvm.exec ∧ c.code = code ∧ meth.sig.returnType = ret ∧ c.maxLocals = 8 ∧ s.vm.findClass R_law = some m.cls ∧ (∀ w ∈ lw_tbl, w.before #[Value.ref b] s = true) ∧ va_X b L xs s s.heap ∧ b < s.heap.size ∧ meth.locks = false ∧ (Jvm.Cond.and given_1 narrow_1).before #[Value.ref b] s = true
theorem brg_flags : flags0.contains noTraceFlag = true := by decide +kernel
set_option maxHeartbeats 4000000 in
/-- from the entry, for every script of at most 6 ints, the law comes to its end with true -/
theorem whole_start {p : Program} {e : Env} {s : State} {m : MethodId} {below : List Frame} {meth : Method} {c : Code} (l : Launch) (hflags : l.flags = flags0) {b L : Nat} {xs : Nat → Int32} (hL : L ≤ 6) (C0 : lw_At p s m meth c b L xs) (hnm : meth.name = x.name) (htab : c.exceptionTable.toList = tableOf []) : W p l e room_1 s m #[Value.ref b] below meth c s.heap [] 0 0 (lw_Z below #[Value.ref b] s) (entryFrame m ([Value.ref b] : List Value).toArray 8) := by
  obtain ⟨hx, hb, hr, hml, hown, hts, hX, hbl, hlocks, hgv⟩ := C0
  obtain ⟨D, cA, x0, xc, hG, e0, z0, z2, l2, hlt⟩ := brg_G hts hgv hX hbl
  have hst : l.stackTraces = false := by
    show (!l.flags.contains noTraceFlag) = false
    rw [hflags, brg_flags]
    rfl
  have hC : mx_C mY_L_law 2048 p l room_1 s m #[Value.ref b] meth c := ⟨hx, hb, hr, hml, hown, fun w hw => hts w (List.mem_filter.mp hw).1, hlocks, hnm, Nat.le_refl _, Nat.le_of_ble_eq_true rfl, hst, htab⟩
  have hle := lv_entry ([.ref b] : List Value) (n := 8) (Nat.le_of_ble_eq_true rfl)
  rw [lg_entry_eq]
  generalize (lg_sl ([.ref b] : List Value) ++ List.replicate (8 - (lg_sl ([.ref b] : List Value)).length) Slot.unset).toArray = ls at hle ⊢
  have hle : lv_has ls 8 [(0, .ref (x0 0))] := by rw [e0]; exact hle
  have hs : SGg (brg_g xc) := ⟨z2, congrFun l2 0, congrFun l2 1, congrFun l2 2, congrFun l2 3⟩
  obtain ⟨r, h', ⟨q1, q2, q3⟩, X1, X2, X3⟩ := l_law (g := brg_g xc) (L := L) (fun _ _ => rfl) hs z0 hL
  subst q1
  refine X3 p l e room_1 s m #[Value.ref b] below meth c D cA s.heap.size x0 xc hC hG s.heap [] 0 0 ls x0 (brg_Rep hlt) va_S.rf hle (fun q hq => ?_) (fun v hv => by cases hv) ?_ ?_ (lw_Z below #[Value.ref b] s) ⟨fun v hv H' locs' pc' ls' ad' hx' hR' hS' hret => ?_, fun E hv => by cases hv⟩
  · rw [List.mem_singleton.mp hq]
    exact (Nat.succ_pos 127 : (0 : Nat) < 128)
  · show 0 + (hpC h' - 0) ≤ 600002
    omega
  · show 0 + (hpS h' - 0) ≤ 7302231
    omega
  · cases hv
    refine va_forget (fun q hq => hS'.2.2 q hq) ?_
    refine W.widen (k := 600002) (n := 7302231) ?_ ?_ ?_
    · show 0 + (hpC h' - 0) ≤ 600002
      omega
    · show 0 + (hpS h' - 0) ≤ 7302231
      omega
    · obtain ⟨hd, -⟩ := hret
      exact lw_ret hx hb hr hlocks hd
set_option maxHeartbeats 4000000 in
theorem lw_walk (l : Launch) (hflags : l.flags = flags0) (b : Addr) (xs : List Int32) : MetFree l x (headSpec (Jvm.Cond.code x code maxLocals ret :: tables_1) room_1) (lw_P b xs) (fun _ _ _ _ _ => True) lw_Q := by
  refine MetFree.of_bodyS (code := code) (maxLocals := maxLocals) (ret := ret) (by decide) ?_ ?_
  · intro args s m h hn
    obtain ⟨meth, c, h1, h2, h3, h4, h5, h6, -, -⟩ := Cond.code_spec hn (atoms_spec (ws := Jvm.Cond.code x code maxLocals ret :: tables_1) h _ List.mem_cons_self)
    exact ⟨meth, c, h1, h2, h3, h4, h5, h6⟩
  · intro p e s m args below meth c s₁ B hml0 hP _
    obtain ⟨rfl, hx, hbd, hgv⟩ := hP
    obtain ⟨scr, harrAt, hlist, hof, hsmall⟩ := hx
    obtain ⟨hcb, hkn, -, -⟩ := State.arrayAt?_spec harrAt
    have hown : s.vm.findClass R_law = some m.cls := findClass_of_methodNamed B.named
    have hts0 : ∀ c ∈ (Jvm.Cond.code x code maxLocals ret :: tables_1), c.before #[Value.ref b] s = true := atoms_spec (ws := Jvm.Cond.code x code maxLocals ret :: tables_1) B.pre
    have hts : ∀ w ∈ lw_tbl, w.before #[Value.ref b] s = true := k2_hts_sels lw_privs (fun w hw => hts0 w (List.mem_cons_of_mem _ hw)) lw_privs_ok
    have hml : c.maxLocals = 8 := B.maxLocals_eq (hts0 _ List.mem_cons_self)
    have X₀ : Stand p l e room_1 s m #[Value.ref b] below meth c s₁ [] 0 0 := Stand.of_body B
    have hnm : meth.name = x.name := (name_of_methodNamed B.named B.method).1
    have htab : c.exceptionTable.toList = tableOf [] := by
      obtain ⟨meth9, c9, h1, h2, -, -, -, -, h7, -⟩ := Cond.code_spec B.named (hts0 _ List.mem_cons_self)
      cases Option.some.inj (h1.symm.trans B.method)
      cases Option.some.inj (h2.symm.trans X₀.code)
      rw [Array.isEmpty_iff.mp h7]
      rfl
    have hh0 : s₁.heap = s.heap := by rw [B.state]; rfl
    have hsz : scr.slots.size = xs.length := by rw [← Array.length_toList, hlist, List.length_map]
    have hval : ∀ j : Nat, j < xs.length → scr.slots[j]? = some (.int (xs.getD j 0)) := fun j hj => by
      rw [← Array.getElem?_toList, hlist]
      simp [hj]
    have hbl : b < s.heap.size := (Array.getElem?_eq_some_iff.mp hcb).1
    have hX : va_X b xs.length (fun j => xs.getD j 0) s s.heap := ⟨scr, hcb, hof, hkn, hsz, hval⟩
    have K : W p l e room_1 s m #[Value.ref b] below meth c s₁.heap [] 0 0 (lw_Z below #[Value.ref b] s) (entryFrame m ([Value.ref b] : List Value).toArray 8) := by
      rw [hh0]
      exact whole_start l hflags hbd ⟨B.exec, B.bytes, B.returns, hml, hown, hts, hX, hbl, B.notSynchronized, hgv⟩ hnm htab
    obtain ⟨t, a1, o, b1, b2, b3⟩ := K s₁ rfl X₀
    exact ⟨t, o, a1, b1, b2, b3⟩
theorem lw_pre_spec {args : Array Value} {s : State} (h : (Jvm.Cond.and given_1 narrow_1).before args s = true) (hr : rest_1_c.before args s = true) : ∃ (b : Addr) (xs : List Int32), lw_P b xs args s := by
  have hs := flat_of_before _ h
  have hq := flat_of_before _ hr
  have hc : (Cond.count 1).before args s = true := hs _ (by decide +kernel)
  have harr : (Cond.arrayOf (.arg 0) .int).before args s = true := hs _ (by decide +kernel)
  have hle : (Cond.le (.length (.arg 0)) (.int 6)).before args s = true := hs _ (by decide +kernel)
  have hlen : (Cond.isInt (.length (.arg 0))).before args s = true := hq _ (by decide +kernel)
  have hall : (Cond.all (.arg 0) (.isInt (.elem (.arg 0) (.index 0)))).before args s = true := hq _ (by decide +kernel)
  obtain ⟨b, xs, hb, hx⟩ := State.ints_of_pre rfl harr hlen hall
  have hsm : xs.length < 2 ^ 31 := hx.choose_spec.2.2.2
  have hev : (Term.length (.arg 0)).eval args s none [] s = some (.int xs.length.toInt32) := hx.length_eval hb
  have hv := Cond.le_ints hev (show (Term.int 6).eval args s none [] s = some (.int 6) from rfl)
  have hd : xs.length.toInt32 ≤ 6 := by
    simpa [Cond.before, Cond.holds, hv] using hle
  have hN : xs.length ≤ 6 := (Int32.ofNat_le_ofNat hsm (by decide)).mp (show Int32.ofNat xs.length ≤ Int32.ofNat 6 from hd)
  exact ⟨b, xs, Cond.one_arg hc (show args[0]? = some (.ref b) from hb), hx, hN, h⟩
theorem lw_comes (l : Launch) (hflags : l.flags = flags0) : Comes l x (Jvm.Cond.code x code maxLocals ret :: tables_1) room_1 (fun tb e args s => Calls_1 tb e args s ∧ rest_1 tb e args s ∧ Pre_1 tb e args s)
    (fun _ _ args s o t => lw_Q args s o t) := by
  intro p e ha hc hk s m args below hf hfit hheap happ hpre
  obtain ⟨b, xs, hP⟩ := lw_pre_spec hpre.2.2 hpre.2.1
  obtain ⟨k, o, h1, h2, h3, hQ⟩ := lw_walk l hflags b xs p e ha hc hk s m args below hf ((Spec.applies_iff_loose hf).mp happ).1 hP trivial
  exact ⟨k, o, h1, h2, h3, hQ⟩
theorem lw_frame {s t : State} {o : Outcome} {args : Array Value} (h : Framed s o t [] 600002 7302231) :
    Framed s o t (fieldLocs frame_1_writes args s ++ arrayLocs frame_1_arrays args s ++ staticLocs frame_1_statics s) 600002 7302231 := h
theorem lw_limb (L : Cond) (hL : ∀ (args : Array Value) (s t : State), L.after args s (.returned (some (.int 1))) t = true) :
    ArmFor flags0 classFile x code maxLocals ret World_1 tables_1 room_1 Calls_1 rest_1 Pre_1
      (fun tb e a s o t => postC L tb e a s o t ∧ Framed s o t (fieldLocs frame_1_writes a s ++ arrayLocs frame_1_arrays a s ++ staticLocs frame_1_statics s) 600002 7302231) := by
  intro l hflags _ _ p e ha hc hk s m args below hf hfit hheap happ hpre
  obtain ⟨k, o, h1, h2, h3, rfl, hF⟩ := lw_comes l hflags p e ha hc hk s m args below hf hfit hheap happ hpre
  exact ⟨k, _, h1, h2, h3, hL args s _, lw_frame hF⟩
theorem i_vc : Claimed_1_1 ∧ Claimed_1_2 := ⟨lw_limb limb_1_1 (fun args s t => by simp [limb_1_1, Cond.after, Cond.holds, Cond.value]), lw_limb limb_1_2 (fun args s t => Cond.after_iff.mpr (by
  first | (rw [show limb_1_2 = Cond.eq .result (.int 1) from rfl, Cond.eq_ints (x := 1) (y := 1) rfl rfl]; simp; done) | (simp [limb_1_2, Cond.value, Term.eval]; done)))⟩
end MXN6
