/-! TEXTS: String.length and String.charAt of the claim's texts (the first rows PRINTED by wip/whole/genstr.py) -/
abbrev mY_J0_length_8abf5 : mxY := (yJ0_length_8abf5, cJ0_length_8abf5, 1, (some (.int)), [])
theorem mx_y_J0_length_8abf5 : mx_YV mY_J0_length_8abf5 0 := ⟨(mx_im mx_t7 205 rfl rfl), (mx_im mx_t7 206 rfl rfl), (mx_im mx_t1 15 rfl rfl), (mx_im mx_t7 207 rfl rfl), ⟨by decide +kernel, by decide +kernel, by decide +kernel⟩, by decide +kernel, rfl⟩
abbrev mY_J0_charAt_5068e : mxY := (yJ0_charAt_5068e, cJ0_charAt_5068e, 2, (some (.char)), [])
theorem mx_y_J0_charAt_5068e : mx_YV mY_J0_charAt_5068e 1 := ⟨(mx_im mx_t7 215 rfl rfl), (mx_im mx_t7 216 rfl rfl), (mx_im mx_t1 15 rfl rfl), (mx_im mx_t7 217 rfl rfl), ⟨by decide +kernel, by decide +kernel, by decide +kernel⟩, by decide +kernel, rfl⟩
abbrev mY_J0_coder_7d493 : mxY := (yJ0_coder_7d493, cJ0_coder_7d493, 1, (some (.byte)), [])
theorem mx_y_J0_coder_7d493 : mx_YV mY_J0_coder_7d493 0 := ⟨(mx_im mx_t7 209 rfl rfl), (mx_im mx_t7 210 rfl rfl), (mx_im mx_t1 15 rfl rfl), (mx_im mx_t7 211 rfl rfl), ⟨by decide +kernel, by decide +kernel, by decide +kernel⟩, by decide +kernel, rfl⟩
abbrev mY_J0_isLatin1_aae02 : mxY := (yJ0_isLatin1_aae02, cJ0_isLatin1_aae02, 1, (some (.boolean)), [])
theorem mx_y_J0_isLatin1_aae02 : mx_YV mY_J0_isLatin1_aae02 0 := ⟨(mx_im mx_t7 219 rfl rfl), (mx_im mx_t7 220 rfl rfl), (mx_im mx_t1 15 rfl rfl), (mx_im mx_t7 221 rfl rfl), ⟨by decide +kernel, by decide +kernel, by decide +kernel⟩, by decide +kernel, rfl⟩
abbrev mY_J0_checkIndex_df160 : mxY := (yJ0_checkIndex_df160, cJ0_checkIndex_df160, 2, none, [])
theorem mx_y_J0_checkIndex_df160 : mx_YS mY_J0_checkIndex_df160 2 := ⟨(mx_im mx_t7 226 rfl rfl), (mx_im mx_t1 15 rfl rfl), (mx_im mx_t7 227 rfl rfl), ⟨by decide +kernel, by decide +kernel, by decide +kernel⟩, by decide +kernel⟩
abbrev mY_J1_charAt_3b067 : mxY := (yJ1_charAt_3b067, cJ1_charAt_3b067, 2, (some (.char)), [])
theorem mx_y_J1_charAt_3b067 : mx_YS mY_J1_charAt_3b067 2 := ⟨(mx_im mx_t7 223 rfl rfl), (mx_im mx_t1 16 rfl rfl), (mx_im mx_t7 224 rfl rfl), ⟨by decide +kernel, by decide +kernel, by decide +kernel⟩, by decide +kernel⟩
abbrev mY_J3_checkIndex_8e157 : mxY := (yJ3_checkIndex_8e157, cJ3_checkIndex_8e157, 3, (some (.int)), [])
theorem mx_y_J3_checkIndex_8e157 : mx_YS mY_J3_checkIndex_8e157 3 := ⟨(mx_im mx_t7 231 rfl rfl), (mx_im mx_t1 17 rfl rfl), (mx_im mx_t7 232 rfl rfl), ⟨by decide +kernel, by decide +kernel, by decide +kernel⟩, by decide +kernel⟩
theorem mx_fj_38 : Cond.fieldLink RJ0 38 "java/lang/String" "COMPACT_STRINGS" "Z" ∈ mx_tbl := (mx_im mx_t7 212 rfl rfl)
theorem mx_fj_1053 : Cond.fieldLink RJ0 1053 "jdk/internal/util/Preconditions" "SIOOBE_FORMATTER" "Ljava/util/function/BiFunction;" ∈ mx_tbl := (mx_im mx_t7 228 rfl rfl)
theorem mx_fj_9 : Cond.fieldLink RJ0 9 "java/lang/String" "value" "[B" ∈ mx_tbl := (mx_im mx_t11 129 rfl rfl)
theorem mx_fj_15 : Cond.fieldLink RJ0 15 "java/lang/String" "coder" "B" ∈ mx_tbl := (mx_im mx_t11 130 rfl rfl)
section MXT2
variable {y Y : mxY} {d pc index n : Nat} {lv lv' : List (Nat × Value)} {As st st0 : List Value} {h : mxH} {Q : mxRes → mxH → Prop}
theorem mx_i2c {x : Int32} (hd : decode y.2.1 pc = .ok (.i2c, 1)) (k : mx_SX y d (pc + 1) lv (.int (x.toUInt32 % 65536).toInt32 :: st) h Q) : mx_SX y d pc lv (.int x :: st) h Q :=
  mx_pure (fun o1 o2 => ⟨o1, mx_push (v := .int _) trivial (mx_tl o2)⟩) (fun p l e R s m args below meth c H locs cells slots Qf ls ad hC hl k => lv_i2c hC.1 hC.2.1 hd rfl (k ls hl)) k
theorem mx_cTI {P : Int32 → mxH → Prop} {i : Nat} (hi : i < 36) (hl : Cond.methodLink y.1.cls index Y.1 ∈ mx_tbl) (hY : mx_YV Y n) (hcls : Y.1.cls = "java/lang/String") (hn : As.length = n) (hw : (st.map fun v => v.category).sum ≤ 8) (hst : st0 = As.reverse ++ .ref (3 + i) :: st) (hd : decode y.2.1 pc = .ok (.invokevirtual index, 3)) (hdd : 1 ≤ d) (hmL : Y.2.2.1 ≤ 22)
    (M : mx_SM Y (d - 1) (.ref (3 + i) :: As) h (mx_KI P fun _ _ => False)) (kk : ∀ v h1, P v h1 → mx_SX y d (pc + 3) lv (.int v :: st) h1 Q) : mx_SX y d pc lv st0 h Q :=
  mx_callT (P := fun o h1 => ∃ v, o = some (.int v) ∧ P v h1) hi hl hY hcls hn hw hst hd (by omega) hmL (M.mono fun r h1 q => by
    rcases q with ⟨v, q1, q2⟩ | ⟨E, _, q⟩
    · exact ⟨_, q1, v, rfl, q2⟩
    · exact q.elim) (fun o h1 q => by
    obtain ⟨v, rfl, q2⟩ := q
    exact kk v h1 q2)
/-- an exact answer -/
def mx_xct (r : mxRes) (h' : mxH) : mxRes → mxH → Prop := fun r1 h1 => r1 = r ∧ h1 = h'
theorem mx_xctX {r : mxRes} {h' : mxH} (k : mx_SX y d pc lv st h (mx_xct r h')) : mx_X y d pc lv st h r h' := by
  obtain ⟨r1, h1, ⟨rfl, rfl⟩, k⟩ := k; exact k
theorem mx_xKI {r : mxRes} {h' : mxH} {v : Int32} (k : mx_SM Y d As h (mx_xct (.inl (some (.int v))) h')) {P : Int32 → mxH → Prop} {X : String → mxH → Prop} (hp : P v h') : mx_SM Y d As h (mx_KI P X) :=
  k.mono fun r1 h1 q => Or.inl ⟨v, q.1, by rw [q.2]; exact hp⟩
theorem s_J3 {i n : Nat} (hi : i < n) (hn : n < 2 ^ 31) {v : Value} (hv : v = .null ∨ v = .ref 75) : mx_SM mY_J3_checkIndex_8e157 d [.int (nI i), .int (nI n), v] h (mx_xct (.inl (some (.int (nI i)))) h) := by
  have hlt : nI i < nI n := nI_lt hi hn
  rcases hv with rfl | rfl
  all_goals
    refine mx_SM_of (by decide) (Nat.le_of_ble_eq_true rfl) ?_
    refine mx_iload_n (pc := 0) 0 (mx_dd dd_J3_checkIndex_8e157 0 (0, .iload_n 0, 1) rfl) rfl rfl ?_
    refine mx_if_lt (pc := 1) 9 (mx_dd dd_J3_checkIndex_8e157 1 (1, .ifCond .lt 8, 3) rfl) rfl (fun c1 => absurd c1 (nI_pos (by omega))) (fun c1 => ?_)
    refine mx_iload_n (pc := 4) 0 (mx_dd dd_J3_checkIndex_8e157 2 (4, .iload_n 0, 1) rfl) rfl rfl ?_
    refine mx_iload_n (pc := 5) 1 (mx_dd dd_J3_checkIndex_8e157 3 (5, .iload_n 1, 1) rfl) rfl rfl ?_
    refine mx_icmp_lt (pc := 6) 16 (mx_dd dd_J3_checkIndex_8e157 4 (6, .if_icmp .lt 10, 3) rfl) rfl (fun c1 => ?_) (fun c1 => absurd hlt c1)
    refine mx_iload_n (pc := 16) 0 (mx_dd dd_J3_checkIndex_8e157 10 (16, .iload_n 0, 1) rfl) rfl rfl ?_
    exact mx_ireturn (pc := 17) (mx_dd dd_J3_checkIndex_8e157 11 (17, .ireturn, 1) rfl) rfl rfl ⟨rfl, rfl⟩
theorem s_checkIndex (hd : 1 ≤ d) {i n : Nat} (hi : i < n) (hn : n < 2 ^ 31) : mx_SM mY_J0_checkIndex_df160 d [.int (nI i), .int (nI n)] h (mx_xct (.inl none) h) := by
  refine mx_SM_of (by decide) (Nat.le_of_ble_eq_true rfl) ?_
  refine mx_iload_n (pc := 0) 0 (mx_dd dd_J0_checkIndex_df160 0 (0, .iload_n 0, 1) rfl) rfl rfl ?_
  refine mx_iload_n (pc := 1) 1 (mx_dd dd_J0_checkIndex_df160 1 (1, .iload_n 1, 1) rfl) rfl rfl ?_
  have K : ∀ v : Value, v = .null ∨ v = .ref 75 → v.category = 1 → mx_SX mY_J0_checkIndex_df160 d (2 + 3) (lv_args 0 [.int (nI i), .int (nI n)]) [v, .int (nI n), .int (nI i)] h (mx_xct (.inl none) h) := by
    intro v hv hc
    refine mx_cSI (pc := 5) (Y := mY_J3_checkIndex_8e157) (As := [.int (nI i), .int (nI n), v]) mx_ml_J0_1059 mx_y_J3_checkIndex_8e157 rfl rfl (by decide) rfl (mx_dd dd_J0_checkIndex_df160 3 (5, .invokestatic 1059, 3) rfl) hd (by decide) (mx_xKI (P := fun v h1 => v = nI i ∧ h1 = h) (r := .inl none) (s_J3 hi hn hv) ⟨rfl, rfl⟩) (fun v1 h1 q => ?_)
    obtain ⟨rfl, rfl⟩ := q
    refine mx_pop (pc := 8) (mx_dd dd_J0_checkIndex_df160 4 (8, .pop, 1) rfl) rfl ?_
    exact mx_return (pc := 9) (mx_dd dd_J0_checkIndex_df160 5 (9, .return_, 1) rfl) rfl ⟨rfl, rfl⟩
  exact ⟨_, _, ⟨rfl, rfl⟩, mx_xsio mx_fj_1053 (mx_dd dd_J0_checkIndex_df160 2 (2, .getstatic 1053, 3) rfl) (mx_xctX (K _ (Or.inl rfl) rfl)) (mx_xctX (K _ (Or.inr rfl) rfl))⟩
def mx_chr (i j : Nat) : Int32 := (mx_sbyt.getD i []).getD j 0
theorem mx_chr_ok : ∀ i, i < 36 → ∀ j, j < mx_slen.getD i 0 → ((mx_chr i j &&& 255).toUInt32 % 65536).toInt32 = mx_chr i j := by decide +kernel
theorem mx_slen_lt : ∀ i, i < 36 → mx_slen.getD i 0 < 26 := by decide
theorem s_latin {i j : Nat} (hd : 2 ≤ d) (hi : i < 36) (hj : j < mx_slen.getD i 0) : mx_SM mY_J1_charAt_3b067 d [.ref (39 + i), .int (nI j)] h (mx_xct (.inl (some (.int (mx_chr i j)))) h) := by
  have hl := mx_slen_lt i hi
  refine mx_SM_of (by decide) (Nat.le_of_ble_eq_true rfl) ?_
  refine mx_iload_n (pc := 0) 1 (mx_dd dd_J1_charAt_3b067 0 (0, .iload_n 1, 1) rfl) rfl rfl ?_
  refine mx_aload_n (pc := 1) 0 (mx_dd dd_J1_charAt_3b067 1 (1, .aload_n 0, 1) rfl) rfl rfl ?_
  refine mx_xlenS (pc := 2) hi (mx_dd dd_J1_charAt_3b067 2 (2, .arraylength, 1) rfl) ?_
  refine mx_callS (pc := 3) (Y := mY_J0_checkIndex_df160) (d1 := d - 1) (As := [.int (nI j), .int (nI (mx_slen.getD i 0))]) mx_ml_J1_9 mx_y_J0_checkIndex_df160 rfl rfl (by decide) rfl (mx_dd dd_J1_charAt_3b067 3 (3, .invokestatic 9, 3) rfl) (by omega) (by decide) (s_checkIndex (by omega) hj (by omega)) (fun v1 h1 q => ?_) (fun E h1 q => by cases q.1)
  obtain ⟨q1, rfl⟩ := q
  cases q1
  refine mx_aload_n (pc := 6) 0 (mx_dd dd_J1_charAt_3b067 4 (6, .aload_n 0, 1) rfl) rfl rfl ?_
  refine mx_iload_n (pc := 7) 1 (mx_dd dd_J1_charAt_3b067 5 (7, .iload_n 1, 1) rfl) rfl rfl ?_
  refine mx_xbaldS (pc := 8) hi (vp_in_nI hj (by omega)) (mx_dd dd_J1_charAt_3b067 6 (8, .baload, 1) rfl) ?_
  rw [nI_clamp (by omega)]
  refine mx_sipush (pc := 9) (v := (255 : Int32)) (mx_dd dd_J1_charAt_3b067 7 (9, .sipush 255, 3) rfl) (by decide) ?_
  refine mx_iand (pc := 12) (mx_dd dd_J1_charAt_3b067 8 (12, .iand, 1) rfl) ?_
  refine mx_i2c (pc := 13) (mx_dd dd_J1_charAt_3b067 9 (13, .i2c, 1) rfl) ?_
  refine mx_sameI (mx_chr_ok i hi j hj) ?_
  refine mx_ireturn (pc := 14) (mx_dd dd_J1_charAt_3b067 10 (14, .ireturn, 1) rfl) rfl ?_ ⟨rfl, rfl⟩
  have hc : ∀ i, i < 36 → ∀ j, j < mx_slen.getD i 0 → ∃ k, k < 128 ∧ mx_chr i j = nI k := by
    have : ∀ i, i < 36 → ∀ j, j < mx_slen.getD i 0 → (mx_chr i j).toNatClampNeg < 128 ∧ mx_chr i j = nI (mx_chr i j).toNatClampNeg := by decide +kernel
    exact fun i hi j hj => ⟨_, (this i hi j hj).1, (this i hi j hj).2⟩
  obtain ⟨k, k1, k2⟩ := hc i hi j hj
  rw [k2]
  exact (pk_charN (by omega)).1
theorem s_isLatin1 {i : Nat} (hi : i < 36) : mx_SM mY_J0_isLatin1_aae02 d [.ref (3 + i)] h (mx_xct (.inl (some (.int 1))) h) := by
  refine mx_SM_of (by decide) (Nat.le_of_ble_eq_true rfl) ?_
  refine mx_xcomp (pc := 0) mx_fj_38 (mx_dd dd_J0_isLatin1_aae02 0 (0, .getstatic 38, 3) rfl) ?_
  refine mx_if_eq (pc := 3) 17 (mx_dd dd_J0_isLatin1_aae02 1 (3, .ifCond .eq 14, 3) rfl) rfl (fun c1 => absurd c1 (by decide)) (fun c1 => ?_)
  refine mx_aload_n (pc := 6) 0 (mx_dd dd_J0_isLatin1_aae02 2 (6, .aload_n 0, 1) rfl) rfl rfl ?_
  refine mx_xcoder (pc := 7) hi mx_fj_15 (mx_dd dd_J0_isLatin1_aae02 3 (7, .getfield 15, 3) rfl) ?_
  refine mx_if_ne (pc := 10) 17 (mx_dd dd_J0_isLatin1_aae02 4 (10, .ifCond .ne 7, 3) rfl) rfl (fun c1 => absurd rfl c1) (fun c1 => ?_)
  refine mx_iconst (pc := 13) (v := (1 : Int32)) (mx_dd dd_J0_isLatin1_aae02 5 (13, .iconst 1, 1) rfl) (by decide) ?_
  refine mx_goto (pc := 14) 18 (mx_dd dd_J0_isLatin1_aae02 6 (14, .goto 4, 3) rfl) rfl ?_
  exact mx_ireturn (pc := 18) (mx_dd dd_J0_isLatin1_aae02 8 (18, .ireturn, 1) rfl) rfl rfl ⟨rfl, rfl⟩
theorem s_coder {i : Nat} (hi : i < 36) : mx_SM mY_J0_coder_7d493 d [.ref (3 + i)] h (mx_xct (.inl (some (.int 0))) h) := by
  refine mx_SM_of (by decide) (Nat.le_of_ble_eq_true rfl) ?_
  refine mx_xcomp (pc := 0) mx_fj_38 (mx_dd dd_J0_coder_7d493 0 (0, .getstatic 38, 3) rfl) ?_
  refine mx_if_eq (pc := 3) 13 (mx_dd dd_J0_coder_7d493 1 (3, .ifCond .eq 10, 3) rfl) rfl (fun c1 => absurd c1 (by decide)) (fun c1 => ?_)
  refine mx_aload_n (pc := 6) 0 (mx_dd dd_J0_coder_7d493 2 (6, .aload_n 0, 1) rfl) rfl rfl ?_
  refine mx_xcoder (pc := 7) hi mx_fj_15 (mx_dd dd_J0_coder_7d493 3 (7, .getfield 15, 3) rfl) ?_
  refine mx_goto (pc := 10) 14 (mx_dd dd_J0_coder_7d493 4 (10, .goto 4, 3) rfl) rfl ?_
  exact mx_ireturn (pc := 14) (mx_dd dd_J0_coder_7d493 6 (14, .ireturn, 1) rfl) rfl rfl ⟨rfl, rfl⟩
/-- String.length of a text -/
theorem s_length {i : Nat} (hd : 1 ≤ d) (hi : i < 36) : mx_SM mY_J0_length_8abf5 d [.ref (3 + i)] h (mx_xct (.inl (some (.int (nI (mx_slen.getD i 0))))) h) := by
  have hl := mx_slen_lt i hi
  refine mx_SM_of (by decide) (Nat.le_of_ble_eq_true rfl) ?_
  refine mx_aload_n (pc := 0) 0 (mx_dd dd_J0_length_8abf5 0 (0, .aload_n 0, 1) rfl) rfl rfl ?_
  refine mx_xval (pc := 1) hi mx_fj_9 (mx_dd dd_J0_length_8abf5 1 (1, .getfield 9, 3) rfl) ?_
  refine mx_xlenS (pc := 4) hi (mx_dd dd_J0_length_8abf5 2 (4, .arraylength, 1) rfl) ?_
  refine mx_aload_n (pc := 5) 0 (mx_dd dd_J0_length_8abf5 3 (5, .aload_n 0, 1) rfl) rfl rfl ?_
  refine mx_cTI (pc := 6) (Y := mY_J0_coder_7d493) (As := []) (st := [.int (nI (mx_slen.getD i 0))]) hi mx_ml_J0_335 mx_y_J0_coder_7d493 rfl rfl (by simp [Value.category]) rfl (mx_dd dd_J0_length_8abf5 4 (6, .invokevirtual 335, 3) rfl) hd (by decide) (mx_xKI (P := fun v h1 => v = 0 ∧ h1 = h) (r := .inl none) (s_coder hi) ⟨rfl, rfl⟩) (fun v1 h1 q => ?_)
  obtain ⟨rfl, rfl⟩ := q
  refine mx_ishr (pc := 9) (mx_dd dd_J0_length_8abf5 5 (9, .ishr, 1) rfl) ?_
  refine mx_sameI (sc_shr0 (by omega)) ?_
  exact mx_ireturn (pc := 10) (mx_dd dd_J0_length_8abf5 6 (10, .ireturn, 1) rfl) rfl rfl ⟨rfl, rfl⟩
/-- String.charAt of a text -/
theorem s_charAt {i j : Nat} (hd : 3 ≤ d) (hi : i < 36) (hj : j < mx_slen.getD i 0) : mx_SM mY_J0_charAt_5068e d [.ref (3 + i), .int (nI j)] h (mx_xct (.inl (some (.int (mx_chr i j)))) h) := by
  refine mx_SM_of (by decide) (Nat.le_of_ble_eq_true rfl) ?_
  refine mx_aload_n (pc := 0) 0 (mx_dd dd_J0_charAt_5068e 0 (0, .aload_n 0, 1) rfl) rfl rfl ?_
  refine mx_cTI (pc := 1) (Y := mY_J0_isLatin1_aae02) (As := []) (st := []) hi mx_ml_J0_492 mx_y_J0_isLatin1_aae02 rfl rfl (by decide) rfl (mx_dd dd_J0_charAt_5068e 1 (1, .invokevirtual 492, 3) rfl) (by omega) (by decide) (mx_xKI (P := fun v h1 => v = 1 ∧ h1 = h) (r := .inl none) (s_isLatin1 hi) ⟨rfl, rfl⟩) (fun v1 h1 q => ?_)
  obtain ⟨q1, q2⟩ := q
  rw [q1, q2]
  refine mx_if_eq (pc := 4) 16 (mx_dd dd_J0_charAt_5068e 2 (4, .ifCond .eq 12, 3) rfl) rfl (fun c1 => absurd c1 (by decide)) (fun c1 => ?_)
  refine mx_aload_n (pc := 7) 0 (mx_dd dd_J0_charAt_5068e 3 (7, .aload_n 0, 1) rfl) rfl rfl ?_
  refine mx_xval (pc := 8) hi mx_fj_9 (mx_dd dd_J0_charAt_5068e 4 (8, .getfield 9, 3) rfl) ?_
  refine mx_iload_n (pc := 11) 1 (mx_dd dd_J0_charAt_5068e 5 (11, .iload_n 1, 1) rfl) rfl rfl ?_
  refine mx_cSI (pc := 12) (Y := mY_J1_charAt_3b067) (As := [.ref (39 + i), .int (nI j)]) mx_ml_J0_495 mx_y_J1_charAt_3b067 rfl rfl (by decide) rfl (mx_dd dd_J0_charAt_5068e 6 (12, .invokestatic 495, 3) rfl) (by omega) (by decide) (mx_xKI (P := fun v h1 => v = mx_chr i j ∧ h1 = h) (r := .inl none) (s_latin (by omega) hi hj) ⟨rfl, rfl⟩) (fun v1 h1 q => ?_)
  obtain ⟨q1, q2⟩ := q
  rw [q1, q2]
  refine mx_ireturn (pc := 15) (mx_dd dd_J0_charAt_5068e 7 (15, .ireturn, 1) rfl) rfl ?_ ⟨rfl, rfl⟩
  have := mx_chr_ok i hi j hj
  have hc : ∀ i, i < 36 → ∀ j, j < mx_slen.getD i 0 → ∃ k, k < 128 ∧ mx_chr i j = nI k := by
    have : ∀ i, i < 36 → ∀ j, j < mx_slen.getD i 0 → (mx_chr i j).toNatClampNeg < 128 ∧ mx_chr i j = nI (mx_chr i j).toNatClampNeg := by decide +kernel
    exact fun i hi j hj => ⟨_, (this i hi j hj).1, (this i hi j hj).2⟩
  obtain ⟨k, k1, k2⟩ := hc i hi j hj
  rw [k2]
  exact (pk_charN (by omega)).1
end MXT2
