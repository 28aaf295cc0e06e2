/-! PRINTED by wip/whole/genblocks.py: the blocks of the methods of X6 -/
theorem b_X6_init {d : Nat} {h : mxH} {Q : mxRes → mxH → Prop} (x0 : Nat) (x1 : Nat)
    (P : 1 ≤ d ∧ hpK h x0 = 6 ∧ ∀ h1 : mxH, h1 = hsR h x0 0 (some x1) → ∀ h2 : mxH, h2 = hsI h1 x0 8 (-1 : Int32) → Q (.inl none) h2) : mx_SM mY_X6_init d [.ref x0, .ref x1] h Q := by
  refine mx_SM_of (by decide) (Nat.le_of_ble_eq_true rfl) ?_
  show mx_SX mY_X6_init d 0 [(0, .ref x0), (1, .ref x1)] [] h Q
  refine mx_aload_n (pc := 0) 0 (mx_dd dd_X6_init 0 (0, .aload_n 0, 1) rfl) rfl rfl ?_
  obtain ⟨g1, P⟩ := P
  refine mx_objInit (pc := 1) mx_oi_X6_3 mx_oii mx_oic (by decide) (mx_dd dd_X6_init 1 (1, .invokespecial 3, 3) rfl) g1 ?_
  refine mx_aload_n (pc := 4) 0 (mx_dd dd_X6_init 2 (4, .aload_n 0, 1) rfl) rfl rfl ?_
  refine mx_aload_n (pc := 5) 1 (mx_dd dd_X6_init 3 (5, .aload_n 1, 1) rfl) rfl rfl ?_
  obtain ⟨g2, P⟩ := P
  refine mx_putR (pc := 6) mx_fl_X6_9 g2 rfl (.inr ⟨rfl, rfl, rfl⟩) (mx_dd dd_X6_init 4 (6, .putfield 9, 3) rfl) ?_
  have P := P _ rfl
  refine mx_aload_n (pc := 9) 0 (mx_dd dd_X6_init 5 (9, .aload_n 0, 1) rfl) rfl rfl ?_
  refine mx_iconst (pc := 10) (v := (-1 : Int32)) (mx_dd dd_X6_init 6 (10, .iconst (-1), 1) rfl) (by decide) ?_
  refine mx_putI (pc := 11) mx_fl_X6_15 g2 rfl (.inl rfl) rfl rfl (mx_dd dd_X6_init 7 (11, .putfield 15, 3) rfl) ?_
  have P := P _ rfl
  exact mx_return (pc := 14) (mx_dd dd_X6_init 8 (14, .return_, 1) rfl) rfl P
theorem b_X6_parse {d : Nat} {h : mxH} {Q : mxRes → mxH → Prop} (x0 : Nat) (x1 : Int32) (x2 : Nat)
    (P : hpK h x0 = 6 ∧ ∃ b1 : Nat, hpR h x0 0 = some b1 ∧ hpK h b1 = 13 ∧ 1 ≤ d ∧ ∀ h1 : mxH, h1 = hsI h x0 1 (if (nI (hpZ h b1)) < x1 then (nI (hpZ h b1)) else x1) → ∀ h2 : mxH, h2 = hsR h1 x0 2 (some x2) → ∀ h3 : mxH, h3 = hsI h2 x0 7 (0 : Int32) → ∀ h4 : mxH, h4 = hsI h3 x0 8 (-1 : Int32) → ∀ h5 : mxH, h5 = hsI h4 x0 5 (0 : Int32) → hpK h5 x2 = 7 ∧ mx_SM mY_X7_makeEmpty (d - 1) [.ref x2] h5 (mx_KV (fun h6 => hpK h6 x0 = 6 ∧ mx_SM mY_X6_advance (d - 1) [.ref x0] h6 (mx_KV (fun h7 => hpK h7 x0 = 6 ∧ mx_SM mY_X6_script (d - 1) [.ref x0, .int (0 : Int32)] h7 (mx_KI (fun v1 h8 => hpK h8 x0 = 6 ∧ mx_SM mY_X6_expect (d - 1) [.ref x0, .int (0 : Int32)] h8 (mx_KV (fun h9 => hpK h9 x2 = 7 ∧ mx_SM mY_X7_emit (d - 1) [.ref x2, .int (21 : Int32)] h9 (mx_KI (fun v2 h10 => Q (.inl (some (.int v1))) h10) (mx_XX mY_X6_parse Q))) (mx_XX mY_X6_parse Q))) (mx_XX mY_X6_parse Q))) (mx_XX mY_X6_parse Q))) (mx_XX mY_X6_parse Q))) : mx_SM mY_X6_parse d [.ref x0, .int x1, .ref x2] h Q := by
  refine mx_SM_of (by decide) (Nat.le_of_ble_eq_true rfl) ?_
  show mx_SX mY_X6_parse d 0 [(0, .ref x0), (1, .int x1), (2, .ref x2)] [] h Q
  refine mx_aload_n (pc := 0) 0 (mx_dd dd_X6_parse 0 (0, .aload_n 0, 1) rfl) rfl rfl ?_
  refine mx_iload_n (pc := 1) 1 (mx_dd dd_X6_parse 1 (1, .iload_n 1, 1) rfl) rfl rfl ?_
  refine mx_aload_n (pc := 2) 0 (mx_dd dd_X6_parse 2 (2, .aload_n 0, 1) rfl) rfl rfl ?_
  obtain ⟨g1, P⟩ := P
  obtain ⟨b1, g2, P⟩ := P
  refine mx_getR (pc := 3) mx_fl_X6_9 g1 rfl g2 (mx_dd dd_X6_parse 3 (3, .getfield 9, 3) rfl) ?_
  obtain ⟨g3, P⟩ := P
  refine mx_alen (pc := 6) g3 (by decide) (mx_dd dd_X6_parse 4 (6, .arraylength, 1) rfl) ?_
  obtain ⟨g4, P⟩ := P
  refine mx_min (pc := 7) mx_mm_X6_19 mx_mmins mx_mini mx_mminc (by simp [Value.category]) (mx_dd dd_X6_parse 5 (7, .invokestatic 19, 3) rfl) g4 ?_
  refine mx_putI (pc := 10) mx_fl_X6_25 g1 rfl (.inl rfl) rfl rfl (mx_dd dd_X6_parse 6 (10, .putfield 25, 3) rfl) ?_
  have P := P _ rfl
  refine mx_aload_n (pc := 13) 0 (mx_dd dd_X6_parse 7 (13, .aload_n 0, 1) rfl) rfl rfl ?_
  refine mx_aload_n (pc := 14) 2 (mx_dd dd_X6_parse 8 (14, .aload_n 2, 1) rfl) rfl rfl ?_
  refine mx_putR (pc := 15) mx_fl_X6_28 g1 rfl (.inl rfl) (mx_dd dd_X6_parse 9 (15, .putfield 28, 3) rfl) ?_
  have P := P _ rfl
  refine mx_aload_n (pc := 18) 0 (mx_dd dd_X6_parse 10 (18, .aload_n 0, 1) rfl) rfl rfl ?_
  refine mx_iconst (pc := 19) (v := (0 : Int32)) (mx_dd dd_X6_parse 11 (19, .iconst 0, 1) rfl) (by decide) ?_
  refine mx_putI (pc := 20) mx_fl_X6_32 g1 rfl (.inl rfl) rfl rfl (mx_dd dd_X6_parse 12 (20, .putfield 32, 3) rfl) ?_
  have P := P _ rfl
  refine mx_aload_n (pc := 23) 0 (mx_dd dd_X6_parse 13 (23, .aload_n 0, 1) rfl) rfl rfl ?_
  refine mx_iconst (pc := 24) (v := (-1 : Int32)) (mx_dd dd_X6_parse 14 (24, .iconst (-1), 1) rfl) (by decide) ?_
  refine mx_putI (pc := 25) mx_fl_X6_15 g1 rfl (.inl rfl) rfl rfl (mx_dd dd_X6_parse 15 (25, .putfield 15, 3) rfl) ?_
  have P := P _ rfl
  refine mx_aload_n (pc := 28) 0 (mx_dd dd_X6_parse 16 (28, .aload_n 0, 1) rfl) rfl rfl ?_
  refine mx_iconst (pc := 29) (v := (0 : Int32)) (mx_dd dd_X6_parse 17 (29, .iconst 0, 1) rfl) (by decide) ?_
  refine mx_putI (pc := 30) mx_fl_X6_35 g1 rfl (.inl rfl) rfl rfl (mx_dd dd_X6_parse 18 (30, .putfield 35, 3) rfl) ?_
  have P := P _ rfl
  refine mx_aload_n (pc := 33) 2 (mx_dd dd_X6_parse 19 (33, .aload_n 2, 1) rfl) rfl rfl ?_
  obtain ⟨g5, P⟩ := P
  refine mx_cVV (pc := 34) (Y := mY_X7_makeEmpty) (As := []) mx_ml_X6_38 mx_y_X7_makeEmpty rfl g5 (by decide) rfl (by decide) rfl (mx_dd dd_X6_parse 20 (34, .invokevirtual 38, 3) rfl) g4 (by decide) P (fun h6 P => ?_)
  refine mx_aload_n (pc := 37) 0 (mx_dd dd_X6_parse 21 (37, .aload_n 0, 1) rfl) rfl rfl ?_
  obtain ⟨g6, P⟩ := P
  refine mx_cVV (pc := 38) (Y := mY_X6_advance) (As := []) mx_ml_X6_43 mx_y_X6_advance rfl g6 (by decide) rfl (by decide) rfl (mx_dd dd_X6_parse 22 (38, .invokevirtual 43, 3) rfl) g4 (by decide) P (fun h7 P => ?_)
  refine mx_aload_n (pc := 41) 0 (mx_dd dd_X6_parse 23 (41, .aload_n 0, 1) rfl) rfl rfl ?_
  refine mx_iconst (pc := 42) (v := (0 : Int32)) (mx_dd dd_X6_parse 24 (42, .iconst 0, 1) rfl) (by decide) ?_
  obtain ⟨g7, P⟩ := P
  refine mx_cVI (pc := 43) (Y := mY_X6_script) (As := [.int (0 : Int32)]) mx_ml_X6_46 mx_y_X6_script rfl g7 (by decide) rfl (by decide) rfl (mx_dd dd_X6_parse 25 (43, .invokevirtual 46, 3) rfl) g4 (by decide) P (fun v1 h8 P => ?_)
  refine mx_istore_n (pc := 46) (mx_dd dd_X6_parse 26 (46, .istore_n 3, 1) rfl) rfl (by decide) (lv' := [(3, _), (0, _), (1, _), (2, _)]) rfl ?_
  refine mx_aload_n (pc := 47) 1 (mx_dd dd_X6_parse 27 (47, .aload_n 0, 1) rfl) rfl rfl ?_
  refine mx_iconst (pc := 48) (v := (0 : Int32)) (mx_dd dd_X6_parse 28 (48, .iconst 0, 1) rfl) (by decide) ?_
  obtain ⟨g8, P⟩ := P
  refine mx_cVV (pc := 49) (Y := mY_X6_expect) (As := [.int (0 : Int32)]) mx_ml_X6_50 mx_y_X6_expect rfl g8 (by decide) rfl (by decide) rfl (mx_dd dd_X6_parse 29 (49, .invokevirtual 50, 3) rfl) g4 (by decide) P (fun h9 P => ?_)
  refine mx_aload_n (pc := 52) 3 (mx_dd dd_X6_parse 30 (52, .aload_n 2, 1) rfl) rfl rfl ?_
  refine mx_bipush (pc := 53) (v := (21 : Int32)) (mx_dd dd_X6_parse 31 (53, .bipush 21, 2) rfl) (by decide) ?_
  obtain ⟨g9, P⟩ := P
  refine mx_cVI (pc := 55) (Y := mY_X7_emit) (As := [.int (21 : Int32)]) mx_ml_X6_54 mx_y_X7_emit rfl g9 (by decide) rfl (by decide) rfl (mx_dd dd_X6_parse 32 (55, .invokevirtual 54, 3) rfl) g4 (by decide) P (fun v2 h10 P => ?_)
  refine mx_pop (pc := 58) (mx_dd dd_X6_parse 33 (58, .pop, 1) rfl) rfl ?_
  refine mx_iload_n (pc := 59) 0 (mx_dd dd_X6_parse 34 (59, .iload_n 3, 1) rfl) rfl rfl ?_
  exact mx_ireturn (pc := 60) (mx_dd dd_X6_parse 35 (60, .ireturn, 1) rfl) rfl rfl P
theorem b_X6_fail {d : Nat} {h : mxH} {Q : mxRes → mxH → Prop} (x0 : Nat) (x1 : Int32)
    (P : hpK h x0 = 6 ∧ ∀ h1 : mxH, h1 = hsI h x0 7 x1 → ∀ h2 : mxH, h2 = hsI h1 x0 8 (hpI h1 x0 4) → 12 ≤ d ∧ Q (.inr "java/lang/IllegalArgumentException") (hth h2)) : mx_SM mY_X6_fail d [.ref x0, .int x1] h Q := by
  refine mx_SM_of (by decide) (Nat.le_of_ble_eq_true rfl) ?_
  show mx_SX mY_X6_fail d 0 [(0, .ref x0), (1, .int x1)] [] h Q
  refine mx_aload_n (pc := 0) 0 (mx_dd dd_X6_fail 0 (0, .aload_n 0, 1) rfl) rfl rfl ?_
  refine mx_iload_n (pc := 1) 1 (mx_dd dd_X6_fail 1 (1, .iload_n 1, 1) rfl) rfl rfl ?_
  obtain ⟨g1, P⟩ := P
  refine mx_putI (pc := 2) mx_fl_X6_32 g1 rfl (.inl rfl) rfl rfl (mx_dd dd_X6_fail 2 (2, .putfield 32, 3) rfl) ?_
  have P := P _ rfl
  refine mx_aload_n (pc := 5) 0 (mx_dd dd_X6_fail 3 (5, .aload_n 0, 1) rfl) rfl rfl ?_
  refine mx_aload_n (pc := 6) 0 (mx_dd dd_X6_fail 4 (6, .aload_n 0, 1) rfl) rfl rfl ?_
  refine mx_getI (pc := 7) mx_fl_X6_57 g1 rfl (mx_dd dd_X6_fail 5 (7, .getfield 57, 3) rfl) ?_
  refine mx_putI (pc := 10) mx_fl_X6_15 g1 rfl (.inl rfl) rfl rfl (mx_dd dd_X6_fail 6 (10, .putfield 15, 3) rfl) ?_
  have P := P _ rfl
  obtain ⟨g2, P⟩ := P
  exact mx_th_X6_fail_13 g2 P
theorem b_X6_byteAt {d : Nat} {h : mxH} {Q : mxRes → mxH → Prop} (x0 : Nat) (x1 : Int32)
    (P : ((x1 < 0 → Q (.inl (some (.int (-1 : Int32)))) h) ∧ (¬ x1 < 0 → hpK h x0 = 6 ∧ (((hpI h x0 1) ≤ x1 → Q (.inl (some (.int (-1 : Int32)))) h) ∧ (¬ (hpI h x0 1) ≤ x1 → ∃ b1 : Nat, hpR h x0 0 = some b1 ∧ hpK h b1 = 13 ∧ (((nI (hpZ h b1)) ≤ x1 → Q (.inl (some (.int (-1 : Int32)))) h) ∧ (¬ (nI (hpZ h b1)) ≤ x1 → vp_in x1 (hpZ h b1) ∧ Q (.inl (some (.int ((hpI h b1 x1.toNatClampNeg) &&& (255 : Int32))))) h))))))) : mx_SM mY_X6_byteAt d [.ref x0, .int x1] h Q := by
  refine mx_SM_of (by decide) (Nat.le_of_ble_eq_true rfl) ?_
  show mx_SX mY_X6_byteAt d 0 [(0, .ref x0), (1, .int x1)] [] h Q
  refine mx_iload_n (pc := 0) 1 (mx_dd dd_X6_byteAt 0 (0, .iload_n 1, 1) rfl) rfl rfl ?_
  refine mx_if_lt (pc := 1) 34 (mx_dd dd_X6_byteAt 1 (1, .ifCond .lt 33, 3) rfl) rfl (fun c1 => ?_) (fun c1 => ?_)
  · have P := P.1 c1
    refine mx_iconst (pc := 34) (v := (-1 : Int32)) (mx_dd dd_X6_byteAt 18 (34, .iconst (-1), 1) rfl) (by decide) ?_
    exact mx_ireturn (pc := 35) (mx_dd dd_X6_byteAt 19 (35, .ireturn, 1) rfl) rfl rfl P
  · have P := P.2 c1
    refine mx_iload_n (pc := 4) 1 (mx_dd dd_X6_byteAt 2 (4, .iload_n 1, 1) rfl) rfl rfl ?_
    refine mx_aload_n (pc := 5) 0 (mx_dd dd_X6_byteAt 3 (5, .aload_n 0, 1) rfl) rfl rfl ?_
    obtain ⟨g1, P⟩ := P
    refine mx_getI (pc := 6) mx_fl_X6_25 g1 rfl (mx_dd dd_X6_byteAt 4 (6, .getfield 25, 3) rfl) ?_
    refine mx_icmp_ge (pc := 9) 34 (mx_dd dd_X6_byteAt 5 (9, .if_icmp .ge 25, 3) rfl) rfl (fun c9 => ?_) (fun c9 => ?_)
    · have P := P.1 c9
      refine mx_iconst (pc := 34) (v := (-1 : Int32)) (mx_dd dd_X6_byteAt 18 (34, .iconst (-1), 1) rfl) (by decide) ?_
      exact mx_ireturn (pc := 35) (mx_dd dd_X6_byteAt 19 (35, .ireturn, 1) rfl) rfl rfl P
    · have P := P.2 c9
      refine mx_iload_n (pc := 12) 1 (mx_dd dd_X6_byteAt 6 (12, .iload_n 1, 1) rfl) rfl rfl ?_
      refine mx_aload_n (pc := 13) 0 (mx_dd dd_X6_byteAt 7 (13, .aload_n 0, 1) rfl) rfl rfl ?_
      obtain ⟨b1, g2, P⟩ := P
      refine mx_getR (pc := 14) mx_fl_X6_9 g1 rfl g2 (mx_dd dd_X6_byteAt 8 (14, .getfield 9, 3) rfl) ?_
      obtain ⟨g3, P⟩ := P
      refine mx_alen (pc := 17) g3 (by decide) (mx_dd dd_X6_byteAt 9 (17, .arraylength, 1) rfl) ?_
      refine mx_icmp_ge (pc := 18) 34 (mx_dd dd_X6_byteAt 10 (18, .if_icmp .ge 16, 3) rfl) rfl (fun c18 => ?_) (fun c18 => ?_)
      · have P := P.1 c18
        refine mx_iconst (pc := 34) (v := (-1 : Int32)) (mx_dd dd_X6_byteAt 18 (34, .iconst (-1), 1) rfl) (by decide) ?_
        exact mx_ireturn (pc := 35) (mx_dd dd_X6_byteAt 19 (35, .ireturn, 1) rfl) rfl rfl P
      · have P := P.2 c18
        refine mx_aload_n (pc := 21) 0 (mx_dd dd_X6_byteAt 11 (21, .aload_n 0, 1) rfl) rfl rfl ?_
        refine mx_getR (pc := 22) mx_fl_X6_9 g1 rfl g2 (mx_dd dd_X6_byteAt 12 (22, .getfield 9, 3) rfl) ?_
        refine mx_iload_n (pc := 25) 1 (mx_dd dd_X6_byteAt 13 (25, .iload_n 1, 1) rfl) rfl rfl ?_
        obtain ⟨g4, P⟩ := P
        refine mx_bald (pc := 26) g3 g4 (mx_dd dd_X6_byteAt 14 (26, .baload, 1) rfl) ?_
        refine mx_sipush (pc := 27) (v := (255 : Int32)) (mx_dd dd_X6_byteAt 15 (27, .sipush 255, 3) rfl) (by decide) ?_
        refine mx_iand (pc := 30) (mx_dd dd_X6_byteAt 16 (30, .iand, 1) rfl) ?_
        refine mx_goto (pc := 31) 35 (mx_dd dd_X6_byteAt 17 (31, .goto 4, 3) rfl) rfl ?_
        exact mx_ireturn (pc := 35) (mx_dd dd_X6_byteAt 19 (35, .ireturn, 1) rfl) rfl rfl P
theorem b_X6_isBlank {d : Nat} {h : mxH} {Q : mxRes → mxH → Prop} (x0 : Int32)
    (P : ((x0 = (32 : Int32) → mx_SX mY_X6_isBlank d 18 [] [] h Q) ∧ (¬ x0 = (32 : Int32) → ((x0 = (9 : Int32) → mx_SX mY_X6_isBlank d 18 [] [] h Q) ∧ (¬ x0 = (9 : Int32) → ((¬ x0 = (10 : Int32) → Q (.inl (some (.int (0 : Int32)))) h) ∧ (x0 = (10 : Int32) → mx_SX mY_X6_isBlank d 18 [] [] h Q))))))) : mx_SM mY_X6_isBlank d [.int x0] h Q := by
  refine mx_SM_of (by decide) (Nat.le_of_ble_eq_true rfl) ?_
  show mx_SX mY_X6_isBlank d 0 [(0, .int x0)] [] h Q
  refine mx_iload_n (pc := 0) 0 (mx_dd dd_X6_isBlank 0 (0, .iload_n 0, 1) rfl) rfl rfl ?_
  refine mx_bipush (pc := 1) (v := (32 : Int32)) (mx_dd dd_X6_isBlank 1 (1, .bipush 32, 2) rfl) (by decide) ?_
  refine mx_icmp_eq (pc := 3) 18 (mx_dd dd_X6_isBlank 2 (3, .if_icmp .eq 15, 3) rfl) rfl (fun c3 => ?_) (fun c3 => ?_)
  · have P := P.1 c3
    refine mx_sel [] rfl ?_
    exact P
  · have P := P.2 c3
    refine mx_iload_n (pc := 6) 0 (mx_dd dd_X6_isBlank 3 (6, .iload_n 0, 1) rfl) rfl rfl ?_
    refine mx_bipush (pc := 7) (v := (9 : Int32)) (mx_dd dd_X6_isBlank 4 (7, .bipush 9, 2) rfl) (by decide) ?_
    refine mx_icmp_eq (pc := 9) 18 (mx_dd dd_X6_isBlank 5 (9, .if_icmp .eq 9, 3) rfl) rfl (fun c9 => ?_) (fun c9 => ?_)
    · have P := P.1 c9
      refine mx_sel [] rfl ?_
      exact P
    · have P := P.2 c9
      refine mx_iload_n (pc := 12) 0 (mx_dd dd_X6_isBlank 6 (12, .iload_n 0, 1) rfl) rfl rfl ?_
      refine mx_bipush (pc := 13) (v := (10 : Int32)) (mx_dd dd_X6_isBlank 7 (13, .bipush 10, 2) rfl) (by decide) ?_
      refine mx_icmp_ne (pc := 15) 22 (mx_dd dd_X6_isBlank 8 (15, .if_icmp .ne 7, 3) rfl) rfl (fun c15 => ?_) (fun c15 => ?_)
      · have P := P.1 c15
        refine mx_iconst (pc := 22) (v := (0 : Int32)) (mx_dd dd_X6_isBlank 11 (22, .iconst 0, 1) rfl) (by decide) ?_
        exact mx_ireturn (pc := 23) (mx_dd dd_X6_isBlank 12 (23, .ireturn, 1) rfl) rfl rfl P
      · have P := P.2 c15
        refine mx_sel [] rfl ?_
        exact P
theorem b_X6_isBlank_18 {d : Nat} {h : mxH} {Q : mxRes → mxH → Prop} 
    (P : Q (.inl (some (.int (1 : Int32)))) h) : mx_SX mY_X6_isBlank d 18 [] [] h Q := by
  refine mx_iconst (pc := 18) (v := (1 : Int32)) (mx_dd dd_X6_isBlank 9 (18, .iconst 1, 1) rfl) (by decide) ?_
  refine mx_goto (pc := 19) 23 (mx_dd dd_X6_isBlank 10 (19, .goto 4, 3) rfl) rfl ?_
  exact mx_ireturn (pc := 23) (mx_dd dd_X6_isBlank 12 (23, .ireturn, 1) rfl) rfl rfl P
theorem b_X6_advance {d : Nat} {h : mxH} {Q : mxRes → mxH → Prop} (x0 : Nat)
    (P : hpK h x0 = 6 ∧ mx_SX mY_X6_advance d 5 [(0, .ref x0), (1, .int (hpI h x0 5))] [] h Q) : mx_SM mY_X6_advance d [.ref x0] h Q := by
  refine mx_SM_of (by decide) (Nat.le_of_ble_eq_true rfl) ?_
  show mx_SX mY_X6_advance d 0 [(0, .ref x0)] [] h Q
  refine mx_aload_n (pc := 0) 0 (mx_dd dd_X6_advance 0 (0, .aload_n 0, 1) rfl) rfl rfl ?_
  obtain ⟨g1, P⟩ := P
  refine mx_getI (pc := 1) mx_fl_X6_35 g1 rfl (mx_dd dd_X6_advance 1 (1, .getfield 35, 3) rfl) ?_
  refine mx_istore_n (pc := 4) (mx_dd dd_X6_advance 2 (4, .istore_n 1, 1) rfl) rfl (by decide) (lv' := [(1, _), (0, _)]) rfl ?_
  refine mx_sel [1, 0] rfl ?_
  exact P
theorem b_X6_advance_5 {d : Nat} {h : mxH} {Q : mxRes → mxH → Prop} (x0 : Nat) (x1 : Int32)
    (P : hpK h x0 = 6 ∧ (((hpI h x0 1) ≤ x1 → mx_SX mY_X6_advance d 30 [(0, .ref x0), (1, .int x1)] [] h Q) ∧ (¬ (hpI h x0 1) ≤ x1 → 1 ≤ d ∧ mx_SM mY_X6_byteAt (d - 1) [.ref x0, .int x1] h (mx_KI (fun v1 h1 => mx_SM mY_X6_isBlank (d - 1) [.int v1] h1 (mx_KI (fun v2 h2 => ((v2 = 0 → mx_SX mY_X6_advance d 30 [(0, .ref x0), (1, .int x1)] [] h2 Q) ∧ (¬ v2 = 0 → mx_SX mY_X6_advance d 5 [(0, .ref x0), (1, .int (x1 + (1 : Int32)))] [] h2 Q))) (mx_XX mY_X6_advance Q))) (mx_XX mY_X6_advance Q))))) : mx_SX mY_X6_advance d 5 [(0, .ref x0), (1, .int x1)] [] h Q := by
  refine mx_iload_n (pc := 5) 1 (mx_dd dd_X6_advance 3 (5, .iload_n 1, 1) rfl) rfl rfl ?_
  refine mx_aload_n (pc := 6) 0 (mx_dd dd_X6_advance 4 (6, .aload_n 0, 1) rfl) rfl rfl ?_
  obtain ⟨g1, P⟩ := P
  refine mx_getI (pc := 7) mx_fl_X6_25 g1 rfl (mx_dd dd_X6_advance 5 (7, .getfield 25, 3) rfl) ?_
  refine mx_icmp_ge (pc := 10) 30 (mx_dd dd_X6_advance 6 (10, .if_icmp .ge 20, 3) rfl) rfl (fun c10 => ?_) (fun c10 => ?_)
  · have P := P.1 c10
    exact P
  · have P := P.2 c10
    refine mx_aload_n (pc := 13) 0 (mx_dd dd_X6_advance 7 (13, .aload_n 0, 1) rfl) rfl rfl ?_
    refine mx_iload_n (pc := 14) 1 (mx_dd dd_X6_advance 8 (14, .iload_n 1, 1) rfl) rfl rfl ?_
    obtain ⟨g2, P⟩ := P
    refine mx_cVI (pc := 15) (Y := mY_X6_byteAt) (As := [.int x1]) mx_ml_X6_67 mx_y_X6_byteAt rfl g1 (by decide) rfl (by decide) rfl (mx_dd dd_X6_advance 9 (15, .invokevirtual 67, 3) rfl) g2 (by decide) P (fun v1 h1 P => ?_)
    refine mx_cSI (pc := 18) (Y := mY_X6_isBlank) (As := [.int v1]) mx_ml_X6_70 mx_y_X6_isBlank rfl rfl (by decide) rfl (mx_dd dd_X6_advance 10 (18, .invokestatic 70, 3) rfl) g2 (by decide) P (fun v2 h2 P => ?_)
    refine mx_if_eq (pc := 21) 30 (mx_dd dd_X6_advance 11 (21, .ifCond .eq 9, 3) rfl) rfl (fun c21 => ?_) (fun c21 => ?_)
    · have P := P.1 c21
      exact P
    · have P := P.2 c21
      refine mx_iinc (pc := 24) 1 (mx_dd dd_X6_advance 12 (24, .iinc 1 1, 3) rfl) rfl (mx_kadd (by decide : Int32.ofInt 1 = (1 : Int32))) (by decide) (lv' := [(1, _), (0, _)]) rfl ?_
      refine mx_goto (pc := 27) 5 (mx_dd dd_X6_advance 13 (27, .goto (-22), 3) rfl) rfl ?_
      refine mx_sel [1, 0] rfl ?_
      exact P
theorem b_X6_advance_30 {d : Nat} {h : mxH} {Q : mxRes → mxH → Prop} (x0 : Nat) (x1 : Int32)
    (P : hpK h x0 = 6 ∧ ∀ h1 : mxH, h1 = hsI h x0 4 x1 → 1 ≤ d ∧ mx_SM mY_X6_byteAt (d - 1) [.ref x0, .int x1] h1 (mx_KI (fun v1 h2 => ((0 ≤ v1 → mx_SM mY_X11_letterValue (d - 1) [.int v1] h2 (mx_KI (fun v2 h3 => ((v2 ≤ 0 → hpK h3 x0 = 6 ∧ mx_SM mY_X6_byteAt (d - 1) [.ref x0, .int (x1 + (1 : Int32))] h3 (mx_KI (fun v3 h4 => hpK h4 x0 = 6 ∧ mx_SM mY_X6_readSign (d - 1) [.ref x0, .int v1, .int v3] h4 (mx_KV (fun h5 => Q (.inl none) h5) (mx_XX mY_X6_advance Q))) (mx_XX mY_X6_advance Q))) ∧ (¬ v2 ≤ 0 → hpK h3 x0 = 6 ∧ mx_SM mY_X6_readWord (d - 1) [.ref x0] h3 (mx_KV (fun h6 => Q (.inl none) h6) (mx_XX mY_X6_advance Q))))) (fun _ _ => False))) ∧ (¬ 0 ≤ v1 → hpK h2 x0 = 6 ∧ ∀ h7 : mxH, h7 = hsI h2 x0 3 (0 : Int32) → ∀ h8 : mxH, h8 = hsI h7 x0 5 x1 → Q (.inl none) h8))) (mx_XX mY_X6_advance Q))) : mx_SX mY_X6_advance d 30 [(0, .ref x0), (1, .int x1)] [] h Q := by
  refine mx_aload_n (pc := 30) 0 (mx_dd dd_X6_advance 14 (30, .aload_n 0, 1) rfl) rfl rfl ?_
  refine mx_iload_n (pc := 31) 1 (mx_dd dd_X6_advance 15 (31, .iload_n 1, 1) rfl) rfl rfl ?_
  obtain ⟨g1, P⟩ := P
  refine mx_putI (pc := 32) mx_fl_X6_57 g1 rfl (.inl rfl) rfl rfl (mx_dd dd_X6_advance 16 (32, .putfield 57, 3) rfl) ?_
  have P := P _ rfl
  refine mx_aload_n (pc := 35) 0 (mx_dd dd_X6_advance 17 (35, .aload_n 0, 1) rfl) rfl rfl ?_
  refine mx_iload_n (pc := 36) 1 (mx_dd dd_X6_advance 18 (36, .iload_n 1, 1) rfl) rfl rfl ?_
  obtain ⟨g2, P⟩ := P
  refine mx_cVI (pc := 37) (Y := mY_X6_byteAt) (As := [.int x1]) mx_ml_X6_67 mx_y_X6_byteAt rfl g1 (by decide) rfl (by decide) rfl (mx_dd dd_X6_advance 19 (37, .invokevirtual 67, 3) rfl) g2 (by decide) P (fun v1 h2 P => ?_)
  refine mx_istore_n (pc := 40) (mx_dd dd_X6_advance 20 (40, .istore_n 2, 1) rfl) rfl (by decide) (lv' := [(2, _), (0, _), (1, _)]) rfl ?_
  refine mx_iload_n (pc := 41) 0 (mx_dd dd_X6_advance 21 (41, .iload_n 2, 1) rfl) rfl rfl ?_
  refine mx_if_ge (pc := 42) 58 (mx_dd dd_X6_advance 22 (42, .ifCond .ge 16, 3) rfl) rfl (fun c42 => ?_) (fun c42 => ?_)
  · have P := P.1 c42
    refine mx_iload_n (pc := 58) 0 (mx_dd dd_X6_advance 30 (58, .iload_n 2, 1) rfl) rfl rfl ?_
    refine mx_cSNI (pc := 59) (Y := mY_X11_letterValue) (As := [.int v1]) mx_nn_X6_77 mx_y_X11_letterValue rfl rfl (by decide) rfl (mx_dd dd_X6_advance 31 (59, .invokestatic 77, 3) rfl) g2 (by decide) P (fun v2 h3 P => ?_)
    refine mx_if_le (pc := 62) 72 (mx_dd dd_X6_advance 32 (62, .ifCond .le 10, 3) rfl) rfl (fun c62 => ?_) (fun c62 => ?_)
    · have P := P.1 c62
      refine mx_aload_n (pc := 72) 1 (mx_dd dd_X6_advance 36 (72, .aload_n 0, 1) rfl) rfl rfl ?_
      refine mx_iload_n (pc := 73) 0 (mx_dd dd_X6_advance 37 (73, .iload_n 2, 1) rfl) rfl rfl ?_
      refine mx_aload_n (pc := 74) 1 (mx_dd dd_X6_advance 38 (74, .aload_n 0, 1) rfl) rfl rfl ?_
      refine mx_iload_n (pc := 75) 2 (mx_dd dd_X6_advance 39 (75, .iload_n 1, 1) rfl) rfl rfl ?_
      refine mx_iconst (pc := 76) (v := (1 : Int32)) (mx_dd dd_X6_advance 40 (76, .iconst 1, 1) rfl) (by decide) ?_
      refine mx_iadd (pc := 77) (mx_dd dd_X6_advance 41 (77, .iadd, 1) rfl) ?_
      obtain ⟨g3, P⟩ := P
      refine mx_cVI (pc := 78) (Y := mY_X6_byteAt) (As := [.int (x1 + (1 : Int32))]) mx_ml_X6_67 mx_y_X6_byteAt rfl g3 (by decide) rfl (by simp [Value.category]) rfl (mx_dd dd_X6_advance 42 (78, .invokevirtual 67, 3) rfl) g2 (by decide) P (fun v3 h4 P => ?_)
      obtain ⟨g4, P⟩ := P
      refine mx_cVV (pc := 81) (Y := mY_X6_readSign) (As := [.int v1, .int v3]) mx_ml_X6_83 mx_y_X6_readSign rfl g4 (by decide) rfl (by decide) rfl (mx_dd dd_X6_advance 43 (81, .invokevirtual 83, 3) rfl) g2 (by decide) P (fun h5 P => ?_)
      exact mx_return (pc := 84) (mx_dd dd_X6_advance 44 (84, .return_, 1) rfl) rfl P
    · have P := P.2 c62
      refine mx_aload_n (pc := 65) 1 (mx_dd dd_X6_advance 33 (65, .aload_n 0, 1) rfl) rfl rfl ?_
      obtain ⟨g5, P⟩ := P
      refine mx_cVV (pc := 66) (Y := mY_X6_readWord) (As := []) mx_ml_X6_80 mx_y_X6_readWord rfl g5 (by decide) rfl (by decide) rfl (mx_dd dd_X6_advance 34 (66, .invokevirtual 80, 3) rfl) g2 (by decide) P (fun h6 P => ?_)
      refine mx_goto (pc := 69) 84 (mx_dd dd_X6_advance 35 (69, .goto 15, 3) rfl) rfl ?_
      exact mx_return (pc := 84) (mx_dd dd_X6_advance 44 (84, .return_, 1) rfl) rfl P
  · have P := P.2 c42
    refine mx_aload_n (pc := 45) 1 (mx_dd dd_X6_advance 23 (45, .aload_n 0, 1) rfl) rfl rfl ?_
    refine mx_iconst (pc := 46) (v := (0 : Int32)) (mx_dd dd_X6_advance 24 (46, .iconst 0, 1) rfl) (by decide) ?_
    obtain ⟨g6, P⟩ := P
    refine mx_putI (pc := 47) mx_fl_X6_74 g6 rfl (.inl rfl) rfl rfl (mx_dd dd_X6_advance 25 (47, .putfield 74, 3) rfl) ?_
    have P := P _ rfl
    refine mx_aload_n (pc := 50) 1 (mx_dd dd_X6_advance 26 (50, .aload_n 0, 1) rfl) rfl rfl ?_
    refine mx_iload_n (pc := 51) 2 (mx_dd dd_X6_advance 27 (51, .iload_n 1, 1) rfl) rfl rfl ?_
    refine mx_putI (pc := 52) mx_fl_X6_35 g6 rfl (.inl rfl) rfl rfl (mx_dd dd_X6_advance 28 (52, .putfield 35, 3) rfl) ?_
    have P := P _ rfl
    refine mx_goto (pc := 55) 84 (mx_dd dd_X6_advance 29 (55, .goto 29, 3) rfl) rfl ?_
    exact mx_return (pc := 84) (mx_dd dd_X6_advance 44 (84, .return_, 1) rfl) rfl P
theorem b_X6_readWord {d : Nat} {h : mxH} {Q : mxRes → mxH → Prop} (x0 : Nat)
    (P : hpK h x0 = 6 ∧ ∀ h1 : mxH, h1 = hsI h x0 3 (1 : Int32) → ∀ h2 : mxH, h2 = hsL h1 x0 6 (0 : Int64) → mx_SX mY_X6_readWord d 15 [(0, .ref x0), (1, .int (hpI h2 x0 4))] [] h2 Q) : mx_SM mY_X6_readWord d [.ref x0] h Q := by
  refine mx_SM_of (by decide) (Nat.le_of_ble_eq_true rfl) ?_
  show mx_SX mY_X6_readWord d 0 [(0, .ref x0)] [] h Q
  refine mx_aload_n (pc := 0) 0 (mx_dd dd_X6_readWord 0 (0, .aload_n 0, 1) rfl) rfl rfl ?_
  refine mx_iconst (pc := 1) (v := (1 : Int32)) (mx_dd dd_X6_readWord 1 (1, .iconst 1, 1) rfl) (by decide) ?_
  obtain ⟨g1, P⟩ := P
  refine mx_putI (pc := 2) mx_fl_X6_74 g1 rfl (.inl rfl) rfl rfl (mx_dd dd_X6_readWord 2 (2, .putfield 74, 3) rfl) ?_
  have P := P _ rfl
  refine mx_aload_n (pc := 5) 0 (mx_dd dd_X6_readWord 3 (5, .aload_n 0, 1) rfl) rfl rfl ?_
  refine mx_lconst (pc := 6) (v := (0 : Int64)) (mx_dd dd_X6_readWord 4 (6, .lconst 0, 1) rfl) (by decide) ?_
  refine mx_putL (pc := 7) mx_fl_X6_87 g1 rfl (.inl rfl) (mx_dd dd_X6_readWord 5 (7, .putfield 87, 3) rfl) ?_
  have P := P _ rfl
  refine mx_aload_n (pc := 10) 0 (mx_dd dd_X6_readWord 6 (10, .aload_n 0, 1) rfl) rfl rfl ?_
  refine mx_getI (pc := 11) mx_fl_X6_57 g1 rfl (mx_dd dd_X6_readWord 7 (11, .getfield 57, 3) rfl) ?_
  refine mx_istore_n (pc := 14) (mx_dd dd_X6_readWord 8 (14, .istore_n 1, 1) rfl) rfl (by decide) (lv' := [(1, _), (0, _)]) rfl ?_
  refine mx_sel [1, 0] rfl ?_
  exact P
theorem b_X6_readWord_15 {d : Nat} {h : mxH} {Q : mxRes → mxH → Prop} (x0 : Nat) (x1 : Int32)
    (P : hpK h x0 = 6 ∧ (((hpI h x0 1) ≤ x1 → mx_SX mY_X6_readWord d 62 [(0, .ref x0), (1, .int x1)] [] h Q) ∧ (¬ (hpI h x0 1) ≤ x1 → 1 ≤ d ∧ mx_SM mY_X6_byteAt (d - 1) [.ref x0, .int x1] h (mx_KI (fun v1 h1 => mx_SM mY_X11_letterValue (d - 1) [.int v1] h1 (mx_KI (fun v2 h2 => ((v2 ≤ 0 → mx_SX mY_X6_readWord d 62 [(0, .ref x0), (1, .int x1)] [] h2 Q) ∧ (¬ v2 ≤ 0 → hpK h2 x0 = 6 ∧ mx_SM mY_X6_byteAt (d - 1) [.ref x0, .int x1] h2 (mx_KI (fun v3 h3 => mx_SM mY_X11_letterValue (d - 1) [.int v3] h3 (mx_KI (fun v4 h4 => hpK h4 x0 = 6 ∧ ∀ h5 : mxH, h5 = hsL h4 x0 6 (((37 : Int64) * (hpL h2 x0 6)) + (v4.toInt64)) → mx_SX mY_X6_readWord d 15 [(0, .ref x0), (1, .int (x1 + (1 : Int32)))] [] h5 Q) (fun _ _ => False))) (mx_XX mY_X6_readWord Q))))) (fun _ _ => False))) (mx_XX mY_X6_readWord Q))))) : mx_SX mY_X6_readWord d 15 [(0, .ref x0), (1, .int x1)] [] h Q := by
  refine mx_iload_n (pc := 15) 1 (mx_dd dd_X6_readWord 9 (15, .iload_n 1, 1) rfl) rfl rfl ?_
  refine mx_aload_n (pc := 16) 0 (mx_dd dd_X6_readWord 10 (16, .aload_n 0, 1) rfl) rfl rfl ?_
  obtain ⟨g1, P⟩ := P
  refine mx_getI (pc := 17) mx_fl_X6_25 g1 rfl (mx_dd dd_X6_readWord 11 (17, .getfield 25, 3) rfl) ?_
  refine mx_icmp_ge (pc := 20) 62 (mx_dd dd_X6_readWord 12 (20, .if_icmp .ge 42, 3) rfl) rfl (fun c20 => ?_) (fun c20 => ?_)
  · have P := P.1 c20
    exact P
  · have P := P.2 c20
    refine mx_aload_n (pc := 23) 0 (mx_dd dd_X6_readWord 13 (23, .aload_n 0, 1) rfl) rfl rfl ?_
    refine mx_iload_n (pc := 24) 1 (mx_dd dd_X6_readWord 14 (24, .iload_n 1, 1) rfl) rfl rfl ?_
    obtain ⟨g2, P⟩ := P
    refine mx_cVI (pc := 25) (Y := mY_X6_byteAt) (As := [.int x1]) mx_ml_X6_67 mx_y_X6_byteAt rfl g1 (by decide) rfl (by decide) rfl (mx_dd dd_X6_readWord 15 (25, .invokevirtual 67, 3) rfl) g2 (by decide) P (fun v1 h1 P => ?_)
    refine mx_cSNI (pc := 28) (Y := mY_X11_letterValue) (As := [.int v1]) mx_nn_X6_77 mx_y_X11_letterValue rfl rfl (by decide) rfl (mx_dd dd_X6_readWord 16 (28, .invokestatic 77, 3) rfl) g2 (by decide) P (fun v2 h2 P => ?_)
    refine mx_if_le (pc := 31) 62 (mx_dd dd_X6_readWord 17 (31, .ifCond .le 31, 3) rfl) rfl (fun c31 => ?_) (fun c31 => ?_)
    · have P := P.1 c31
      exact P
    · have P := P.2 c31
      refine mx_aload_n (pc := 34) 0 (mx_dd dd_X6_readWord 18 (34, .aload_n 0, 1) rfl) rfl rfl ?_
      refine mx_ldc2 (pc := 35) mx_cL_X6_91 (mx_dd dd_X6_readWord 19 (35, .ldc2_w 91, 3) rfl) ?_
      refine mx_aload_n (pc := 38) 0 (mx_dd dd_X6_readWord 20 (38, .aload_n 0, 1) rfl) rfl rfl ?_
      obtain ⟨g3, P⟩ := P
      refine mx_getL (pc := 39) mx_fl_X6_87 g3 rfl (mx_dd dd_X6_readWord 21 (39, .getfield 87, 3) rfl) ?_
      refine mx_lmul (pc := 42) (mx_dd dd_X6_readWord 22 (42, .lmul, 1) rfl) ?_
      refine mx_aload_n (pc := 43) 0 (mx_dd dd_X6_readWord 23 (43, .aload_n 0, 1) rfl) rfl rfl ?_
      refine mx_iload_n (pc := 44) 1 (mx_dd dd_X6_readWord 24 (44, .iload_n 1, 1) rfl) rfl rfl ?_
      refine mx_cVI (pc := 45) (Y := mY_X6_byteAt) (As := [.int x1]) mx_ml_X6_67 mx_y_X6_byteAt rfl g3 (by decide) rfl (by simp [Value.category]) rfl (mx_dd dd_X6_readWord 25 (45, .invokevirtual 67, 3) rfl) g2 (by decide) P (fun v3 h3 P => ?_)
      refine mx_cSNI (pc := 48) (Y := mY_X11_letterValue) (As := [.int v3]) mx_nn_X6_77 mx_y_X11_letterValue rfl rfl (by simp [Value.category]) rfl (mx_dd dd_X6_readWord 26 (48, .invokestatic 77, 3) rfl) g2 (by decide) P (fun v4 h4 P => ?_)
      refine mx_i2l (pc := 51) (mx_dd dd_X6_readWord 27 (51, .i2l, 1) rfl) ?_
      refine mx_ladd (pc := 52) (mx_dd dd_X6_readWord 28 (52, .ladd, 1) rfl) ?_
      obtain ⟨g4, P⟩ := P
      refine mx_putL (pc := 53) mx_fl_X6_87 g4 rfl (.inl rfl) (mx_dd dd_X6_readWord 29 (53, .putfield 87, 3) rfl) ?_
      have P := P _ rfl
      refine mx_iinc (pc := 56) 1 (mx_dd dd_X6_readWord 30 (56, .iinc 1 1, 3) rfl) rfl (mx_kadd (by decide : Int32.ofInt 1 = (1 : Int32))) (by decide) (lv' := [(1, _), (0, _)]) rfl ?_
      refine mx_goto (pc := 59) 15 (mx_dd dd_X6_readWord 31 (59, .goto (-44), 3) rfl) rfl ?_
      refine mx_sel [1, 0] rfl ?_
      exact P
theorem b_X6_readWord_62 {d : Nat} {h : mxH} {Q : mxRes → mxH → Prop} (x0 : Nat) (x1 : Int32)
    (P : hpK h x0 = 6 ∧ ∀ h1 : mxH, h1 = hsI h x0 5 x1 → ((((hpI h1 x0 5) - (hpI h1 x0 4)) ≤ (12 : Int32) → Q (.inl none) h1) ∧ (¬ ((hpI h1 x0 5) - (hpI h1 x0 4)) ≤ (12 : Int32) → 1 ≤ d ∧ mx_SM mY_X6_fail (d - 1) [.ref x0, .int (3 : Int32)] h1 (mx_KV (fun h2 => Q (.inl none) h2) (mx_XX mY_X6_readWord Q))))) : mx_SX mY_X6_readWord d 62 [(0, .ref x0), (1, .int x1)] [] h Q := by
  refine mx_aload_n (pc := 62) 0 (mx_dd dd_X6_readWord 32 (62, .aload_n 0, 1) rfl) rfl rfl ?_
  refine mx_iload_n (pc := 63) 1 (mx_dd dd_X6_readWord 33 (63, .iload_n 1, 1) rfl) rfl rfl ?_
  obtain ⟨g1, P⟩ := P
  refine mx_putI (pc := 64) mx_fl_X6_35 g1 rfl (.inl rfl) rfl rfl (mx_dd dd_X6_readWord 34 (64, .putfield 35, 3) rfl) ?_
  have P := P _ rfl
  refine mx_aload_n (pc := 67) 0 (mx_dd dd_X6_readWord 35 (67, .aload_n 0, 1) rfl) rfl rfl ?_
  refine mx_getI (pc := 68) mx_fl_X6_35 g1 rfl (mx_dd dd_X6_readWord 36 (68, .getfield 35, 3) rfl) ?_
  refine mx_aload_n (pc := 71) 0 (mx_dd dd_X6_readWord 37 (71, .aload_n 0, 1) rfl) rfl rfl ?_
  refine mx_getI (pc := 72) mx_fl_X6_57 g1 rfl (mx_dd dd_X6_readWord 38 (72, .getfield 57, 3) rfl) ?_
  refine mx_isub (pc := 75) (mx_dd dd_X6_readWord 39 (75, .isub, 1) rfl) ?_
  refine mx_bipush (pc := 76) (v := (12 : Int32)) (mx_dd dd_X6_readWord 40 (76, .bipush 12, 2) rfl) (by decide) ?_
  refine mx_icmp_le (pc := 78) 86 (mx_dd dd_X6_readWord 41 (78, .if_icmp .le 8, 3) rfl) rfl (fun c78 => ?_) (fun c78 => ?_)
  · have P := P.1 c78
    exact mx_return (pc := 86) (mx_dd dd_X6_readWord 45 (86, .return_, 1) rfl) rfl P
  · have P := P.2 c78
    refine mx_aload_n (pc := 81) 0 (mx_dd dd_X6_readWord 42 (81, .aload_n 0, 1) rfl) rfl rfl ?_
    refine mx_iconst (pc := 82) (v := (3 : Int32)) (mx_dd dd_X6_readWord 43 (82, .iconst 3, 1) rfl) (by decide) ?_
    obtain ⟨g2, P⟩ := P
    refine mx_cVV (pc := 83) (Y := mY_X6_fail) (As := [.int (3 : Int32)]) mx_ml_X6_93 mx_y_X6_fail rfl g1 (by decide) rfl (by decide) rfl (mx_dd dd_X6_readWord 44 (83, .invokevirtual 93, 3) rfl) g2 (by decide) P (fun h2 P => ?_)
    exact mx_return (pc := 86) (mx_dd dd_X6_readWord 45 (86, .return_, 1) rfl) rfl P
theorem b_X6_readSign {d : Nat} {h : mxH} {Q : mxRes → mxH → Prop} (x0 : Nat) (x1 : Int32) (x2 : Int32)
    (P : 1 ≤ d ∧ mx_SM mY_X6_signOfTwo (d - 1) [.int x1, .int x2] h (mx_KI (fun v1 h1 => hpK h1 x0 = 6 ∧ ∀ h2 : mxH, h2 = hsI h1 x0 3 v1 → ∀ h3 : mxH, h3 = hsI h2 x0 5 ((hpI h2 x0 4) + (2 : Int32)) → ((¬ (hpI h3 x0 3) = (2 : Int32) → Q (.inl none) h3) ∧ ((hpI h3 x0 3) = (2 : Int32) → mx_SM mY_X6_isSign (d - 1) [.int x1] h3 (mx_KI (fun v2 h4 => ((v2 = 0 → hpK h4 x0 = 6 ∧ ∀ h5 : mxH, h5 = hsI h4 x0 3 (2 : Int32) → ∀ h6 : mxH, h6 = hsI h5 x0 5 ((hpI h5 x0 4) + (1 : Int32)) → Q (.inl none) h6) ∧ (¬ v2 = 0 → hpK h4 x0 = 6 ∧ ∀ h7 : mxH, h7 = hsI h4 x0 3 x1 → ∀ h8 : mxH, h8 = hsI h7 x0 5 ((hpI h7 x0 4) + (1 : Int32)) → Q (.inl none) h8))) (mx_XX mY_X6_readSign Q))))) (mx_XX mY_X6_readSign Q))) : mx_SM mY_X6_readSign d [.ref x0, .int x1, .int x2] h Q := by
  refine mx_SM_of (by decide) (Nat.le_of_ble_eq_true rfl) ?_
  show mx_SX mY_X6_readSign d 0 [(0, .ref x0), (1, .int x1), (2, .int x2)] [] h Q
  refine mx_aload_n (pc := 0) 0 (mx_dd dd_X6_readSign 0 (0, .aload_n 0, 1) rfl) rfl rfl ?_
  refine mx_iload_n (pc := 1) 1 (mx_dd dd_X6_readSign 1 (1, .iload_n 1, 1) rfl) rfl rfl ?_
  refine mx_iload_n (pc := 2) 2 (mx_dd dd_X6_readSign 2 (2, .iload_n 2, 1) rfl) rfl rfl ?_
  obtain ⟨g1, P⟩ := P
  refine mx_cSI (pc := 3) (Y := mY_X6_signOfTwo) (As := [.int x1, .int x2]) mx_ml_X6_96 mx_y_X6_signOfTwo rfl rfl (by simp [Value.category]) rfl (mx_dd dd_X6_readSign 3 (3, .invokestatic 96, 3) rfl) g1 (by decide) P (fun v1 h1 P => ?_)
  obtain ⟨g2, P⟩ := P
  refine mx_putI (pc := 6) mx_fl_X6_74 g2 rfl (.inl rfl) rfl rfl (mx_dd dd_X6_readSign 4 (6, .putfield 74, 3) rfl) ?_
  have P := P _ rfl
  refine mx_aload_n (pc := 9) 0 (mx_dd dd_X6_readSign 5 (9, .aload_n 0, 1) rfl) rfl rfl ?_
  refine mx_aload_n (pc := 10) 0 (mx_dd dd_X6_readSign 6 (10, .aload_n 0, 1) rfl) rfl rfl ?_
  refine mx_getI (pc := 11) mx_fl_X6_57 g2 rfl (mx_dd dd_X6_readSign 7 (11, .getfield 57, 3) rfl) ?_
  refine mx_iconst (pc := 14) (v := (2 : Int32)) (mx_dd dd_X6_readSign 8 (14, .iconst 2, 1) rfl) (by decide) ?_
  refine mx_iadd (pc := 15) (mx_dd dd_X6_readSign 9 (15, .iadd, 1) rfl) ?_
  refine mx_putI (pc := 16) mx_fl_X6_35 g2 rfl (.inl rfl) rfl rfl (mx_dd dd_X6_readSign 10 (16, .putfield 35, 3) rfl) ?_
  have P := P _ rfl
  refine mx_aload_n (pc := 19) 0 (mx_dd dd_X6_readSign 11 (19, .aload_n 0, 1) rfl) rfl rfl ?_
  refine mx_getI (pc := 20) mx_fl_X6_74 g2 rfl (mx_dd dd_X6_readSign 12 (20, .getfield 74, 3) rfl) ?_
  refine mx_iconst (pc := 23) (v := (2 : Int32)) (mx_dd dd_X6_readSign 13 (23, .iconst 2, 1) rfl) (by decide) ?_
  refine mx_icmp_ne (pc := 24) 53 (mx_dd dd_X6_readSign 14 (24, .if_icmp .ne 29, 3) rfl) rfl (fun c24 => ?_) (fun c24 => ?_)
  · have P := P.1 c24
    exact mx_return (pc := 53) (mx_dd dd_X6_readSign 29 (53, .return_, 1) rfl) rfl P
  · have P := P.2 c24
    refine mx_aload_n (pc := 27) 0 (mx_dd dd_X6_readSign 15 (27, .aload_n 0, 1) rfl) rfl rfl ?_
    refine mx_iload_n (pc := 28) 1 (mx_dd dd_X6_readSign 16 (28, .iload_n 1, 1) rfl) rfl rfl ?_
    refine mx_cSI (pc := 29) (Y := mY_X6_isSign) (As := [.int x1]) mx_ml_X6_99 mx_y_X6_isSign rfl rfl (by simp [Value.category]) rfl (mx_dd dd_X6_readSign 17 (29, .invokestatic 99, 3) rfl) g1 (by decide) P (fun v2 h4 P => ?_)
    refine mx_if_eq (pc := 32) 39 (mx_dd dd_X6_readSign 18 (32, .ifCond .eq 7, 3) rfl) rfl (fun c32 => ?_) (fun c32 => ?_)
    · have P := P.1 c32
      refine mx_iconst (pc := 39) (v := (2 : Int32)) (mx_dd dd_X6_readSign 21 (39, .iconst 2, 1) rfl) (by decide) ?_
      obtain ⟨g3, P⟩ := P
      refine mx_putI (pc := 40) mx_fl_X6_74 g3 rfl (.inl rfl) rfl rfl (mx_dd dd_X6_readSign 22 (40, .putfield 74, 3) rfl) ?_
      have P := P _ rfl
      refine mx_aload_n (pc := 43) 0 (mx_dd dd_X6_readSign 23 (43, .aload_n 0, 1) rfl) rfl rfl ?_
      refine mx_aload_n (pc := 44) 0 (mx_dd dd_X6_readSign 24 (44, .aload_n 0, 1) rfl) rfl rfl ?_
      refine mx_getI (pc := 45) mx_fl_X6_57 g3 rfl (mx_dd dd_X6_readSign 25 (45, .getfield 57, 3) rfl) ?_
      refine mx_iconst (pc := 48) (v := (1 : Int32)) (mx_dd dd_X6_readSign 26 (48, .iconst 1, 1) rfl) (by decide) ?_
      refine mx_iadd (pc := 49) (mx_dd dd_X6_readSign 27 (49, .iadd, 1) rfl) ?_
      refine mx_putI (pc := 50) mx_fl_X6_35 g3 rfl (.inl rfl) rfl rfl (mx_dd dd_X6_readSign 28 (50, .putfield 35, 3) rfl) ?_
      have P := P _ rfl
      exact mx_return (pc := 53) (mx_dd dd_X6_readSign 29 (53, .return_, 1) rfl) rfl P
    · have P := P.2 c32
      refine mx_iload_n (pc := 35) 1 (mx_dd dd_X6_readSign 19 (35, .iload_n 1, 1) rfl) rfl rfl ?_
      refine mx_goto (pc := 36) 40 (mx_dd dd_X6_readSign 20 (36, .goto 4, 3) rfl) rfl ?_
      obtain ⟨g4, P⟩ := P
      refine mx_putI (pc := 40) mx_fl_X6_74 g4 rfl (.inl rfl) rfl rfl (mx_dd dd_X6_readSign 22 (40, .putfield 74, 3) rfl) ?_
      have P := P _ rfl
      refine mx_aload_n (pc := 43) 0 (mx_dd dd_X6_readSign 23 (43, .aload_n 0, 1) rfl) rfl rfl ?_
      refine mx_aload_n (pc := 44) 0 (mx_dd dd_X6_readSign 24 (44, .aload_n 0, 1) rfl) rfl rfl ?_
      refine mx_getI (pc := 45) mx_fl_X6_57 g4 rfl (mx_dd dd_X6_readSign 25 (45, .getfield 57, 3) rfl) ?_
      refine mx_iconst (pc := 48) (v := (1 : Int32)) (mx_dd dd_X6_readSign 26 (48, .iconst 1, 1) rfl) (by decide) ?_
      refine mx_iadd (pc := 49) (mx_dd dd_X6_readSign 27 (49, .iadd, 1) rfl) ?_
      refine mx_putI (pc := 50) mx_fl_X6_35 g4 rfl (.inl rfl) rfl rfl (mx_dd dd_X6_readSign 28 (50, .putfield 35, 3) rfl) ?_
      have P := P _ rfl
      exact mx_return (pc := 53) (mx_dd dd_X6_readSign 29 (53, .return_, 1) rfl) rfl P
theorem b_X6_signOfTwo {d : Nat} {h : mxH} {Q : mxRes → mxH → Prop} (x0 : Int32) (x1 : Int32)
    (P : ((¬ x0 = (38 : Int32) → mx_SX mY_X6_signOfTwo d 16 [(0, .int x0), (1, .int x1)] [] h Q) ∧ (x0 = (38 : Int32) → ((¬ x1 = (38 : Int32) → mx_SX mY_X6_signOfTwo d 16 [(0, .int x0), (1, .int x1)] [] h Q) ∧ (x1 = (38 : Int32) → Q (.inl (some (.int (256 : Int32)))) h))))) : mx_SM mY_X6_signOfTwo d [.int x0, .int x1] h Q := by
  refine mx_SM_of (by decide) (Nat.le_of_ble_eq_true rfl) ?_
  show mx_SX mY_X6_signOfTwo d 0 [(0, .int x0), (1, .int x1)] [] h Q
  refine mx_iload_n (pc := 0) 0 (mx_dd dd_X6_signOfTwo 0 (0, .iload_n 0, 1) rfl) rfl rfl ?_
  refine mx_bipush (pc := 1) (v := (38 : Int32)) (mx_dd dd_X6_signOfTwo 1 (1, .bipush 38, 2) rfl) (by decide) ?_
  refine mx_icmp_ne (pc := 3) 16 (mx_dd dd_X6_signOfTwo 2 (3, .if_icmp .ne 13, 3) rfl) rfl (fun c3 => ?_) (fun c3 => ?_)
  · have P := P.1 c3
    exact P
  · have P := P.2 c3
    refine mx_iload_n (pc := 6) 1 (mx_dd dd_X6_signOfTwo 3 (6, .iload_n 1, 1) rfl) rfl rfl ?_
    refine mx_bipush (pc := 7) (v := (38 : Int32)) (mx_dd dd_X6_signOfTwo 4 (7, .bipush 38, 2) rfl) (by decide) ?_
    refine mx_icmp_ne (pc := 9) 16 (mx_dd dd_X6_signOfTwo 5 (9, .if_icmp .ne 7, 3) rfl) rfl (fun c9 => ?_) (fun c9 => ?_)
    · have P := P.1 c9
      exact P
    · have P := P.2 c9
      refine mx_sipush (pc := 12) (v := (256 : Int32)) (mx_dd dd_X6_signOfTwo 6 (12, .sipush 256, 3) rfl) (by decide) ?_
      exact mx_ireturn (pc := 15) (mx_dd dd_X6_signOfTwo 7 (15, .ireturn, 1) rfl) rfl rfl P
theorem b_X6_signOfTwo_16 {d : Nat} {h : mxH} {Q : mxRes → mxH → Prop} (x0 : Int32) (x1 : Int32)
    (P : ((¬ x0 = (124 : Int32) → mx_SX mY_X6_signOfTwo d 32 [(0, .int x0), (1, .int x1)] [] h Q) ∧ (x0 = (124 : Int32) → ((¬ x1 = (124 : Int32) → mx_SX mY_X6_signOfTwo d 32 [(0, .int x0), (1, .int x1)] [] h Q) ∧ (x1 = (124 : Int32) → Q (.inl (some (.int (257 : Int32)))) h))))) : mx_SX mY_X6_signOfTwo d 16 [(0, .int x0), (1, .int x1)] [] h Q := by
  refine mx_iload_n (pc := 16) 0 (mx_dd dd_X6_signOfTwo 8 (16, .iload_n 0, 1) rfl) rfl rfl ?_
  refine mx_bipush (pc := 17) (v := (124 : Int32)) (mx_dd dd_X6_signOfTwo 9 (17, .bipush 124, 2) rfl) (by decide) ?_
  refine mx_icmp_ne (pc := 19) 32 (mx_dd dd_X6_signOfTwo 10 (19, .if_icmp .ne 13, 3) rfl) rfl (fun c19 => ?_) (fun c19 => ?_)
  · have P := P.1 c19
    exact P
  · have P := P.2 c19
    refine mx_iload_n (pc := 22) 1 (mx_dd dd_X6_signOfTwo 11 (22, .iload_n 1, 1) rfl) rfl rfl ?_
    refine mx_bipush (pc := 23) (v := (124 : Int32)) (mx_dd dd_X6_signOfTwo 12 (23, .bipush 124, 2) rfl) (by decide) ?_
    refine mx_icmp_ne (pc := 25) 32 (mx_dd dd_X6_signOfTwo 13 (25, .if_icmp .ne 7, 3) rfl) rfl (fun c25 => ?_) (fun c25 => ?_)
    · have P := P.1 c25
      exact P
    · have P := P.2 c25
      refine mx_sipush (pc := 28) (v := (257 : Int32)) (mx_dd dd_X6_signOfTwo 14 (28, .sipush 257, 3) rfl) (by decide) ?_
      exact mx_ireturn (pc := 31) (mx_dd dd_X6_signOfTwo 15 (31, .ireturn, 1) rfl) rfl rfl P
theorem b_X6_signOfTwo_32 {d : Nat} {h : mxH} {Q : mxRes → mxH → Prop} (x0 : Int32) (x1 : Int32)
    (P : ((¬ x0 = (62 : Int32) → mx_SX mY_X6_signOfTwo d 48 [(0, .int x0), (1, .int x1)] [] h Q) ∧ (x0 = (62 : Int32) → ((¬ x1 = (62 : Int32) → mx_SX mY_X6_signOfTwo d 48 [(0, .int x0), (1, .int x1)] [] h Q) ∧ (x1 = (62 : Int32) → Q (.inl (some (.int (258 : Int32)))) h))))) : mx_SX mY_X6_signOfTwo d 32 [(0, .int x0), (1, .int x1)] [] h Q := by
  refine mx_iload_n (pc := 32) 0 (mx_dd dd_X6_signOfTwo 16 (32, .iload_n 0, 1) rfl) rfl rfl ?_
  refine mx_bipush (pc := 33) (v := (62 : Int32)) (mx_dd dd_X6_signOfTwo 17 (33, .bipush 62, 2) rfl) (by decide) ?_
  refine mx_icmp_ne (pc := 35) 48 (mx_dd dd_X6_signOfTwo 18 (35, .if_icmp .ne 13, 3) rfl) rfl (fun c35 => ?_) (fun c35 => ?_)
  · have P := P.1 c35
    exact P
  · have P := P.2 c35
    refine mx_iload_n (pc := 38) 1 (mx_dd dd_X6_signOfTwo 19 (38, .iload_n 1, 1) rfl) rfl rfl ?_
    refine mx_bipush (pc := 39) (v := (62 : Int32)) (mx_dd dd_X6_signOfTwo 20 (39, .bipush 62, 2) rfl) (by decide) ?_
    refine mx_icmp_ne (pc := 41) 48 (mx_dd dd_X6_signOfTwo 21 (41, .if_icmp .ne 7, 3) rfl) rfl (fun c41 => ?_) (fun c41 => ?_)
    · have P := P.1 c41
      exact P
    · have P := P.2 c41
      refine mx_sipush (pc := 44) (v := (258 : Int32)) (mx_dd dd_X6_signOfTwo 22 (44, .sipush 258, 3) rfl) (by decide) ?_
      exact mx_ireturn (pc := 47) (mx_dd dd_X6_signOfTwo 23 (47, .ireturn, 1) rfl) rfl rfl P
theorem b_X6_signOfTwo_48 {d : Nat} {h : mxH} {Q : mxRes → mxH → Prop} (x0 : Int32) (x1 : Int32)
    (P : ((¬ x0 = (60 : Int32) → mx_SX mY_X6_signOfTwo d 64 [(0, .int x0), (1, .int x1)] [] h Q) ∧ (x0 = (60 : Int32) → ((¬ x1 = (38 : Int32) → mx_SX mY_X6_signOfTwo d 64 [(0, .int x0), (1, .int x1)] [] h Q) ∧ (x1 = (38 : Int32) → Q (.inl (some (.int (259 : Int32)))) h))))) : mx_SX mY_X6_signOfTwo d 48 [(0, .int x0), (1, .int x1)] [] h Q := by
  refine mx_iload_n (pc := 48) 0 (mx_dd dd_X6_signOfTwo 24 (48, .iload_n 0, 1) rfl) rfl rfl ?_
  refine mx_bipush (pc := 49) (v := (60 : Int32)) (mx_dd dd_X6_signOfTwo 25 (49, .bipush 60, 2) rfl) (by decide) ?_
  refine mx_icmp_ne (pc := 51) 64 (mx_dd dd_X6_signOfTwo 26 (51, .if_icmp .ne 13, 3) rfl) rfl (fun c51 => ?_) (fun c51 => ?_)
  · have P := P.1 c51
    exact P
  · have P := P.2 c51
    refine mx_iload_n (pc := 54) 1 (mx_dd dd_X6_signOfTwo 27 (54, .iload_n 1, 1) rfl) rfl rfl ?_
    refine mx_bipush (pc := 55) (v := (38 : Int32)) (mx_dd dd_X6_signOfTwo 28 (55, .bipush 38, 2) rfl) (by decide) ?_
    refine mx_icmp_ne (pc := 57) 64 (mx_dd dd_X6_signOfTwo 29 (57, .if_icmp .ne 7, 3) rfl) rfl (fun c57 => ?_) (fun c57 => ?_)
    · have P := P.1 c57
      exact P
    · have P := P.2 c57
      refine mx_sipush (pc := 60) (v := (259 : Int32)) (mx_dd dd_X6_signOfTwo 30 (60, .sipush 259, 3) rfl) (by decide) ?_
      exact mx_ireturn (pc := 63) (mx_dd dd_X6_signOfTwo 31 (63, .ireturn, 1) rfl) rfl rfl P
theorem b_X6_signOfTwo_64 {d : Nat} {h : mxH} {Q : mxRes → mxH → Prop} (x0 : Int32) (x1 : Int32)
    (P : ((¬ x0 = (62 : Int32) → Q (.inl (some (.int (2 : Int32)))) h) ∧ (x0 = (62 : Int32) → ((¬ x1 = (38 : Int32) → Q (.inl (some (.int (2 : Int32)))) h) ∧ (x1 = (38 : Int32) → Q (.inl (some (.int (260 : Int32)))) h))))) : mx_SX mY_X6_signOfTwo d 64 [(0, .int x0), (1, .int x1)] [] h Q := by
  refine mx_iload_n (pc := 64) 0 (mx_dd dd_X6_signOfTwo 32 (64, .iload_n 0, 1) rfl) rfl rfl ?_
  refine mx_bipush (pc := 65) (v := (62 : Int32)) (mx_dd dd_X6_signOfTwo 33 (65, .bipush 62, 2) rfl) (by decide) ?_
  refine mx_icmp_ne (pc := 67) 82 (mx_dd dd_X6_signOfTwo 34 (67, .if_icmp .ne 15, 3) rfl) rfl (fun c67 => ?_) (fun c67 => ?_)
  · have P := P.1 c67
    refine mx_iconst (pc := 82) (v := (2 : Int32)) (mx_dd dd_X6_signOfTwo 40 (82, .iconst 2, 1) rfl) (by decide) ?_
    exact mx_ireturn (pc := 83) (mx_dd dd_X6_signOfTwo 41 (83, .ireturn, 1) rfl) rfl rfl P
  · have P := P.2 c67
    refine mx_iload_n (pc := 70) 1 (mx_dd dd_X6_signOfTwo 35 (70, .iload_n 1, 1) rfl) rfl rfl ?_
    refine mx_bipush (pc := 71) (v := (38 : Int32)) (mx_dd dd_X6_signOfTwo 36 (71, .bipush 38, 2) rfl) (by decide) ?_
    refine mx_icmp_ne (pc := 73) 82 (mx_dd dd_X6_signOfTwo 37 (73, .if_icmp .ne 9, 3) rfl) rfl (fun c73 => ?_) (fun c73 => ?_)
    · have P := P.1 c73
      refine mx_iconst (pc := 82) (v := (2 : Int32)) (mx_dd dd_X6_signOfTwo 40 (82, .iconst 2, 1) rfl) (by decide) ?_
      exact mx_ireturn (pc := 83) (mx_dd dd_X6_signOfTwo 41 (83, .ireturn, 1) rfl) rfl rfl P
    · have P := P.2 c73
      refine mx_sipush (pc := 76) (v := (260 : Int32)) (mx_dd dd_X6_signOfTwo 38 (76, .sipush 260, 3) rfl) (by decide) ?_
      refine mx_goto (pc := 79) 83 (mx_dd dd_X6_signOfTwo 39 (79, .goto 4, 3) rfl) rfl ?_
      exact mx_ireturn (pc := 83) (mx_dd dd_X6_signOfTwo 41 (83, .ireturn, 1) rfl) rfl rfl P
theorem b_X6_isSign {d : Nat} {h : mxH} {Q : mxRes → mxH → Prop} (x0 : Int32)
    (P : ((x0.toInt ∉ ([33, 36, 38, 40, 41, 45, 59, 60, 61, 62, 63, 123, 124, 125] : List Int) → mx_SX mY_X6_isSign d 126 [] [] h Q) ∧ (x0.toInt ∈ ([33, 36, 38, 40, 41, 45, 59, 60, 61, 62, 63, 123, 124, 125] : List Int) → mx_SX mY_X6_isSign d 124 [] [] h Q))) : mx_SM mY_X6_isSign d [.int x0] h Q := by
  refine mx_SM_of (by decide) (Nat.le_of_ble_eq_true rfl) ?_
  show mx_SX mY_X6_isSign d 0 [(0, .int x0)] [] h Q
  refine mx_iload_n (pc := 0) 0 (mx_dd dd_X6_isSign 0 (0, .iload_n 0, 1) rfl) rfl rfl ?_
  refine mx_lsw (pc := 1) 126 (mx_dd dd_X6_isSign 1 (1, .lookupswitch 125 #[(33, 123), (36, 123), (38, 123), (40, 123), (41, 123), (45, 123), (59, 123), (60, 123), (61, 123), (62, 123), (63, 123), (123, 123), (124, 123), (125, 123)], 123) rfl) (by decide) rfl (ks := [33, 36, 38, 40, 41, 45, 59, 60, 61, 62, 63, 123, 124, 125]) rfl (ts := [124, 124, 124, 124, 124, 124, 124, 124, 124, 124, 124, 124, 124, 124]) rfl (fun c1 => ?_) (fun j k t hj ht9 hx => ?_)
  · have P := P.1 c1
    refine mx_sel [] rfl ?_
    exact P
  · have hj9 : j < 14 := (List.getElem?_eq_some_iff.mp hj).1
    have hj8 : j = 0 ∨ j = 1 ∨ j = 2 ∨ j = 3 ∨ j = 4 ∨ j = 5 ∨ j = 6 ∨ j = 7 ∨ j = 8 ∨ j = 9 ∨ j = 10 ∨ j = 11 ∨ j = 12 ∨ j = 13 := by omega
    have e9 : t = 124 := by rcases hj8 with rfl | rfl | rfl | rfl | rfl | rfl | rfl | rfl | rfl | rfl | rfl | rfl | rfl | rfl <;> (cases ht9; rfl)
    have P := P.2 (by rw [hx]; exact List.mem_of_getElem? hj)
    subst e9
    refine mx_sel [] rfl ?_
    exact P
theorem b_X6_isSign_124 {d : Nat} {h : mxH} {Q : mxRes → mxH → Prop} 
    (P : Q (.inl (some (.int (1 : Int32)))) h) : mx_SX mY_X6_isSign d 124 [] [] h Q := by
  refine mx_iconst (pc := 124) (v := (1 : Int32)) (mx_dd dd_X6_isSign 2 (124, .iconst 1, 1) rfl) (by decide) ?_
  exact mx_ireturn (pc := 125) (mx_dd dd_X6_isSign 3 (125, .ireturn, 1) rfl) rfl rfl P
theorem b_X6_isSign_126 {d : Nat} {h : mxH} {Q : mxRes → mxH → Prop} 
    (P : Q (.inl (some (.int (0 : Int32)))) h) : mx_SX mY_X6_isSign d 126 [] [] h Q := by
  refine mx_iconst (pc := 126) (v := (0 : Int32)) (mx_dd dd_X6_isSign 4 (126, .iconst 0, 1) rfl) (by decide) ?_
  exact mx_ireturn (pc := 127) (mx_dd dd_X6_isSign 5 (127, .ireturn, 1) rfl) rfl rfl P
theorem b_X6_expect {d : Nat} {h : mxH} {Q : mxRes → mxH → Prop} (x0 : Nat) (x1 : Int32)
    (P : hpK h x0 = 6 ∧ (((hpI h x0 3) = x1 → mx_SX mY_X6_expect d 13 [(0, .ref x0)] [] h Q) ∧ (¬ (hpI h x0 3) = x1 → 1 ≤ d ∧ mx_SM mY_X6_fail (d - 1) [.ref x0, .int (1 : Int32)] h (mx_KV (fun h1 => mx_SX mY_X6_expect d 13 [(0, .ref x0)] [] h1 Q) (mx_XX mY_X6_expect Q))))) : mx_SM mY_X6_expect d [.ref x0, .int x1] h Q := by
  refine mx_SM_of (by decide) (Nat.le_of_ble_eq_true rfl) ?_
  show mx_SX mY_X6_expect d 0 [(0, .ref x0), (1, .int x1)] [] h Q
  refine mx_aload_n (pc := 0) 0 (mx_dd dd_X6_expect 0 (0, .aload_n 0, 1) rfl) rfl rfl ?_
  obtain ⟨g1, P⟩ := P
  refine mx_getI (pc := 1) mx_fl_X6_74 g1 rfl (mx_dd dd_X6_expect 1 (1, .getfield 74, 3) rfl) ?_
  refine mx_iload_n (pc := 4) 1 (mx_dd dd_X6_expect 2 (4, .iload_n 1, 1) rfl) rfl rfl ?_
  refine mx_icmp_eq (pc := 5) 13 (mx_dd dd_X6_expect 3 (5, .if_icmp .eq 8, 3) rfl) rfl (fun c5 => ?_) (fun c5 => ?_)
  · have P := P.1 c5
    refine mx_sel [0] rfl ?_
    exact P
  · have P := P.2 c5
    refine mx_aload_n (pc := 8) 0 (mx_dd dd_X6_expect 4 (8, .aload_n 0, 1) rfl) rfl rfl ?_
    refine mx_iconst (pc := 9) (v := (1 : Int32)) (mx_dd dd_X6_expect 5 (9, .iconst 1, 1) rfl) (by decide) ?_
    obtain ⟨g2, P⟩ := P
    refine mx_cVV (pc := 10) (Y := mY_X6_fail) (As := [.int (1 : Int32)]) mx_ml_X6_93 mx_y_X6_fail rfl g1 (by decide) rfl (by decide) rfl (mx_dd dd_X6_expect 6 (10, .invokevirtual 93, 3) rfl) g2 (by decide) P (fun h1 P => ?_)
    refine mx_sel [0] rfl ?_
    exact P
theorem b_X6_expect_13 {d : Nat} {h : mxH} {Q : mxRes → mxH → Prop} (x0 : Nat)
    (P : hpK h x0 = 6 ∧ (((hpI h x0 3) = 0 → Q (.inl none) h) ∧ (¬ (hpI h x0 3) = 0 → 1 ≤ d ∧ mx_SM mY_X6_advance (d - 1) [.ref x0] h (mx_KV (fun h1 => Q (.inl none) h1) (mx_XX mY_X6_expect Q))))) : mx_SX mY_X6_expect d 13 [(0, .ref x0)] [] h Q := by
  refine mx_aload_n (pc := 13) 0 (mx_dd dd_X6_expect 7 (13, .aload_n 0, 1) rfl) rfl rfl ?_
  obtain ⟨g1, P⟩ := P
  refine mx_getI (pc := 14) mx_fl_X6_74 g1 rfl (mx_dd dd_X6_expect 8 (14, .getfield 74, 3) rfl) ?_
  refine mx_if_eq (pc := 17) 24 (mx_dd dd_X6_expect 9 (17, .ifCond .eq 7, 3) rfl) rfl (fun c17 => ?_) (fun c17 => ?_)
  · have P := P.1 c17
    exact mx_return (pc := 24) (mx_dd dd_X6_expect 12 (24, .return_, 1) rfl) rfl P
  · have P := P.2 c17
    refine mx_aload_n (pc := 20) 0 (mx_dd dd_X6_expect 10 (20, .aload_n 0, 1) rfl) rfl rfl ?_
    obtain ⟨g2, P⟩ := P
    refine mx_cVV (pc := 21) (Y := mY_X6_advance) (As := []) mx_ml_X6_43 mx_y_X6_advance rfl g1 (by decide) rfl (by decide) rfl (mx_dd dd_X6_expect 11 (21, .invokevirtual 43, 3) rfl) g2 (by decide) P (fun h1 P => ?_)
    exact mx_return (pc := 24) (mx_dd dd_X6_expect 12 (24, .return_, 1) rfl) rfl P
theorem b_X6_isWord {d : Nat} {h : mxH} {Q : mxRes → mxH → Prop} (x0 : Nat) (x1 : Int64)
    (P : hpK h x0 = 6 ∧ ((¬ (hpI h x0 3) = (1 : Int32) → Q (.inl (some (.int (0 : Int32)))) h) ∧ ((hpI h x0 3) = (1 : Int32) → ((¬ (lg_cmp (hpL h x0 6) x1) = 0 → Q (.inl (some (.int (0 : Int32)))) h) ∧ ((lg_cmp (hpL h x0 6) x1) = 0 → Q (.inl (some (.int (1 : Int32)))) h))))) : mx_SM mY_X6_isWord d [.ref x0, .long x1] h Q := by
  refine mx_SM_of (by decide) (Nat.le_of_ble_eq_true rfl) ?_
  show mx_SX mY_X6_isWord d 0 [(0, .ref x0), (1, .long x1)] [] h Q
  refine mx_aload_n (pc := 0) 0 (mx_dd dd_X6_isWord 0 (0, .aload_n 0, 1) rfl) rfl rfl ?_
  obtain ⟨g1, P⟩ := P
  refine mx_getI (pc := 1) mx_fl_X6_74 g1 rfl (mx_dd dd_X6_isWord 1 (1, .getfield 74, 3) rfl) ?_
  refine mx_iconst (pc := 4) (v := (1 : Int32)) (mx_dd dd_X6_isWord 2 (4, .iconst 1, 1) rfl) (by decide) ?_
  refine mx_icmp_ne (pc := 5) 21 (mx_dd dd_X6_isWord 3 (5, .if_icmp .ne 16, 3) rfl) rfl (fun c5 => ?_) (fun c5 => ?_)
  · have P := P.1 c5
    refine mx_iconst (pc := 21) (v := (0 : Int32)) (mx_dd dd_X6_isWord 11 (21, .iconst 0, 1) rfl) (by decide) ?_
    exact mx_ireturn (pc := 22) (mx_dd dd_X6_isWord 12 (22, .ireturn, 1) rfl) rfl rfl P
  · have P := P.2 c5
    refine mx_aload_n (pc := 8) 0 (mx_dd dd_X6_isWord 4 (8, .aload_n 0, 1) rfl) rfl rfl ?_
    refine mx_getL (pc := 9) mx_fl_X6_87 g1 rfl (mx_dd dd_X6_isWord 5 (9, .getfield 87, 3) rfl) ?_
    refine mx_lload_n (pc := 12) 1 (mx_dd dd_X6_isWord 6 (12, .lload_n 1, 1) rfl) rfl rfl ?_
    refine mx_lcmp (pc := 13) (mx_dd dd_X6_isWord 7 (13, .lcmp, 1) rfl) ?_
    refine mx_if_ne (pc := 14) 21 (mx_dd dd_X6_isWord 8 (14, .ifCond .ne 7, 3) rfl) rfl (fun c14 => ?_) (fun c14 => ?_)
    · have P := P.1 c14
      refine mx_iconst (pc := 21) (v := (0 : Int32)) (mx_dd dd_X6_isWord 11 (21, .iconst 0, 1) rfl) (by decide) ?_
      exact mx_ireturn (pc := 22) (mx_dd dd_X6_isWord 12 (22, .ireturn, 1) rfl) rfl rfl P
    · have P := P.2 c14
      refine mx_iconst (pc := 17) (v := (1 : Int32)) (mx_dd dd_X6_isWord 9 (17, .iconst 1, 1) rfl) (by decide) ?_
      refine mx_goto (pc := 18) 22 (mx_dd dd_X6_isWord 10 (18, .goto 4, 3) rfl) rfl ?_
      exact mx_ireturn (pc := 22) (mx_dd dd_X6_isWord 12 (22, .ireturn, 1) rfl) rfl rfl P
theorem b_X6_expectWord {d : Nat} {h : mxH} {Q : mxRes → mxH → Prop} (x0 : Nat) (x1 : Int64)
    (P : 1 ≤ d ∧ hpK h x0 = 6 ∧ mx_SM mY_X6_isWord (d - 1) [.ref x0, .long x1] h (mx_KI (fun v1 h1 => ((¬ v1 = 0 → mx_SX mY_X6_expectWord d 13 [(0, .ref x0)] [] h1 Q) ∧ (v1 = 0 → hpK h1 x0 = 6 ∧ mx_SM mY_X6_fail (d - 1) [.ref x0, .int (1 : Int32)] h1 (mx_KV (fun h2 => mx_SX mY_X6_expectWord d 13 [(0, .ref x0)] [] h2 Q) (mx_XX mY_X6_expectWord Q))))) (mx_XX mY_X6_expectWord Q))) : mx_SM mY_X6_expectWord d [.ref x0, .long x1] h Q := by
  refine mx_SM_of (by decide) (Nat.le_of_ble_eq_true rfl) ?_
  show mx_SX mY_X6_expectWord d 0 [(0, .ref x0), (1, .long x1)] [] h Q
  refine mx_aload_n (pc := 0) 0 (mx_dd dd_X6_expectWord 0 (0, .aload_n 0, 1) rfl) rfl rfl ?_
  refine mx_lload_n (pc := 1) 1 (mx_dd dd_X6_expectWord 1 (1, .lload_n 1, 1) rfl) rfl rfl ?_
  obtain ⟨g1, P⟩ := P
  obtain ⟨g2, P⟩ := P
  refine mx_cVI (pc := 2) (Y := mY_X6_isWord) (As := [.long x1]) mx_ml_X6_102 mx_y_X6_isWord rfl g2 (by decide) rfl (by decide) rfl (mx_dd dd_X6_expectWord 2 (2, .invokevirtual 102, 3) rfl) g1 (by decide) P (fun v1 h1 P => ?_)
  refine mx_if_ne (pc := 5) 13 (mx_dd dd_X6_expectWord 3 (5, .ifCond .ne 8, 3) rfl) rfl (fun c5 => ?_) (fun c5 => ?_)
  · have P := P.1 c5
    refine mx_sel [0] rfl ?_
    exact P
  · have P := P.2 c5
    refine mx_aload_n (pc := 8) 0 (mx_dd dd_X6_expectWord 4 (8, .aload_n 0, 1) rfl) rfl rfl ?_
    refine mx_iconst (pc := 9) (v := (1 : Int32)) (mx_dd dd_X6_expectWord 5 (9, .iconst 1, 1) rfl) (by decide) ?_
    obtain ⟨g3, P⟩ := P
    refine mx_cVV (pc := 10) (Y := mY_X6_fail) (As := [.int (1 : Int32)]) mx_ml_X6_93 mx_y_X6_fail rfl g3 (by decide) rfl (by decide) rfl (mx_dd dd_X6_expectWord 6 (10, .invokevirtual 93, 3) rfl) g1 (by decide) P (fun h2 P => ?_)
    refine mx_sel [0] rfl ?_
    exact P
theorem b_X6_expectWord_13 {d : Nat} {h : mxH} {Q : mxRes → mxH → Prop} (x0 : Nat)
    (P : 1 ≤ d ∧ hpK h x0 = 6 ∧ mx_SM mY_X6_advance (d - 1) [.ref x0] h (mx_KV (fun h1 => Q (.inl none) h1) (mx_XX mY_X6_expectWord Q))) : mx_SX mY_X6_expectWord d 13 [(0, .ref x0)] [] h Q := by
  refine mx_aload_n (pc := 13) 0 (mx_dd dd_X6_expectWord 7 (13, .aload_n 0, 1) rfl) rfl rfl ?_
  obtain ⟨g1, P⟩ := P
  obtain ⟨g2, P⟩ := P
  refine mx_cVV (pc := 14) (Y := mY_X6_advance) (As := []) mx_ml_X6_43 mx_y_X6_advance rfl g2 (by decide) rfl (by decide) rfl (mx_dd dd_X6_expectWord 8 (14, .invokevirtual 43, 3) rfl) g1 (by decide) P (fun h1 P => ?_)
  exact mx_return (pc := 17) (mx_dd dd_X6_expectWord 9 (17, .return_, 1) rfl) rfl P
theorem b_X6_opensBody {d : Nat} {h : mxH} {Q : mxRes → mxH → Prop} (x0 : Int64)
    (P : (((lg_cmp x0 (339 : Int64)) = 0 → mx_SX mY_X6_opensBody d 24 [] [] h Q) ∧ (¬ (lg_cmp x0 (339 : Int64)) = 0 → (((lg_cmp x0 (43523697 : Int64)) = 0 → mx_SX mY_X6_opensBody d 24 [] [] h Q) ∧ (¬ (lg_cmp x0 (43523697 : Int64)) = 0 → ((¬ (lg_cmp x0 (5667 : Int64)) = 0 → Q (.inl (some (.int (0 : Int32)))) h) ∧ ((lg_cmp x0 (5667 : Int64)) = 0 → mx_SX mY_X6_opensBody d 24 [] [] h Q))))))) : mx_SM mY_X6_opensBody d [.long x0] h Q := by
  refine mx_SM_of (by decide) (Nat.le_of_ble_eq_true rfl) ?_
  show mx_SX mY_X6_opensBody d 0 [(0, .long x0)] [] h Q
  refine mx_lload_n (pc := 0) 0 (mx_dd dd_X6_opensBody 0 (0, .lload_n 0, 1) rfl) rfl rfl ?_
  refine mx_ldc2 (pc := 1) mx_cL_X6_106 (mx_dd dd_X6_opensBody 1 (1, .ldc2_w 106, 3) rfl) ?_
  refine mx_lcmp (pc := 4) (mx_dd dd_X6_opensBody 2 (4, .lcmp, 1) rfl) ?_
  refine mx_if_eq (pc := 5) 24 (mx_dd dd_X6_opensBody 3 (5, .ifCond .eq 19, 3) rfl) rfl (fun c5 => ?_) (fun c5 => ?_)
  · have P := P.1 c5
    refine mx_sel [] rfl ?_
    exact P
  · have P := P.2 c5
    refine mx_lload_n (pc := 8) 0 (mx_dd dd_X6_opensBody 4 (8, .lload_n 0, 1) rfl) rfl rfl ?_
    refine mx_ldc2 (pc := 9) mx_cL_X6_108 (mx_dd dd_X6_opensBody 5 (9, .ldc2_w 108, 3) rfl) ?_
    refine mx_lcmp (pc := 12) (mx_dd dd_X6_opensBody 6 (12, .lcmp, 1) rfl) ?_
    refine mx_if_eq (pc := 13) 24 (mx_dd dd_X6_opensBody 7 (13, .ifCond .eq 11, 3) rfl) rfl (fun c13 => ?_) (fun c13 => ?_)
    · have P := P.1 c13
      refine mx_sel [] rfl ?_
      exact P
    · have P := P.2 c13
      refine mx_lload_n (pc := 16) 0 (mx_dd dd_X6_opensBody 8 (16, .lload_n 0, 1) rfl) rfl rfl ?_
      refine mx_ldc2 (pc := 17) mx_cL_X6_110 (mx_dd dd_X6_opensBody 9 (17, .ldc2_w 110, 3) rfl) ?_
      refine mx_lcmp (pc := 20) (mx_dd dd_X6_opensBody 10 (20, .lcmp, 1) rfl) ?_
      refine mx_if_ne (pc := 21) 28 (mx_dd dd_X6_opensBody 11 (21, .ifCond .ne 7, 3) rfl) rfl (fun c21 => ?_) (fun c21 => ?_)
      · have P := P.1 c21
        refine mx_iconst (pc := 28) (v := (0 : Int32)) (mx_dd dd_X6_opensBody 14 (28, .iconst 0, 1) rfl) (by decide) ?_
        exact mx_ireturn (pc := 29) (mx_dd dd_X6_opensBody 15 (29, .ireturn, 1) rfl) rfl rfl P
      · have P := P.2 c21
        refine mx_sel [] rfl ?_
        exact P
theorem b_X6_opensBody_24 {d : Nat} {h : mxH} {Q : mxRes → mxH → Prop} 
    (P : Q (.inl (some (.int (1 : Int32)))) h) : mx_SX mY_X6_opensBody d 24 [] [] h Q := by
  refine mx_iconst (pc := 24) (v := (1 : Int32)) (mx_dd dd_X6_opensBody 12 (24, .iconst 1, 1) rfl) (by decide) ?_
  refine mx_goto (pc := 25) 29 (mx_dd dd_X6_opensBody 13 (25, .goto 4, 3) rfl) rfl ?_
  exact mx_ireturn (pc := 29) (mx_dd dd_X6_opensBody 15 (29, .ireturn, 1) rfl) rfl rfl P
theorem b_X6_continuesBody {d : Nat} {h : mxH} {Q : mxRes → mxH → Prop} (x0 : Int64)
    (P : (((lg_cmp x0 (1024211 : Int64)) = 0 → mx_SX mY_X6_continuesBody d 40 [] [] h Q) ∧ (¬ (lg_cmp x0 (1024211 : Int64)) = 0 → (((lg_cmp x0 (270401 : Int64)) = 0 → mx_SX mY_X6_continuesBody d 40 [] [] h Q) ∧ (¬ (lg_cmp x0 (270401 : Int64)) = 0 → (((lg_cmp x0 (231 : Int64)) = 0 → mx_SX mY_X6_continuesBody d 40 [] [] h Q) ∧ (¬ (lg_cmp x0 (231 : Int64)) = 0 → (((lg_cmp x0 (163 : Int64)) = 0 → mx_SX mY_X6_continuesBody d 40 [] [] h Q) ∧ (¬ (lg_cmp x0 (163 : Int64)) = 0 → ((¬ (lg_cmp x0 (223670 : Int64)) = 0 → Q (.inl (some (.int (0 : Int32)))) h) ∧ ((lg_cmp x0 (223670 : Int64)) = 0 → mx_SX mY_X6_continuesBody d 40 [] [] h Q))))))))))) : mx_SM mY_X6_continuesBody d [.long x0] h Q := by
  refine mx_SM_of (by decide) (Nat.le_of_ble_eq_true rfl) ?_
  show mx_SX mY_X6_continuesBody d 0 [(0, .long x0)] [] h Q
  refine mx_lload_n (pc := 0) 0 (mx_dd dd_X6_continuesBody 0 (0, .lload_n 0, 1) rfl) rfl rfl ?_
  refine mx_ldc2 (pc := 1) mx_cL_X6_112 (mx_dd dd_X6_continuesBody 1 (1, .ldc2_w 112, 3) rfl) ?_
  refine mx_lcmp (pc := 4) (mx_dd dd_X6_continuesBody 2 (4, .lcmp, 1) rfl) ?_
  refine mx_if_eq (pc := 5) 40 (mx_dd dd_X6_continuesBody 3 (5, .ifCond .eq 35, 3) rfl) rfl (fun c5 => ?_) (fun c5 => ?_)
  · have P := P.1 c5
    refine mx_sel [] rfl ?_
    exact P
  · have P := P.2 c5
    refine mx_lload_n (pc := 8) 0 (mx_dd dd_X6_continuesBody 4 (8, .lload_n 0, 1) rfl) rfl rfl ?_
    refine mx_ldc2 (pc := 9) mx_cL_X6_114 (mx_dd dd_X6_continuesBody 5 (9, .ldc2_w 114, 3) rfl) ?_
    refine mx_lcmp (pc := 12) (mx_dd dd_X6_continuesBody 6 (12, .lcmp, 1) rfl) ?_
    refine mx_if_eq (pc := 13) 40 (mx_dd dd_X6_continuesBody 7 (13, .ifCond .eq 27, 3) rfl) rfl (fun c13 => ?_) (fun c13 => ?_)
    · have P := P.1 c13
      refine mx_sel [] rfl ?_
      exact P
    · have P := P.2 c13
      refine mx_lload_n (pc := 16) 0 (mx_dd dd_X6_continuesBody 8 (16, .lload_n 0, 1) rfl) rfl rfl ?_
      refine mx_ldc2 (pc := 17) mx_cL_X6_116 (mx_dd dd_X6_continuesBody 9 (17, .ldc2_w 116, 3) rfl) ?_
      refine mx_lcmp (pc := 20) (mx_dd dd_X6_continuesBody 10 (20, .lcmp, 1) rfl) ?_
      refine mx_if_eq (pc := 21) 40 (mx_dd dd_X6_continuesBody 11 (21, .ifCond .eq 19, 3) rfl) rfl (fun c21 => ?_) (fun c21 => ?_)
      · have P := P.1 c21
        refine mx_sel [] rfl ?_
        exact P
      · have P := P.2 c21
        refine mx_lload_n (pc := 24) 0 (mx_dd dd_X6_continuesBody 12 (24, .lload_n 0, 1) rfl) rfl rfl ?_
        refine mx_ldc2 (pc := 25) mx_cL_X6_118 (mx_dd dd_X6_continuesBody 13 (25, .ldc2_w 118, 3) rfl) ?_
        refine mx_lcmp (pc := 28) (mx_dd dd_X6_continuesBody 14 (28, .lcmp, 1) rfl) ?_
        refine mx_if_eq (pc := 29) 40 (mx_dd dd_X6_continuesBody 15 (29, .ifCond .eq 11, 3) rfl) rfl (fun c29 => ?_) (fun c29 => ?_)
        · have P := P.1 c29
          refine mx_sel [] rfl ?_
          exact P
        · have P := P.2 c29
          refine mx_lload_n (pc := 32) 0 (mx_dd dd_X6_continuesBody 16 (32, .lload_n 0, 1) rfl) rfl rfl ?_
          refine mx_ldc2 (pc := 33) mx_cL_X6_120 (mx_dd dd_X6_continuesBody 17 (33, .ldc2_w 120, 3) rfl) ?_
          refine mx_lcmp (pc := 36) (mx_dd dd_X6_continuesBody 18 (36, .lcmp, 1) rfl) ?_
          refine mx_if_ne (pc := 37) 44 (mx_dd dd_X6_continuesBody 19 (37, .ifCond .ne 7, 3) rfl) rfl (fun c37 => ?_) (fun c37 => ?_)
          · have P := P.1 c37
            refine mx_iconst (pc := 44) (v := (0 : Int32)) (mx_dd dd_X6_continuesBody 22 (44, .iconst 0, 1) rfl) (by decide) ?_
            exact mx_ireturn (pc := 45) (mx_dd dd_X6_continuesBody 23 (45, .ireturn, 1) rfl) rfl rfl P
          · have P := P.2 c37
            refine mx_sel [] rfl ?_
            exact P
theorem b_X6_continuesBody_40 {d : Nat} {h : mxH} {Q : mxRes → mxH → Prop} 
    (P : Q (.inl (some (.int (1 : Int32)))) h) : mx_SX mY_X6_continuesBody d 40 [] [] h Q := by
  refine mx_iconst (pc := 40) (v := (1 : Int32)) (mx_dd dd_X6_continuesBody 20 (40, .iconst 1, 1) rfl) (by decide) ?_
  refine mx_goto (pc := 41) 45 (mx_dd dd_X6_continuesBody 21 (41, .goto 4, 3) rfl) rfl ?_
  exact mx_ireturn (pc := 45) (mx_dd dd_X6_continuesBody 23 (45, .ireturn, 1) rfl) rfl rfl P
theorem b_X6_isDigit {d : Nat} {h : mxH} {Q : mxRes → mxH → Prop} (x0 : Nat)
    (P : hpK h x0 = 6 ∧ 1 ≤ d ∧ mx_SM mY_X6_byteAt (d - 1) [.ref x0, .int (hpI h x0 4)] h (mx_KI (fun v1 h1 => hpK h1 x0 = 6 ∧ ((¬ (hpI h1 x0 3) = (1 : Int32) → Q (.inl (some (.int (0 : Int32)))) h1) ∧ ((hpI h1 x0 3) = (1 : Int32) → ((¬ (hpI h1 x0 5) = ((hpI h1 x0 4) + (1 : Int32)) → Q (.inl (some (.int (0 : Int32)))) h1) ∧ ((hpI h1 x0 5) = ((hpI h1 x0 4) + (1 : Int32)) → ((v1 < (48 : Int32) → Q (.inl (some (.int (0 : Int32)))) h1) ∧ (¬ v1 < (48 : Int32) → (((57 : Int32) < v1 → Q (.inl (some (.int (0 : Int32)))) h1) ∧ (¬ (57 : Int32) < v1 → Q (.inl (some (.int (1 : Int32)))) h1))))))))) (mx_XX mY_X6_isDigit Q))) : mx_SM mY_X6_isDigit d [.ref x0] h Q := by
  refine mx_SM_of (by decide) (Nat.le_of_ble_eq_true rfl) ?_
  show mx_SX mY_X6_isDigit d 0 [(0, .ref x0)] [] h Q
  refine mx_aload_n (pc := 0) 0 (mx_dd dd_X6_isDigit 0 (0, .aload_n 0, 1) rfl) rfl rfl ?_
  refine mx_aload_n (pc := 1) 0 (mx_dd dd_X6_isDigit 1 (1, .aload_n 0, 1) rfl) rfl rfl ?_
  obtain ⟨g1, P⟩ := P
  refine mx_getI (pc := 2) mx_fl_X6_57 g1 rfl (mx_dd dd_X6_isDigit 2 (2, .getfield 57, 3) rfl) ?_
  obtain ⟨g2, P⟩ := P
  refine mx_cVI (pc := 5) (Y := mY_X6_byteAt) (As := [.int (hpI h x0 4)]) mx_ml_X6_67 mx_y_X6_byteAt rfl g1 (by decide) rfl (by decide) rfl (mx_dd dd_X6_isDigit 3 (5, .invokevirtual 67, 3) rfl) g2 (by decide) P (fun v1 h1 P => ?_)
  refine mx_istore_n (pc := 8) (mx_dd dd_X6_isDigit 4 (8, .istore_n 1, 1) rfl) rfl (by decide) (lv' := [(1, _), (0, _)]) rfl ?_
  refine mx_aload_n (pc := 9) 1 (mx_dd dd_X6_isDigit 5 (9, .aload_n 0, 1) rfl) rfl rfl ?_
  obtain ⟨g3, P⟩ := P
  refine mx_getI (pc := 10) mx_fl_X6_74 g3 rfl (mx_dd dd_X6_isDigit 6 (10, .getfield 74, 3) rfl) ?_
  refine mx_iconst (pc := 13) (v := (1 : Int32)) (mx_dd dd_X6_isDigit 7 (13, .iconst 1, 1) rfl) (by decide) ?_
  refine mx_icmp_ne (pc := 14) 46 (mx_dd dd_X6_isDigit 8 (14, .if_icmp .ne 32, 3) rfl) rfl (fun c14 => ?_) (fun c14 => ?_)
  · have P := P.1 c14
    refine mx_iconst (pc := 46) (v := (0 : Int32)) (mx_dd dd_X6_isDigit 24 (46, .iconst 0, 1) rfl) (by decide) ?_
    exact mx_ireturn (pc := 47) (mx_dd dd_X6_isDigit 25 (47, .ireturn, 1) rfl) rfl rfl P
  · have P := P.2 c14
    refine mx_aload_n (pc := 17) 1 (mx_dd dd_X6_isDigit 9 (17, .aload_n 0, 1) rfl) rfl rfl ?_
    refine mx_getI (pc := 18) mx_fl_X6_35 g3 rfl (mx_dd dd_X6_isDigit 10 (18, .getfield 35, 3) rfl) ?_
    refine mx_aload_n (pc := 21) 1 (mx_dd dd_X6_isDigit 11 (21, .aload_n 0, 1) rfl) rfl rfl ?_
    refine mx_getI (pc := 22) mx_fl_X6_57 g3 rfl (mx_dd dd_X6_isDigit 12 (22, .getfield 57, 3) rfl) ?_
    refine mx_iconst (pc := 25) (v := (1 : Int32)) (mx_dd dd_X6_isDigit 13 (25, .iconst 1, 1) rfl) (by decide) ?_
    refine mx_iadd (pc := 26) (mx_dd dd_X6_isDigit 14 (26, .iadd, 1) rfl) ?_
    refine mx_icmp_ne (pc := 27) 46 (mx_dd dd_X6_isDigit 15 (27, .if_icmp .ne 19, 3) rfl) rfl (fun c27 => ?_) (fun c27 => ?_)
    · have P := P.1 c27
      refine mx_iconst (pc := 46) (v := (0 : Int32)) (mx_dd dd_X6_isDigit 24 (46, .iconst 0, 1) rfl) (by decide) ?_
      exact mx_ireturn (pc := 47) (mx_dd dd_X6_isDigit 25 (47, .ireturn, 1) rfl) rfl rfl P
    · have P := P.2 c27
      refine mx_iload_n (pc := 30) 0 (mx_dd dd_X6_isDigit 16 (30, .iload_n 1, 1) rfl) rfl rfl ?_
      refine mx_bipush (pc := 31) (v := (48 : Int32)) (mx_dd dd_X6_isDigit 17 (31, .bipush 48, 2) rfl) (by decide) ?_
      refine mx_icmp_lt (pc := 33) 46 (mx_dd dd_X6_isDigit 18 (33, .if_icmp .lt 13, 3) rfl) rfl (fun c33 => ?_) (fun c33 => ?_)
      · have P := P.1 c33
        refine mx_iconst (pc := 46) (v := (0 : Int32)) (mx_dd dd_X6_isDigit 24 (46, .iconst 0, 1) rfl) (by decide) ?_
        exact mx_ireturn (pc := 47) (mx_dd dd_X6_isDigit 25 (47, .ireturn, 1) rfl) rfl rfl P
      · have P := P.2 c33
        refine mx_iload_n (pc := 36) 0 (mx_dd dd_X6_isDigit 19 (36, .iload_n 1, 1) rfl) rfl rfl ?_
        refine mx_bipush (pc := 37) (v := (57 : Int32)) (mx_dd dd_X6_isDigit 20 (37, .bipush 57, 2) rfl) (by decide) ?_
        refine mx_icmp_gt (pc := 39) 46 (mx_dd dd_X6_isDigit 21 (39, .if_icmp .gt 7, 3) rfl) rfl (fun c39 => ?_) (fun c39 => ?_)
        · have P := P.1 c39
          refine mx_iconst (pc := 46) (v := (0 : Int32)) (mx_dd dd_X6_isDigit 24 (46, .iconst 0, 1) rfl) (by decide) ?_
          exact mx_ireturn (pc := 47) (mx_dd dd_X6_isDigit 25 (47, .ireturn, 1) rfl) rfl rfl P
        · have P := P.2 c39
          refine mx_iconst (pc := 42) (v := (1 : Int32)) (mx_dd dd_X6_isDigit 22 (42, .iconst 1, 1) rfl) (by decide) ?_
          refine mx_goto (pc := 43) 47 (mx_dd dd_X6_isDigit 23 (43, .goto 4, 3) rfl) rfl ?_
          exact mx_ireturn (pc := 47) (mx_dd dd_X6_isDigit 25 (47, .ireturn, 1) rfl) rfl rfl P
theorem b_X6_digit {d : Nat} {h : mxH} {Q : mxRes → mxH → Prop} (x0 : Nat)
    (P : hpK h x0 = 6 ∧ 1 ≤ d ∧ mx_SM mY_X6_byteAt (d - 1) [.ref x0, .int (hpI h x0 4)] h (mx_KI (fun v1 h1 => (((v1 - (48 : Int32)) < 0 → Q (.inl (some (.int (0 : Int32)))) h1) ∧ (¬ (v1 - (48 : Int32)) < 0 → (((10 : Int32) ≤ (v1 - (48 : Int32)) → Q (.inl (some (.int (0 : Int32)))) h1) ∧ (¬ (10 : Int32) ≤ (v1 - (48 : Int32)) → Q (.inl (some (.int (v1 - (48 : Int32))))) h1))))) (mx_XX mY_X6_digit Q))) : mx_SM mY_X6_digit d [.ref x0] h Q := by
  refine mx_SM_of (by decide) (Nat.le_of_ble_eq_true rfl) ?_
  show mx_SX mY_X6_digit d 0 [(0, .ref x0)] [] h Q
  refine mx_aload_n (pc := 0) 0 (mx_dd dd_X6_digit 0 (0, .aload_n 0, 1) rfl) rfl rfl ?_
  refine mx_aload_n (pc := 1) 0 (mx_dd dd_X6_digit 1 (1, .aload_n 0, 1) rfl) rfl rfl ?_
  obtain ⟨g1, P⟩ := P
  refine mx_getI (pc := 2) mx_fl_X6_57 g1 rfl (mx_dd dd_X6_digit 2 (2, .getfield 57, 3) rfl) ?_
  obtain ⟨g2, P⟩ := P
  refine mx_cVI (pc := 5) (Y := mY_X6_byteAt) (As := [.int (hpI h x0 4)]) mx_ml_X6_67 mx_y_X6_byteAt rfl g1 (by decide) rfl (by decide) rfl (mx_dd dd_X6_digit 3 (5, .invokevirtual 67, 3) rfl) g2 (by decide) P (fun v1 h1 P => ?_)
  refine mx_bipush (pc := 8) (v := (48 : Int32)) (mx_dd dd_X6_digit 4 (8, .bipush 48, 2) rfl) (by decide) ?_
  refine mx_isub (pc := 10) (mx_dd dd_X6_digit 5 (10, .isub, 1) rfl) ?_
  refine mx_istore_n (pc := 11) (mx_dd dd_X6_digit 6 (11, .istore_n 1, 1) rfl) rfl (by decide) (lv' := [(1, _), (0, _)]) rfl ?_
  refine mx_iload_n (pc := 12) 0 (mx_dd dd_X6_digit 7 (12, .iload_n 1, 1) rfl) rfl rfl ?_
  refine mx_if_lt (pc := 13) 26 (mx_dd dd_X6_digit 8 (13, .ifCond .lt 13, 3) rfl) rfl (fun c13 => ?_) (fun c13 => ?_)
  · have P := P.1 c13
    refine mx_iconst (pc := 26) (v := (0 : Int32)) (mx_dd dd_X6_digit 14 (26, .iconst 0, 1) rfl) (by decide) ?_
    exact mx_ireturn (pc := 27) (mx_dd dd_X6_digit 15 (27, .ireturn, 1) rfl) rfl rfl P
  · have P := P.2 c13
    refine mx_iload_n (pc := 16) 0 (mx_dd dd_X6_digit 9 (16, .iload_n 1, 1) rfl) rfl rfl ?_
    refine mx_bipush (pc := 17) (v := (10 : Int32)) (mx_dd dd_X6_digit 10 (17, .bipush 10, 2) rfl) (by decide) ?_
    refine mx_icmp_ge (pc := 19) 26 (mx_dd dd_X6_digit 11 (19, .if_icmp .ge 7, 3) rfl) rfl (fun c19 => ?_) (fun c19 => ?_)
    · have P := P.1 c19
      refine mx_iconst (pc := 26) (v := (0 : Int32)) (mx_dd dd_X6_digit 14 (26, .iconst 0, 1) rfl) (by decide) ?_
      exact mx_ireturn (pc := 27) (mx_dd dd_X6_digit 15 (27, .ireturn, 1) rfl) rfl rfl P
    · have P := P.2 c19
      refine mx_iload_n (pc := 22) 0 (mx_dd dd_X6_digit 12 (22, .iload_n 1, 1) rfl) rfl rfl ?_
      refine mx_goto (pc := 23) 27 (mx_dd dd_X6_digit 13 (23, .goto 4, 3) rfl) rfl ?_
      exact mx_ireturn (pc := 27) (mx_dd dd_X6_digit 15 (27, .ireturn, 1) rfl) rfl rfl P
theorem b_X6_script {d : Nat} {h : mxH} {Q : mxRes → mxH → Prop} (x0 : Nat) (x1 : Int32)
    (P : mx_SX mY_X6_script d 2 [(0, .ref x0), (1, .int x1), (2, .int (0 : Int32))] [] h Q) : mx_SM mY_X6_script d [.ref x0, .int x1] h Q := by
  refine mx_SM_of (by decide) (Nat.le_of_ble_eq_true rfl) ?_
  show mx_SX mY_X6_script d 0 [(0, .ref x0), (1, .int x1)] [] h Q
  refine mx_iconst (pc := 0) (v := (0 : Int32)) (mx_dd dd_X6_script 0 (0, .iconst 0, 1) rfl) (by decide) ?_
  refine mx_istore_n (pc := 1) (mx_dd dd_X6_script 1 (1, .istore_n 2, 1) rfl) rfl (by decide) (lv' := [(2, _), (0, _), (1, _)]) rfl ?_
  refine mx_sel [1, 2, 0] rfl ?_
  exact P
theorem b_X6_script_2 {d : Nat} {h : mxH} {Q : mxRes → mxH → Prop} (x0 : Nat) (x1 : Int32) (x2 : Int32)
    (P : (((700 : Int32) ≤ x2 → mx_SX mY_X6_script d 27 [(0, .ref x0), (2, .int x2)] [] h Q) ∧ (¬ (700 : Int32) ≤ x2 → 1 ≤ d ∧ hpK h x0 = 6 ∧ mx_SM mY_X6_startsChain (d - 1) [.ref x0] h (mx_KI (fun v1 h1 => ((v1 = 0 → mx_SX mY_X6_script d 27 [(0, .ref x0), (2, .int x2)] [] h1 Q) ∧ (¬ v1 = 0 → hpK h1 x0 = 6 ∧ mx_SM mY_X6_scriptChain (d - 1) [.ref x0, .int x1] h1 (mx_KV (fun h2 => mx_SX mY_X6_script d 2 [(0, .ref x0), (1, .int x1), (2, .int (x2 + (1 : Int32)))] [] h2 Q) (mx_XX mY_X6_script Q))))) (mx_XX mY_X6_script Q))))) : mx_SX mY_X6_script d 2 [(0, .ref x0), (1, .int x1), (2, .int x2)] [] h Q := by
  refine mx_iload_n (pc := 2) 2 (mx_dd dd_X6_script 2 (2, .iload_n 2, 1) rfl) rfl rfl ?_
  refine mx_sipush (pc := 3) (v := (700 : Int32)) (mx_dd dd_X6_script 3 (3, .sipush 700, 3) rfl) (by decide) ?_
  refine mx_icmp_ge (pc := 6) 27 (mx_dd dd_X6_script 4 (6, .if_icmp .ge 21, 3) rfl) rfl (fun c6 => ?_) (fun c6 => ?_)
  · have P := P.1 c6
    refine mx_sel [0, 2] rfl ?_
    exact P
  · have P := P.2 c6
    refine mx_aload_n (pc := 9) 0 (mx_dd dd_X6_script 5 (9, .aload_n 0, 1) rfl) rfl rfl ?_
    obtain ⟨g1, P⟩ := P
    obtain ⟨g2, P⟩ := P
    refine mx_cVI (pc := 10) (Y := mY_X6_startsChain) (As := []) mx_ml_X6_122 mx_y_X6_startsChain rfl g2 (by decide) rfl (by decide) rfl (mx_dd dd_X6_script 6 (10, .invokevirtual 122, 3) rfl) g1 (by decide) P (fun v1 h1 P => ?_)
    refine mx_if_eq (pc := 13) 27 (mx_dd dd_X6_script 7 (13, .ifCond .eq 14, 3) rfl) rfl (fun c13 => ?_) (fun c13 => ?_)
    · have P := P.1 c13
      refine mx_sel [0, 2] rfl ?_
      exact P
    · have P := P.2 c13
      refine mx_aload_n (pc := 16) 0 (mx_dd dd_X6_script 8 (16, .aload_n 0, 1) rfl) rfl rfl ?_
      refine mx_iload_n (pc := 17) 1 (mx_dd dd_X6_script 9 (17, .iload_n 1, 1) rfl) rfl rfl ?_
      obtain ⟨g3, P⟩ := P
      refine mx_cVV (pc := 18) (Y := mY_X6_scriptChain) (As := [.int x1]) mx_ml_X6_126 mx_y_X6_scriptChain rfl g3 (by decide) rfl (by decide) rfl (mx_dd dd_X6_script 10 (18, .invokevirtual 126, 3) rfl) g1 (by decide) P (fun h2 P => ?_)
      refine mx_iinc (pc := 21) 2 (mx_dd dd_X6_script 11 (21, .iinc 2 1, 3) rfl) rfl (mx_kadd (by decide : Int32.ofInt 1 = (1 : Int32))) (by decide) (lv' := [(2, _), (0, _), (1, _)]) rfl ?_
      refine mx_goto (pc := 24) 2 (mx_dd dd_X6_script 12 (24, .goto (-22), 3) rfl) rfl ?_
      refine mx_sel [1, 2, 0] rfl ?_
      exact P
theorem b_X6_script_27 {d : Nat} {h : mxH} {Q : mxRes → mxH → Prop} (x0 : Nat) (x2 : Int32)
    (P : ((¬ x2 = 0 → Q (.inl (some (.int x2))) h) ∧ (x2 = 0 → hpK h x0 = 6 ∧ ∃ b1 : Nat, hpR h x0 2 = some b1 ∧ 1 ≤ d ∧ hpK h b1 = 7 ∧ mx_SM mY_X7_emit (d - 1) [.ref b1, .int (7 : Int32)] h (mx_KI (fun v1 h1 => Q (.inl (some (.int x2))) h1) (mx_XX mY_X6_script Q))))) : mx_SX mY_X6_script d 27 [(0, .ref x0), (2, .int x2)] [] h Q := by
  refine mx_iload_n (pc := 27) 1 (mx_dd dd_X6_script 13 (27, .iload_n 2, 1) rfl) rfl rfl ?_
  refine mx_if_ne (pc := 28) 41 (mx_dd dd_X6_script 14 (28, .ifCond .ne 13, 3) rfl) rfl (fun c28 => ?_) (fun c28 => ?_)
  · have P := P.1 c28
    refine mx_iload_n (pc := 41) 1 (mx_dd dd_X6_script 20 (41, .iload_n 2, 1) rfl) rfl rfl ?_
    exact mx_ireturn (pc := 42) (mx_dd dd_X6_script 21 (42, .ireturn, 1) rfl) rfl rfl P
  · have P := P.2 c28
    refine mx_aload_n (pc := 31) 0 (mx_dd dd_X6_script 15 (31, .aload_n 0, 1) rfl) rfl rfl ?_
    obtain ⟨g1, P⟩ := P
    obtain ⟨b1, g2, P⟩ := P
    refine mx_getR (pc := 32) mx_fl_X6_28 g1 rfl g2 (mx_dd dd_X6_script 16 (32, .getfield 28, 3) rfl) ?_
    refine mx_bipush (pc := 35) (v := (7 : Int32)) (mx_dd dd_X6_script 17 (35, .bipush 7, 2) rfl) (by decide) ?_
    obtain ⟨g3, P⟩ := P
    obtain ⟨g4, P⟩ := P
    refine mx_cVI (pc := 37) (Y := mY_X7_emit) (As := [.int (7 : Int32)]) mx_ml_X6_54 mx_y_X7_emit rfl g4 (by decide) rfl (by decide) rfl (mx_dd dd_X6_script 18 (37, .invokevirtual 54, 3) rfl) g3 (by decide) P (fun v1 h1 P => ?_)
    refine mx_pop (pc := 40) (mx_dd dd_X6_script 19 (40, .pop, 1) rfl) rfl ?_
    refine mx_iload_n (pc := 41) 1 (mx_dd dd_X6_script 20 (41, .iload_n 2, 1) rfl) rfl rfl ?_
    exact mx_ireturn (pc := 42) (mx_dd dd_X6_script 21 (42, .ireturn, 1) rfl) rfl rfl P
theorem b_X6_startsChain {d : Nat} {h : mxH} {Q : mxRes → mxH → Prop} (x0 : Nat)
    (P : hpK h x0 = 6 ∧ ((¬ (hpI h x0 3) = (1 : Int32) → (((hpI h x0 3) = (33 : Int32) → mx_SX mY_X6_startsChain d 51 [] [] h Q) ∧ (¬ (hpI h x0 3) = (33 : Int32) → (((hpI h x0 3) = (40 : Int32) → mx_SX mY_X6_startsChain d 51 [] [] h Q) ∧ (¬ (hpI h x0 3) = (40 : Int32) → ((¬ (hpI h x0 3) = (123 : Int32) → Q (.inl (some (.int (0 : Int32)))) h) ∧ ((hpI h x0 3) = (123 : Int32) → mx_SX mY_X6_startsChain d 51 [] [] h Q))))))) ∧ ((hpI h x0 3) = (1 : Int32) → 1 ≤ d ∧ mx_SM mY_X6_continuesBody (d - 1) [.long (hpL h x0 6)] h (mx_KI (fun v1 h1 => ((¬ v1 = 0 → Q (.inl (some (.int (0 : Int32)))) h1) ∧ (v1 = 0 → Q (.inl (some (.int (1 : Int32)))) h1))) (mx_XX mY_X6_startsChain Q))))) : mx_SM mY_X6_startsChain d [.ref x0] h Q := by
  refine mx_SM_of (by decide) (Nat.le_of_ble_eq_true rfl) ?_
  show mx_SX mY_X6_startsChain d 0 [(0, .ref x0)] [] h Q
  refine mx_aload_n (pc := 0) 0 (mx_dd dd_X6_startsChain 0 (0, .aload_n 0, 1) rfl) rfl rfl ?_
  obtain ⟨g1, P⟩ := P
  refine mx_getI (pc := 1) mx_fl_X6_74 g1 rfl (mx_dd dd_X6_startsChain 1 (1, .getfield 74, 3) rfl) ?_
  refine mx_iconst (pc := 4) (v := (1 : Int32)) (mx_dd dd_X6_startsChain 2 (4, .iconst 1, 1) rfl) (by decide) ?_
  refine mx_icmp_ne (pc := 5) 24 (mx_dd dd_X6_startsChain 3 (5, .if_icmp .ne 19, 3) rfl) rfl (fun c5 => ?_) (fun c5 => ?_)
  · have P := P.1 c5
    refine mx_aload_n (pc := 24) 0 (mx_dd dd_X6_startsChain 12 (24, .aload_n 0, 1) rfl) rfl rfl ?_
    refine mx_getI (pc := 25) mx_fl_X6_74 g1 rfl (mx_dd dd_X6_startsChain 13 (25, .getfield 74, 3) rfl) ?_
    refine mx_bipush (pc := 28) (v := (33 : Int32)) (mx_dd dd_X6_startsChain 14 (28, .bipush 33, 2) rfl) (by decide) ?_
    refine mx_icmp_eq (pc := 30) 51 (mx_dd dd_X6_startsChain 15 (30, .if_icmp .eq 21, 3) rfl) rfl (fun c30 => ?_) (fun c30 => ?_)
    · have P := P.1 c30
      refine mx_sel [] rfl ?_
      exact P
    · have P := P.2 c30
      refine mx_aload_n (pc := 33) 0 (mx_dd dd_X6_startsChain 16 (33, .aload_n 0, 1) rfl) rfl rfl ?_
      refine mx_getI (pc := 34) mx_fl_X6_74 g1 rfl (mx_dd dd_X6_startsChain 17 (34, .getfield 74, 3) rfl) ?_
      refine mx_bipush (pc := 37) (v := (40 : Int32)) (mx_dd dd_X6_startsChain 18 (37, .bipush 40, 2) rfl) (by decide) ?_
      refine mx_icmp_eq (pc := 39) 51 (mx_dd dd_X6_startsChain 19 (39, .if_icmp .eq 12, 3) rfl) rfl (fun c39 => ?_) (fun c39 => ?_)
      · have P := P.1 c39
        refine mx_sel [] rfl ?_
        exact P
      · have P := P.2 c39
        refine mx_aload_n (pc := 42) 0 (mx_dd dd_X6_startsChain 20 (42, .aload_n 0, 1) rfl) rfl rfl ?_
        refine mx_getI (pc := 43) mx_fl_X6_74 g1 rfl (mx_dd dd_X6_startsChain 21 (43, .getfield 74, 3) rfl) ?_
        refine mx_bipush (pc := 46) (v := (123 : Int32)) (mx_dd dd_X6_startsChain 22 (46, .bipush 123, 2) rfl) (by decide) ?_
        refine mx_icmp_ne (pc := 48) 55 (mx_dd dd_X6_startsChain 23 (48, .if_icmp .ne 7, 3) rfl) rfl (fun c48 => ?_) (fun c48 => ?_)
        · have P := P.1 c48
          refine mx_iconst (pc := 55) (v := (0 : Int32)) (mx_dd dd_X6_startsChain 26 (55, .iconst 0, 1) rfl) (by decide) ?_
          exact mx_ireturn (pc := 56) (mx_dd dd_X6_startsChain 27 (56, .ireturn, 1) rfl) rfl rfl P
        · have P := P.2 c48
          refine mx_sel [] rfl ?_
          exact P
  · have P := P.2 c5
    refine mx_aload_n (pc := 8) 0 (mx_dd dd_X6_startsChain 4 (8, .aload_n 0, 1) rfl) rfl rfl ?_
    refine mx_getL (pc := 9) mx_fl_X6_87 g1 rfl (mx_dd dd_X6_startsChain 5 (9, .getfield 87, 3) rfl) ?_
    obtain ⟨g2, P⟩ := P
    refine mx_cSI (pc := 12) (Y := mY_X6_continuesBody) (As := [.long (hpL h x0 6)]) mx_ml_X6_129 mx_y_X6_continuesBody rfl rfl (by decide) rfl (mx_dd dd_X6_startsChain 6 (12, .invokestatic 129, 3) rfl) g2 (by decide) P (fun v1 h1 P => ?_)
    refine mx_if_ne (pc := 15) 22 (mx_dd dd_X6_startsChain 7 (15, .ifCond .ne 7, 3) rfl) rfl (fun c15 => ?_) (fun c15 => ?_)
    · have P := P.1 c15
      refine mx_iconst (pc := 22) (v := (0 : Int32)) (mx_dd dd_X6_startsChain 10 (22, .iconst 0, 1) rfl) (by decide) ?_
      exact mx_ireturn (pc := 23) (mx_dd dd_X6_startsChain 11 (23, .ireturn, 1) rfl) rfl rfl P
    · have P := P.2 c15
      refine mx_iconst (pc := 18) (v := (1 : Int32)) (mx_dd dd_X6_startsChain 8 (18, .iconst 1, 1) rfl) (by decide) ?_
      refine mx_goto (pc := 19) 23 (mx_dd dd_X6_startsChain 9 (19, .goto 4, 3) rfl) rfl ?_
      exact mx_ireturn (pc := 23) (mx_dd dd_X6_startsChain 11 (23, .ireturn, 1) rfl) rfl rfl P
theorem b_X6_startsChain_51 {d : Nat} {h : mxH} {Q : mxRes → mxH → Prop} 
    (P : Q (.inl (some (.int (1 : Int32)))) h) : mx_SX mY_X6_startsChain d 51 [] [] h Q := by
  refine mx_iconst (pc := 51) (v := (1 : Int32)) (mx_dd dd_X6_startsChain 24 (51, .iconst 1, 1) rfl) (by decide) ?_
  refine mx_goto (pc := 52) 56 (mx_dd dd_X6_startsChain 25 (52, .goto 4, 3) rfl) rfl ?_
  exact mx_ireturn (pc := 56) (mx_dd dd_X6_startsChain 27 (56, .ireturn, 1) rfl) rfl rfl P
theorem b_X6_scriptChain {d : Nat} {h : mxH} {Q : mxRes → mxH → Prop} (x0 : Nat) (x1 : Int32)
    (P : hpK h x0 = 6 ∧ ∃ b1 : Nat, hpR h x0 2 = some b1 ∧ 1 ≤ d ∧ hpK h b1 = 7 ∧ mx_SM mY_X7_emit (d - 1) [.ref b1, .int (0 : Int32)] h (mx_KI (fun v1 h1 => hpK h1 x0 = 6 ∧ mx_SM mY_X6_chain (d - 1) [.ref x0, .int x1] h1 (mx_KV (fun h2 => hpK h2 x0 = 6 ∧ ((¬ (hpI h2 x0 3) = (38 : Int32) → mx_SM mY_X6_expect (d - 1) [.ref x0, .int (59 : Int32)] h2 (mx_KV (fun h3 => Q (.inl none) h3) (mx_XX mY_X6_scriptChain Q))) ∧ ((hpI h2 x0 3) = (38 : Int32) → ∃ b2 : Nat, hpR h2 x0 2 = some b2 ∧ hpK h2 b2 = 7 ∧ mx_SM mY_X7_become (d - 1) [.ref b2, .int v1, .int (16 : Int32)] h2 (mx_KV (fun h4 => hpK h4 x0 = 6 ∧ ∃ b3 : Nat, hpR h4 x0 2 = some b3 ∧ hpK h4 b3 = 7 ∧ mx_SM mY_X7_emit (d - 1) [.ref b3, .int (21 : Int32)] h4 (mx_KI (fun v2 h5 => hpK h5 x0 = 6 ∧ ∃ b4 : Nat, hpR h5 x0 2 = some b4 ∧ hpK h5 b4 = 7 ∧ mx_SM mY_X7_aim (d - 1) [.ref b4, .int v1, .int (hpI h5 b4 3)] h5 (mx_KV (fun h6 => hpK h6 x0 = 6 ∧ mx_SM mY_X6_advance (d - 1) [.ref x0] h6 (mx_KV (fun h7 => Q (.inl none) h7) (mx_XX mY_X6_scriptChain Q))) (mx_XX mY_X6_scriptChain Q))) (mx_XX mY_X6_scriptChain Q))) (mx_XX mY_X6_scriptChain Q))))) (mx_XX mY_X6_scriptChain Q))) (mx_XX mY_X6_scriptChain Q))) : mx_SM mY_X6_scriptChain d [.ref x0, .int x1] h Q := by
  refine mx_SM_of (by decide) (Nat.le_of_ble_eq_true rfl) ?_
  show mx_SX mY_X6_scriptChain d 0 [(0, .ref x0), (1, .int x1)] [] h Q
  refine mx_aload_n (pc := 0) 0 (mx_dd dd_X6_scriptChain 0 (0, .aload_n 0, 1) rfl) rfl rfl ?_
  obtain ⟨g1, P⟩ := P
  obtain ⟨b1, g2, P⟩ := P
  refine mx_getR (pc := 1) mx_fl_X6_28 g1 rfl g2 (mx_dd dd_X6_scriptChain 1 (1, .getfield 28, 3) rfl) ?_
  refine mx_iconst (pc := 4) (v := (0 : Int32)) (mx_dd dd_X6_scriptChain 2 (4, .iconst 0, 1) rfl) (by decide) ?_
  obtain ⟨g3, P⟩ := P
  obtain ⟨g4, P⟩ := P
  refine mx_cVI (pc := 5) (Y := mY_X7_emit) (As := [.int (0 : Int32)]) mx_ml_X6_54 mx_y_X7_emit rfl g4 (by decide) rfl (by decide) rfl (mx_dd dd_X6_scriptChain 3 (5, .invokevirtual 54, 3) rfl) g3 (by decide) P (fun v1 h1 P => ?_)
  refine mx_istore_n (pc := 8) (mx_dd dd_X6_scriptChain 4 (8, .istore_n 2, 1) rfl) rfl (by decide) (lv' := [(2, _), (0, _), (1, _)]) rfl ?_
  refine mx_aload_n (pc := 9) 1 (mx_dd dd_X6_scriptChain 5 (9, .aload_n 0, 1) rfl) rfl rfl ?_
  refine mx_iload_n (pc := 10) 2 (mx_dd dd_X6_scriptChain 6 (10, .iload_n 1, 1) rfl) rfl rfl ?_
  obtain ⟨g5, P⟩ := P
  refine mx_cVV (pc := 11) (Y := mY_X6_chain) (As := [.int x1]) mx_ml_X6_132 mx_y_X6_chain rfl g5 (by decide) rfl (by decide) rfl (mx_dd dd_X6_scriptChain 7 (11, .invokevirtual 132, 3) rfl) g3 (by decide) P (fun h2 P => ?_)
  refine mx_aload_n (pc := 14) 1 (mx_dd dd_X6_scriptChain 8 (14, .aload_n 0, 1) rfl) rfl rfl ?_
  obtain ⟨g6, P⟩ := P
  refine mx_getI (pc := 15) mx_fl_X6_74 g6 rfl (mx_dd dd_X6_scriptChain 9 (15, .getfield 74, 3) rfl) ?_
  refine mx_bipush (pc := 18) (v := (38 : Int32)) (mx_dd dd_X6_scriptChain 10 (18, .bipush 38, 2) rfl) (by decide) ?_
  refine mx_icmp_ne (pc := 20) 65 (mx_dd dd_X6_scriptChain 11 (20, .if_icmp .ne 45, 3) rfl) rfl (fun c20 => ?_) (fun c20 => ?_)
  · have P := P.1 c20
    refine mx_aload_n (pc := 65) 1 (mx_dd dd_X6_scriptChain 32 (65, .aload_n 0, 1) rfl) rfl rfl ?_
    refine mx_bipush (pc := 66) (v := (59 : Int32)) (mx_dd dd_X6_scriptChain 33 (66, .bipush 59, 2) rfl) (by decide) ?_
    refine mx_cVV (pc := 68) (Y := mY_X6_expect) (As := [.int (59 : Int32)]) mx_ml_X6_50 mx_y_X6_expect rfl g6 (by decide) rfl (by decide) rfl (mx_dd dd_X6_scriptChain 34 (68, .invokevirtual 50, 3) rfl) g3 (by decide) P (fun h3 P => ?_)
    exact mx_return (pc := 71) (mx_dd dd_X6_scriptChain 35 (71, .return_, 1) rfl) rfl P
  · have P := P.2 c20
    refine mx_aload_n (pc := 23) 1 (mx_dd dd_X6_scriptChain 12 (23, .aload_n 0, 1) rfl) rfl rfl ?_
    obtain ⟨b2, g7, P⟩ := P
    refine mx_getR (pc := 24) mx_fl_X6_28 g6 rfl g7 (mx_dd dd_X6_scriptChain 13 (24, .getfield 28, 3) rfl) ?_
    refine mx_iload_n (pc := 27) 0 (mx_dd dd_X6_scriptChain 14 (27, .iload_n 2, 1) rfl) rfl rfl ?_
    refine mx_bipush (pc := 28) (v := (16 : Int32)) (mx_dd dd_X6_scriptChain 15 (28, .bipush 16, 2) rfl) (by decide) ?_
    obtain ⟨g8, P⟩ := P
    refine mx_cVV (pc := 30) (Y := mY_X7_become) (As := [.int v1, .int (16 : Int32)]) mx_ml_X6_135 mx_y_X7_become rfl g8 (by decide) rfl (by decide) rfl (mx_dd dd_X6_scriptChain 16 (30, .invokevirtual 135, 3) rfl) g3 (by decide) P (fun h4 P => ?_)
    refine mx_aload_n (pc := 33) 1 (mx_dd dd_X6_scriptChain 17 (33, .aload_n 0, 1) rfl) rfl rfl ?_
    obtain ⟨g9, P⟩ := P
    obtain ⟨b3, g10, P⟩ := P
    refine mx_getR (pc := 34) mx_fl_X6_28 g9 rfl g10 (mx_dd dd_X6_scriptChain 18 (34, .getfield 28, 3) rfl) ?_
    refine mx_bipush (pc := 37) (v := (21 : Int32)) (mx_dd dd_X6_scriptChain 19 (37, .bipush 21, 2) rfl) (by decide) ?_
    obtain ⟨g11, P⟩ := P
    refine mx_cVI (pc := 39) (Y := mY_X7_emit) (As := [.int (21 : Int32)]) mx_ml_X6_54 mx_y_X7_emit rfl g11 (by decide) rfl (by decide) rfl (mx_dd dd_X6_scriptChain 20 (39, .invokevirtual 54, 3) rfl) g3 (by decide) P (fun v2 h5 P => ?_)
    refine mx_pop (pc := 42) (mx_dd dd_X6_scriptChain 21 (42, .pop, 1) rfl) rfl ?_
    refine mx_aload_n (pc := 43) 1 (mx_dd dd_X6_scriptChain 22 (43, .aload_n 0, 1) rfl) rfl rfl ?_
    obtain ⟨g12, P⟩ := P
    obtain ⟨b4, g13, P⟩ := P
    refine mx_getR (pc := 44) mx_fl_X6_28 g12 rfl g13 (mx_dd dd_X6_scriptChain 23 (44, .getfield 28, 3) rfl) ?_
    refine mx_iload_n (pc := 47) 0 (mx_dd dd_X6_scriptChain 24 (47, .iload_n 2, 1) rfl) rfl rfl ?_
    refine mx_aload_n (pc := 48) 1 (mx_dd dd_X6_scriptChain 25 (48, .aload_n 0, 1) rfl) rfl rfl ?_
    refine mx_getR (pc := 49) mx_fl_X6_28 g12 rfl g13 (mx_dd dd_X6_scriptChain 26 (49, .getfield 28, 3) rfl) ?_
    obtain ⟨g14, P⟩ := P
    refine mx_getI (pc := 52) mx_fl_X6_138 g14 rfl (mx_dd dd_X6_scriptChain 27 (52, .getfield 138, 3) rfl) ?_
    refine mx_cVV (pc := 55) (Y := mY_X7_aim) (As := [.int v1, .int (hpI h5 b4 3)]) mx_ml_X6_141 mx_y_X7_aim rfl g14 (by decide) rfl (by decide) rfl (mx_dd dd_X6_scriptChain 28 (55, .invokevirtual 141, 3) rfl) g3 (by decide) P (fun h6 P => ?_)
    refine mx_aload_n (pc := 58) 1 (mx_dd dd_X6_scriptChain 29 (58, .aload_n 0, 1) rfl) rfl rfl ?_
    obtain ⟨g15, P⟩ := P
    refine mx_cVV (pc := 59) (Y := mY_X6_advance) (As := []) mx_ml_X6_43 mx_y_X6_advance rfl g15 (by decide) rfl (by decide) rfl (mx_dd dd_X6_scriptChain 30 (59, .invokevirtual 43, 3) rfl) g3 (by decide) P (fun h7 P => ?_)
    refine mx_goto (pc := 62) 71 (mx_dd dd_X6_scriptChain 31 (62, .goto 9, 3) rfl) rfl ?_
    exact mx_return (pc := 71) (mx_dd dd_X6_scriptChain 35 (71, .return_, 1) rfl) rfl P
theorem b_X6_chain {d : Nat} {h : mxH} {Q : mxRes → mxH → Prop} (x0 : Nat) (x1 : Int32)
    (P : 1 ≤ d ∧ hpK h x0 = 6 ∧ mx_SM mY_X6_pipeline (d - 1) [.ref x0, .int x1] h (mx_KV (fun h1 => mx_SX mY_X6_chain d 7 [(0, .ref x0), (1, .int x1), (2, .int (0 : Int32))] [] h1 Q) (mx_XX mY_X6_chain Q))) : mx_SM mY_X6_chain d [.ref x0, .int x1] h Q := by
  refine mx_SM_of (by decide) (Nat.le_of_ble_eq_true rfl) ?_
  show mx_SX mY_X6_chain d 0 [(0, .ref x0), (1, .int x1)] [] h Q
  refine mx_aload_n (pc := 0) 0 (mx_dd dd_X6_chain 0 (0, .aload_n 0, 1) rfl) rfl rfl ?_
  refine mx_iload_n (pc := 1) 1 (mx_dd dd_X6_chain 1 (1, .iload_n 1, 1) rfl) rfl rfl ?_
  obtain ⟨g1, P⟩ := P
  obtain ⟨g2, P⟩ := P
  refine mx_cVV (pc := 2) (Y := mY_X6_pipeline) (As := [.int x1]) mx_ml_X6_144 mx_y_X6_pipeline rfl g2 (by decide) rfl (by decide) rfl (mx_dd dd_X6_chain 2 (2, .invokevirtual 144, 3) rfl) g1 (by decide) P (fun h1 P => ?_)
  refine mx_iconst (pc := 5) (v := (0 : Int32)) (mx_dd dd_X6_chain 3 (5, .iconst 0, 1) rfl) (by decide) ?_
  refine mx_istore_n (pc := 6) (mx_dd dd_X6_chain 4 (6, .istore_n 2, 1) rfl) rfl (by decide) (lv' := [(2, _), (0, _), (1, _)]) rfl ?_
  refine mx_sel [1, 2, 0] rfl ?_
  exact P
theorem b_X6_chain_7 {d : Nat} {h : mxH} {Q : mxRes → mxH → Prop} (x0 : Nat) (x1 : Int32) (x2 : Int32)
    (P : (((700 : Int32) ≤ x2 → Q (.inl none) h) ∧ (¬ (700 : Int32) ≤ x2 → hpK h x0 = 6 ∧ (((hpI h x0 3) = (256 : Int32) → mx_SX mY_X6_chain d 34 [(0, .ref x0), (1, .int x1), (2, .int x2)] [] h Q) ∧ (¬ (hpI h x0 3) = (256 : Int32) → ((¬ (hpI h x0 3) = (257 : Int32) → Q (.inl none) h) ∧ ((hpI h x0 3) = (257 : Int32) → mx_SX mY_X6_chain d 34 [(0, .ref x0), (1, .int x1), (2, .int x2)] [] h Q))))))) : mx_SX mY_X6_chain d 7 [(0, .ref x0), (1, .int x1), (2, .int x2)] [] h Q := by
  refine mx_iload_n (pc := 7) 2 (mx_dd dd_X6_chain 5 (7, .iload_n 2, 1) rfl) rfl rfl ?_
  refine mx_sipush (pc := 8) (v := (700 : Int32)) (mx_dd dd_X6_chain 6 (8, .sipush 700, 3) rfl) (by decide) ?_
  refine mx_icmp_ge (pc := 11) 93 (mx_dd dd_X6_chain 7 (11, .if_icmp .ge 82, 3) rfl) rfl (fun c11 => ?_) (fun c11 => ?_)
  · have P := P.1 c11
    exact mx_return (pc := 93) (mx_dd dd_X6_chain 43 (93, .return_, 1) rfl) rfl P
  · have P := P.2 c11
    refine mx_aload_n (pc := 14) 0 (mx_dd dd_X6_chain 8 (14, .aload_n 0, 1) rfl) rfl rfl ?_
    obtain ⟨g1, P⟩ := P
    refine mx_getI (pc := 15) mx_fl_X6_74 g1 rfl (mx_dd dd_X6_chain 9 (15, .getfield 74, 3) rfl) ?_
    refine mx_sipush (pc := 18) (v := (256 : Int32)) (mx_dd dd_X6_chain 10 (18, .sipush 256, 3) rfl) (by decide) ?_
    refine mx_icmp_eq (pc := 21) 34 (mx_dd dd_X6_chain 11 (21, .if_icmp .eq 13, 3) rfl) rfl (fun c21 => ?_) (fun c21 => ?_)
    · have P := P.1 c21
      exact P
    · have P := P.2 c21
      refine mx_aload_n (pc := 24) 0 (mx_dd dd_X6_chain 12 (24, .aload_n 0, 1) rfl) rfl rfl ?_
      refine mx_getI (pc := 25) mx_fl_X6_74 g1 rfl (mx_dd dd_X6_chain 13 (25, .getfield 74, 3) rfl) ?_
      refine mx_sipush (pc := 28) (v := (257 : Int32)) (mx_dd dd_X6_chain 14 (28, .sipush 257, 3) rfl) (by decide) ?_
      refine mx_icmp_ne (pc := 31) 93 (mx_dd dd_X6_chain 15 (31, .if_icmp .ne 62, 3) rfl) rfl (fun c31 => ?_) (fun c31 => ?_)
      · have P := P.1 c31
        exact mx_return (pc := 93) (mx_dd dd_X6_chain 43 (93, .return_, 1) rfl) rfl P
      · have P := P.2 c31
        exact P
theorem b_X6_chain_34 {d : Nat} {h : mxH} {Q : mxRes → mxH → Prop} (x0 : Nat) (x1 : Int32) (x2 : Int32)
    (P : hpK h x0 = 6 ∧ ((¬ (hpI h x0 3) = (256 : Int32) → ∃ b1 : Nat, hpR h x0 2 = some b1 ∧ 1 ≤ d ∧ hpK h b1 = 7 ∧ mx_SM mY_X7_emit (d - 1) [.ref b1, .int (10 : Int32)] h (mx_KI (fun v1 h1 => hpK h1 x0 = 6 ∧ mx_SM mY_X6_advance (d - 1) [.ref x0] h1 (mx_KV (fun h2 => hpK h2 x0 = 6 ∧ mx_SM mY_X6_pipeline (d - 1) [.ref x0, .int x1] h2 (mx_KV (fun h3 => hpK h3 x0 = 6 ∧ ∃ b2 : Nat, hpR h3 x0 2 = some b2 ∧ hpK h3 b2 = 7 ∧ mx_SM mY_X7_aim (d - 1) [.ref b2, .int v1, .int (hpI h3 b2 3)] h3 (mx_KV (fun h4 => mx_SX mY_X6_chain d 7 [(0, .ref x0), (1, .int x1), (2, .int (x2 + (1 : Int32)))] [] h4 Q) (mx_XX mY_X6_chain Q))) (mx_XX mY_X6_chain Q))) (mx_XX mY_X6_chain Q))) (mx_XX mY_X6_chain Q))) ∧ ((hpI h x0 3) = (256 : Int32) → ∃ b3 : Nat, hpR h x0 2 = some b3 ∧ 1 ≤ d ∧ hpK h b3 = 7 ∧ mx_SM mY_X7_emit (d - 1) [.ref b3, .int (11 : Int32)] h (mx_KI (fun v2 h5 => hpK h5 x0 = 6 ∧ mx_SM mY_X6_advance (d - 1) [.ref x0] h5 (mx_KV (fun h6 => hpK h6 x0 = 6 ∧ mx_SM mY_X6_pipeline (d - 1) [.ref x0, .int x1] h6 (mx_KV (fun h7 => hpK h7 x0 = 6 ∧ ∃ b4 : Nat, hpR h7 x0 2 = some b4 ∧ hpK h7 b4 = 7 ∧ mx_SM mY_X7_aim (d - 1) [.ref b4, .int v2, .int (hpI h7 b4 3)] h7 (mx_KV (fun h8 => mx_SX mY_X6_chain d 7 [(0, .ref x0), (1, .int x1), (2, .int (x2 + (1 : Int32)))] [] h8 Q) (mx_XX mY_X6_chain Q))) (mx_XX mY_X6_chain Q))) (mx_XX mY_X6_chain Q))) (mx_XX mY_X6_chain Q))))) : mx_SX mY_X6_chain d 34 [(0, .ref x0), (1, .int x1), (2, .int x2)] [] h Q := by
  refine mx_aload_n (pc := 34) 0 (mx_dd dd_X6_chain 16 (34, .aload_n 0, 1) rfl) rfl rfl ?_
  obtain ⟨g1, P⟩ := P
  refine mx_getI (pc := 35) mx_fl_X6_74 g1 rfl (mx_dd dd_X6_chain 17 (35, .getfield 74, 3) rfl) ?_
  refine mx_sipush (pc := 38) (v := (256 : Int32)) (mx_dd dd_X6_chain 18 (38, .sipush 256, 3) rfl) (by decide) ?_
  refine mx_icmp_ne (pc := 41) 49 (mx_dd dd_X6_chain 19 (41, .if_icmp .ne 8, 3) rfl) rfl (fun c41 => ?_) (fun c41 => ?_)
  · have P := P.1 c41
    refine mx_bipush (pc := 49) (v := (10 : Int32)) (mx_dd dd_X6_chain 22 (49, .bipush 10, 2) rfl) (by decide) ?_
    refine mx_istore_n (pc := 51) (mx_dd dd_X6_chain 23 (51, .istore_n 3, 1) rfl) rfl (by decide) (lv' := [(3, _), (0, _), (1, _), (2, _)]) rfl ?_
    refine mx_aload_n (pc := 52) 1 (mx_dd dd_X6_chain 24 (52, .aload_n 0, 1) rfl) rfl rfl ?_
    obtain ⟨b1, g2, P⟩ := P
    refine mx_getR (pc := 53) mx_fl_X6_28 g1 rfl g2 (mx_dd dd_X6_chain 25 (53, .getfield 28, 3) rfl) ?_
    refine mx_iload_n (pc := 56) 0 (mx_dd dd_X6_chain 26 (56, .iload_n 3, 1) rfl) rfl rfl ?_
    obtain ⟨g3, P⟩ := P
    obtain ⟨g4, P⟩ := P
    refine mx_cVI (pc := 57) (Y := mY_X7_emit) (As := [.int (10 : Int32)]) mx_ml_X6_54 mx_y_X7_emit rfl g4 (by decide) rfl (by decide) rfl (mx_dd dd_X6_chain 27 (57, .invokevirtual 54, 3) rfl) g3 (by decide) P (fun v1 h1 P => ?_)
    refine mx_istore (pc := 60) (mx_dd dd_X6_chain 28 (60, .istore 4, 2) rfl) (by decide) (lv' := [(4, _), (3, _), (0, _), (1, _), (2, _)]) rfl ?_
    refine mx_aload_n (pc := 62) 2 (mx_dd dd_X6_chain 29 (62, .aload_n 0, 1) rfl) rfl rfl ?_
    obtain ⟨g5, P⟩ := P
    refine mx_cVV (pc := 63) (Y := mY_X6_advance) (As := []) mx_ml_X6_43 mx_y_X6_advance rfl g5 (by decide) rfl (by decide) rfl (mx_dd dd_X6_chain 30 (63, .invokevirtual 43, 3) rfl) g3 (by decide) P (fun h2 P => ?_)
    refine mx_aload_n (pc := 66) 2 (mx_dd dd_X6_chain 31 (66, .aload_n 0, 1) rfl) rfl rfl ?_
    refine mx_iload_n (pc := 67) 3 (mx_dd dd_X6_chain 32 (67, .iload_n 1, 1) rfl) rfl rfl ?_
    obtain ⟨g6, P⟩ := P
    refine mx_cVV (pc := 68) (Y := mY_X6_pipeline) (As := [.int x1]) mx_ml_X6_144 mx_y_X6_pipeline rfl g6 (by decide) rfl (by decide) rfl (mx_dd dd_X6_chain 33 (68, .invokevirtual 144, 3) rfl) g3 (by decide) P (fun h3 P => ?_)
    refine mx_aload_n (pc := 71) 2 (mx_dd dd_X6_chain 34 (71, .aload_n 0, 1) rfl) rfl rfl ?_
    obtain ⟨g7, P⟩ := P
    obtain ⟨b2, g8, P⟩ := P
    refine mx_getR (pc := 72) mx_fl_X6_28 g7 rfl g8 (mx_dd dd_X6_chain 35 (72, .getfield 28, 3) rfl) ?_
    refine mx_iload (pc := 75) 0 (mx_dd dd_X6_chain 36 (75, .iload 4, 2) rfl) rfl ?_
    refine mx_aload_n (pc := 77) 2 (mx_dd dd_X6_chain 37 (77, .aload_n 0, 1) rfl) rfl rfl ?_
    refine mx_getR (pc := 78) mx_fl_X6_28 g7 rfl g8 (mx_dd dd_X6_chain 38 (78, .getfield 28, 3) rfl) ?_
    obtain ⟨g9, P⟩ := P
    refine mx_getI (pc := 81) mx_fl_X6_138 g9 rfl (mx_dd dd_X6_chain 39 (81, .getfield 138, 3) rfl) ?_
    refine mx_cVV (pc := 84) (Y := mY_X7_aim) (As := [.int v1, .int (hpI h3 b2 3)]) mx_ml_X6_141 mx_y_X7_aim rfl g9 (by decide) rfl (by decide) rfl (mx_dd dd_X6_chain 40 (84, .invokevirtual 141, 3) rfl) g3 (by decide) P (fun h4 P => ?_)
    refine mx_iinc (pc := 87) 4 (mx_dd dd_X6_chain 41 (87, .iinc 2 1, 3) rfl) rfl (mx_kadd (by decide : Int32.ofInt 1 = (1 : Int32))) (by decide) (lv' := [(2, _), (4, _), (3, _), (0, _), (1, _)]) rfl ?_
    refine mx_goto (pc := 90) 7 (mx_dd dd_X6_chain 42 (90, .goto (-83), 3) rfl) rfl ?_
    refine mx_sel [3, 4, 0] rfl ?_
    exact P
  · have P := P.2 c41
    refine mx_bipush (pc := 44) (v := (11 : Int32)) (mx_dd dd_X6_chain 20 (44, .bipush 11, 2) rfl) (by decide) ?_
    refine mx_goto (pc := 46) 51 (mx_dd dd_X6_chain 21 (46, .goto 5, 3) rfl) rfl ?_
    refine mx_istore_n (pc := 51) (mx_dd dd_X6_chain 23 (51, .istore_n 3, 1) rfl) rfl (by decide) (lv' := [(3, _), (0, _), (1, _), (2, _)]) rfl ?_
    refine mx_aload_n (pc := 52) 1 (mx_dd dd_X6_chain 24 (52, .aload_n 0, 1) rfl) rfl rfl ?_
    obtain ⟨b3, g10, P⟩ := P
    refine mx_getR (pc := 53) mx_fl_X6_28 g1 rfl g10 (mx_dd dd_X6_chain 25 (53, .getfield 28, 3) rfl) ?_
    refine mx_iload_n (pc := 56) 0 (mx_dd dd_X6_chain 26 (56, .iload_n 3, 1) rfl) rfl rfl ?_
    obtain ⟨g11, P⟩ := P
    obtain ⟨g12, P⟩ := P
    refine mx_cVI (pc := 57) (Y := mY_X7_emit) (As := [.int (11 : Int32)]) mx_ml_X6_54 mx_y_X7_emit rfl g12 (by decide) rfl (by decide) rfl (mx_dd dd_X6_chain 27 (57, .invokevirtual 54, 3) rfl) g11 (by decide) P (fun v2 h5 P => ?_)
    refine mx_istore (pc := 60) (mx_dd dd_X6_chain 28 (60, .istore 4, 2) rfl) (by decide) (lv' := [(4, _), (3, _), (0, _), (1, _), (2, _)]) rfl ?_
    refine mx_aload_n (pc := 62) 2 (mx_dd dd_X6_chain 29 (62, .aload_n 0, 1) rfl) rfl rfl ?_
    obtain ⟨g13, P⟩ := P
    refine mx_cVV (pc := 63) (Y := mY_X6_advance) (As := []) mx_ml_X6_43 mx_y_X6_advance rfl g13 (by decide) rfl (by decide) rfl (mx_dd dd_X6_chain 30 (63, .invokevirtual 43, 3) rfl) g11 (by decide) P (fun h6 P => ?_)
    refine mx_aload_n (pc := 66) 2 (mx_dd dd_X6_chain 31 (66, .aload_n 0, 1) rfl) rfl rfl ?_
    refine mx_iload_n (pc := 67) 3 (mx_dd dd_X6_chain 32 (67, .iload_n 1, 1) rfl) rfl rfl ?_
    obtain ⟨g14, P⟩ := P
    refine mx_cVV (pc := 68) (Y := mY_X6_pipeline) (As := [.int x1]) mx_ml_X6_144 mx_y_X6_pipeline rfl g14 (by decide) rfl (by decide) rfl (mx_dd dd_X6_chain 33 (68, .invokevirtual 144, 3) rfl) g11 (by decide) P (fun h7 P => ?_)
    refine mx_aload_n (pc := 71) 2 (mx_dd dd_X6_chain 34 (71, .aload_n 0, 1) rfl) rfl rfl ?_
    obtain ⟨g15, P⟩ := P
    obtain ⟨b4, g16, P⟩ := P
    refine mx_getR (pc := 72) mx_fl_X6_28 g15 rfl g16 (mx_dd dd_X6_chain 35 (72, .getfield 28, 3) rfl) ?_
    refine mx_iload (pc := 75) 0 (mx_dd dd_X6_chain 36 (75, .iload 4, 2) rfl) rfl ?_
    refine mx_aload_n (pc := 77) 2 (mx_dd dd_X6_chain 37 (77, .aload_n 0, 1) rfl) rfl rfl ?_
    refine mx_getR (pc := 78) mx_fl_X6_28 g15 rfl g16 (mx_dd dd_X6_chain 38 (78, .getfield 28, 3) rfl) ?_
    obtain ⟨g17, P⟩ := P
    refine mx_getI (pc := 81) mx_fl_X6_138 g17 rfl (mx_dd dd_X6_chain 39 (81, .getfield 138, 3) rfl) ?_
    refine mx_cVV (pc := 84) (Y := mY_X7_aim) (As := [.int v2, .int (hpI h7 b4 3)]) mx_ml_X6_141 mx_y_X7_aim rfl g17 (by decide) rfl (by decide) rfl (mx_dd dd_X6_chain 40 (84, .invokevirtual 141, 3) rfl) g11 (by decide) P (fun h8 P => ?_)
    refine mx_iinc (pc := 87) 4 (mx_dd dd_X6_chain 41 (87, .iinc 2 1, 3) rfl) rfl (mx_kadd (by decide : Int32.ofInt 1 = (1 : Int32))) (by decide) (lv' := [(2, _), (4, _), (3, _), (0, _), (1, _)]) rfl ?_
    refine mx_goto (pc := 90) 7 (mx_dd dd_X6_chain 42 (90, .goto (-83), 3) rfl) rfl ?_
    refine mx_sel [3, 4, 0] rfl ?_
    exact P
theorem b_X6_pipeline {d : Nat} {h : mxH} {Q : mxRes → mxH → Prop} (x0 : Nat) (x1 : Int32)
    (P : hpK h x0 = 6 ∧ ((¬ (hpI h x0 3) = (33 : Int32) → (((0 : Int32) = 0 → mx_SX mY_X6_pipeline d 23 [(0, .ref x0), (1, .int x1), (2, .int (0 : Int32))] [] h Q) ∧ (¬ (0 : Int32) = 0 → 1 ≤ d ∧ mx_SM mY_X6_advance (d - 1) [.ref x0] h (mx_KV (fun h1 => mx_SX mY_X6_pipeline d 23 [(0, .ref x0), (1, .int x1), (2, .int (0 : Int32))] [] h1 Q) (mx_XX mY_X6_pipeline Q))))) ∧ ((hpI h x0 3) = (33 : Int32) → (((1 : Int32) = 0 → mx_SX mY_X6_pipeline d 23 [(0, .ref x0), (1, .int x1), (2, .int (1 : Int32))] [] h Q) ∧ (¬ (1 : Int32) = 0 → 1 ≤ d ∧ mx_SM mY_X6_advance (d - 1) [.ref x0] h (mx_KV (fun h2 => mx_SX mY_X6_pipeline d 23 [(0, .ref x0), (1, .int x1), (2, .int (1 : Int32))] [] h2 Q) (mx_XX mY_X6_pipeline Q))))))) : mx_SM mY_X6_pipeline d [.ref x0, .int x1] h Q := by
  refine mx_SM_of (by decide) (Nat.le_of_ble_eq_true rfl) ?_
  show mx_SX mY_X6_pipeline d 0 [(0, .ref x0), (1, .int x1)] [] h Q
  refine mx_aload_n (pc := 0) 0 (mx_dd dd_X6_pipeline_0 0 (0, .aload_n 0, 1) rfl) rfl rfl ?_
  obtain ⟨g1, P⟩ := P
  refine mx_getI (pc := 1) mx_fl_X6_74 g1 rfl (mx_dd dd_X6_pipeline_0 1 (1, .getfield 74, 3) rfl) ?_
  refine mx_bipush (pc := 4) (v := (33 : Int32)) (mx_dd dd_X6_pipeline_0 2 (4, .bipush 33, 2) rfl) (by decide) ?_
  refine mx_icmp_ne (pc := 6) 13 (mx_dd dd_X6_pipeline_0 3 (6, .if_icmp .ne 7, 3) rfl) rfl (fun c6 => ?_) (fun c6 => ?_)
  · have P := P.1 c6
    refine mx_iconst (pc := 13) (v := (0 : Int32)) (mx_dd dd_X6_pipeline_0 6 (13, .iconst 0, 1) rfl) (by decide) ?_
    refine mx_istore_n (pc := 14) (mx_dd dd_X6_pipeline_0 7 (14, .istore_n 2, 1) rfl) rfl (by decide) (lv' := [(2, _), (0, _), (1, _)]) rfl ?_
    refine mx_iload_n (pc := 15) 0 (mx_dd dd_X6_pipeline_0 8 (15, .iload_n 2, 1) rfl) rfl rfl ?_
    refine mx_if_eq (pc := 16) 23 (mx_dd dd_X6_pipeline_0 9 (16, .ifCond .eq 7, 3) rfl) rfl (fun c16 => ?_) (fun c16 => ?_)
    · have P := P.1 c16
      refine mx_sel [1, 2, 0] rfl ?_
      exact P
    · have P := P.2 c16
      refine mx_aload_n (pc := 19) 1 (mx_dd dd_X6_pipeline_0 10 (19, .aload_n 0, 1) rfl) rfl rfl ?_
      obtain ⟨g2, P⟩ := P
      refine mx_cVV (pc := 20) (Y := mY_X6_advance) (As := []) mx_ml_X6_43 mx_y_X6_advance rfl g1 (by decide) rfl (by decide) rfl (mx_dd dd_X6_pipeline_0 11 (20, .invokevirtual 43, 3) rfl) g2 (by decide) P (fun h1 P => ?_)
      refine mx_sel [1, 2, 0] rfl ?_
      exact P
  · have P := P.2 c6
    refine mx_iconst (pc := 9) (v := (1 : Int32)) (mx_dd dd_X6_pipeline_0 4 (9, .iconst 1, 1) rfl) (by decide) ?_
    refine mx_goto (pc := 10) 14 (mx_dd dd_X6_pipeline_0 5 (10, .goto 4, 3) rfl) rfl ?_
    refine mx_istore_n (pc := 14) (mx_dd dd_X6_pipeline_0 7 (14, .istore_n 2, 1) rfl) rfl (by decide) (lv' := [(2, _), (0, _), (1, _)]) rfl ?_
    refine mx_iload_n (pc := 15) 0 (mx_dd dd_X6_pipeline_0 8 (15, .iload_n 2, 1) rfl) rfl rfl ?_
    refine mx_if_eq (pc := 16) 23 (mx_dd dd_X6_pipeline_0 9 (16, .ifCond .eq 7, 3) rfl) rfl (fun c16 => ?_) (fun c16 => ?_)
    · have P := P.1 c16
      refine mx_sel [1, 2, 0] rfl ?_
      exact P
    · have P := P.2 c16
      refine mx_aload_n (pc := 19) 1 (mx_dd dd_X6_pipeline_0 10 (19, .aload_n 0, 1) rfl) rfl rfl ?_
      obtain ⟨g3, P⟩ := P
      refine mx_cVV (pc := 20) (Y := mY_X6_advance) (As := []) mx_ml_X6_43 mx_y_X6_advance rfl g1 (by decide) rfl (by decide) rfl (mx_dd dd_X6_pipeline_0 11 (20, .invokevirtual 43, 3) rfl) g3 (by decide) P (fun h2 P => ?_)
      refine mx_sel [1, 2, 0] rfl ?_
      exact P
theorem b_X6_pipeline_23 {d : Nat} {h : mxH} {Q : mxRes → mxH → Prop} (x0 : Nat) (x1 : Int32) (x2 : Int32)
    (P : hpK h x0 = 6 ∧ ∃ b1 : Nat, hpR h x0 2 = some b1 ∧ 1 ≤ d ∧ hpK h b1 = 7 ∧ mx_SM mY_X7_emit (d - 1) [.ref b1, .int (0 : Int32)] h (mx_KI (fun v1 h1 => hpK h1 x0 = 6 ∧ mx_SM mY_X6_command (d - 1) [.ref x0, .int x1] h1 (mx_KV (fun h2 => hpK h2 x0 = 6 ∧ ((¬ (hpI h2 x0 3) = (124 : Int32) → mx_SX mY_X6_pipeline d 131 [(0, .ref x0), (2, .int x2)] [] h2 Q) ∧ ((hpI h2 x0 3) = (124 : Int32) → ∃ b2 : Nat, hpR h2 x0 2 = some b2 ∧ hpK h2 b2 = 7 ∧ mx_SM mY_X7_become (d - 1) [.ref b2, .int v1, .int (17 : Int32)] h2 (mx_KV (fun h3 => mx_SX mY_X6_pipeline d 59 [(0, .ref x0), (1, .int x1), (2, .int x2), (3, .int v1), (4, .int (0 : Int32))] [] h3 Q) (mx_XX mY_X6_pipeline Q))))) (mx_XX mY_X6_pipeline Q))) (mx_XX mY_X6_pipeline Q))) : mx_SX mY_X6_pipeline d 23 [(0, .ref x0), (1, .int x1), (2, .int x2)] [] h Q := by
  refine mx_aload_n (pc := 23) 0 (mx_dd dd_X6_pipeline_0 12 (23, .aload_n 0, 1) rfl) rfl rfl ?_
  obtain ⟨g1, P⟩ := P
  obtain ⟨b1, g2, P⟩ := P
  refine mx_getR (pc := 24) mx_fl_X6_28 g1 rfl g2 (mx_dd dd_X6_pipeline_0 13 (24, .getfield 28, 3) rfl) ?_
  refine mx_iconst (pc := 27) (v := (0 : Int32)) (mx_dd dd_X6_pipeline_0 14 (27, .iconst 0, 1) rfl) (by decide) ?_
  obtain ⟨g3, P⟩ := P
  obtain ⟨g4, P⟩ := P
  refine mx_cVI (pc := 28) (Y := mY_X7_emit) (As := [.int (0 : Int32)]) mx_ml_X6_54 mx_y_X7_emit rfl g4 (by decide) rfl (by decide) rfl (mx_dd dd_X6_pipeline_0 15 (28, .invokevirtual 54, 3) rfl) g3 (by decide) P (fun v1 h1 P => ?_)
  refine mx_istore_n (pc := 31) (mx_dd dd_X6_pipeline_0 16 (31, .istore_n 3, 1) rfl) rfl (by decide) (lv' := [(3, _), (0, _), (1, _), (2, _)]) rfl ?_
  refine mx_aload_n (pc := 32) 1 (mx_dd dd_X6_pipeline_0 17 (32, .aload_n 0, 1) rfl) rfl rfl ?_
  refine mx_iload_n (pc := 33) 2 (mx_dd dd_X6_pipeline_0 18 (33, .iload_n 1, 1) rfl) rfl rfl ?_
  obtain ⟨g5, P⟩ := P
  refine mx_cVV (pc := 34) (Y := mY_X6_command) (As := [.int x1]) mx_ml_X6_147 mx_y_X6_command rfl g5 (by decide) rfl (by decide) rfl (mx_dd dd_X6_pipeline_0 19 (34, .invokevirtual 147, 3) rfl) g3 (by decide) P (fun h2 P => ?_)
  refine mx_aload_n (pc := 37) 1 (mx_dd dd_X6_pipeline_0 20 (37, .aload_n 0, 1) rfl) rfl rfl ?_
  obtain ⟨g6, P⟩ := P
  refine mx_getI (pc := 38) mx_fl_X6_74 g6 rfl (mx_dd dd_X6_pipeline_0 21 (38, .getfield 74, 3) rfl) ?_
  refine mx_bipush (pc := 41) (v := (124 : Int32)) (mx_dd dd_X6_pipeline_0 22 (41, .bipush 124, 2) rfl) (by decide) ?_
  refine mx_icmp_ne (pc := 43) 131 (mx_dd dd_X6_pipeline_0 23 (43, .if_icmp .ne 88, 3) rfl) rfl (fun c43 => ?_) (fun c43 => ?_)
  · have P := P.1 c43
    refine mx_sel [1, 3] rfl ?_
    exact P
  · have P := P.2 c43
    refine mx_aload_n (pc := 46) 1 (mx_dd dd_X6_pipeline_0 24 (46, .aload_n 0, 1) rfl) rfl rfl ?_
    obtain ⟨b2, g7, P⟩ := P
    refine mx_getR (pc := 47) mx_fl_X6_28 g6 rfl g7 (mx_dd dd_X6_pipeline_0 25 (47, .getfield 28, 3) rfl) ?_
    refine mx_iload_n (pc := 50) 0 (mx_dd dd_X6_pipeline_0 26 (50, .iload_n 3, 1) rfl) rfl rfl ?_
    refine mx_bipush (pc := 51) (v := (17 : Int32)) (mx_dd dd_X6_pipeline_0 27 (51, .bipush 17, 2) rfl) (by decide) ?_
    obtain ⟨g8, P⟩ := P
    refine mx_cVV (pc := 53) (Y := mY_X7_become) (As := [.int v1, .int (17 : Int32)]) mx_ml_X6_135 mx_y_X7_become rfl g8 (by decide) rfl (by decide) rfl (mx_dd dd_X6_pipeline_0 28 (53, .invokevirtual 135, 3) rfl) g3 (by decide) P (fun h3 P => ?_)
    refine mx_iconst (pc := 56) (v := (0 : Int32)) (mx_dd dd_X6_pipeline_0 29 (56, .iconst 0, 1) rfl) (by decide) ?_
    refine mx_istore (pc := 57) (mx_dd dd_X6_pipeline_0 30 (57, .istore 4, 2) rfl) (by decide) (lv' := [(4, _), (3, _), (0, _), (1, _), (2, _)]) rfl ?_
    refine mx_sel [2, 3, 4, 1, 0] rfl ?_
    exact P
theorem b_X6_pipeline_59 {d : Nat} {h : mxH} {Q : mxRes → mxH → Prop} (x0 : Nat) (x1 : Int32) (x2 : Int32) (x3 : Int32) (x4 : Int32)
    (P : (((700 : Int32) ≤ x4 → mx_SX mY_X6_pipeline d 106 [(0, .ref x0), (2, .int x2), (3, .int x3)] [] h Q) ∧ (¬ (700 : Int32) ≤ x4 → hpK h x0 = 6 ∧ ((¬ (hpI h x0 3) = (124 : Int32) → mx_SX mY_X6_pipeline d 106 [(0, .ref x0), (2, .int x2), (3, .int x3)] [] h Q) ∧ ((hpI h x0 3) = (124 : Int32) → 1 ≤ d ∧ mx_SM mY_X6_endPiped (d - 1) [.ref x0, .int x3] h (mx_KV (fun h1 => hpK h1 x0 = 6 ∧ mx_SM mY_X6_advance (d - 1) [.ref x0] h1 (mx_KV (fun h2 => hpK h2 x0 = 6 ∧ ∃ b1 : Nat, hpR h2 x0 2 = some b1 ∧ hpK h2 b1 = 7 ∧ mx_SM mY_X7_emit (d - 1) [.ref b1, .int (18 : Int32)] h2 (mx_KI (fun v1 h3 => hpK h3 x0 = 6 ∧ mx_SM mY_X6_command (d - 1) [.ref x0, .int x1] h3 (mx_KV (fun h4 => mx_SX mY_X6_pipeline d 59 [(0, .ref x0), (1, .int x1), (2, .int x2), (3, .int v1), (4, .int (x4 + (1 : Int32)))] [] h4 Q) (mx_XX mY_X6_pipeline Q))) (mx_XX mY_X6_pipeline Q))) (mx_XX mY_X6_pipeline Q))) (mx_XX mY_X6_pipeline Q))))))) : mx_SX mY_X6_pipeline d 59 [(0, .ref x0), (1, .int x1), (2, .int x2), (3, .int x3), (4, .int x4)] [] h Q := by
  refine mx_iload (pc := 59) 4 (mx_dd dd_X6_pipeline_0 31 (59, .iload 4, 2) rfl) rfl ?_
  refine mx_sipush (pc := 61) (v := (700 : Int32)) (mx_dd dd_X6_pipeline_0 32 (61, .sipush 700, 3) rfl) (by decide) ?_
  refine mx_icmp_ge (pc := 64) 106 (mx_dd dd_X6_pipeline_0 33 (64, .if_icmp .ge 42, 3) rfl) rfl (fun c64 => ?_) (fun c64 => ?_)
  · have P := P.1 c64
    refine mx_sel [0, 2, 3] rfl ?_
    exact P
  · have P := P.2 c64
    refine mx_aload_n (pc := 67) 0 (mx_dd dd_X6_pipeline_0 34 (67, .aload_n 0, 1) rfl) rfl rfl ?_
    obtain ⟨g1, P⟩ := P
    refine mx_getI (pc := 68) mx_fl_X6_74 g1 rfl (mx_dd dd_X6_pipeline_0 35 (68, .getfield 74, 3) rfl) ?_
    refine mx_bipush (pc := 71) (v := (124 : Int32)) (mx_dd dd_X6_pipeline_0 36 (71, .bipush 124, 2) rfl) (by decide) ?_
    refine mx_icmp_ne (pc := 73) 106 (mx_dd dd_X6_pipeline_0 37 (73, .if_icmp .ne 33, 3) rfl) rfl (fun c73 => ?_) (fun c73 => ?_)
    · have P := P.1 c73
      refine mx_sel [0, 2, 3] rfl ?_
      exact P
    · have P := P.2 c73
      refine mx_aload_n (pc := 76) 0 (mx_dd dd_X6_pipeline_0 38 (76, .aload_n 0, 1) rfl) rfl rfl ?_
      refine mx_iload_n (pc := 77) 3 (mx_dd dd_X6_pipeline_0 39 (77, .iload_n 3, 1) rfl) rfl rfl ?_
      obtain ⟨g2, P⟩ := P
      refine mx_cVV (pc := 78) (Y := mY_X6_endPiped) (As := [.int x3]) mx_ml_X6_150 mx_y_X6_endPiped rfl g1 (by decide) rfl (by decide) rfl (mx_dd dd_X6_pipeline_1 0 (78, .invokevirtual 150, 3) rfl) g2 (by decide) P (fun h1 P => ?_)
      refine mx_aload_n (pc := 81) 0 (mx_dd dd_X6_pipeline_1 1 (81, .aload_n 0, 1) rfl) rfl rfl ?_
      obtain ⟨g3, P⟩ := P
      refine mx_cVV (pc := 82) (Y := mY_X6_advance) (As := []) mx_ml_X6_43 mx_y_X6_advance rfl g3 (by decide) rfl (by decide) rfl (mx_dd dd_X6_pipeline_1 2 (82, .invokevirtual 43, 3) rfl) g2 (by decide) P (fun h2 P => ?_)
      refine mx_aload_n (pc := 85) 0 (mx_dd dd_X6_pipeline_1 3 (85, .aload_n 0, 1) rfl) rfl rfl ?_
      obtain ⟨g4, P⟩ := P
      obtain ⟨b1, g5, P⟩ := P
      refine mx_getR (pc := 86) mx_fl_X6_28 g4 rfl g5 (mx_dd dd_X6_pipeline_1 4 (86, .getfield 28, 3) rfl) ?_
      refine mx_bipush (pc := 89) (v := (18 : Int32)) (mx_dd dd_X6_pipeline_1 5 (89, .bipush 18, 2) rfl) (by decide) ?_
      obtain ⟨g6, P⟩ := P
      refine mx_cVI (pc := 91) (Y := mY_X7_emit) (As := [.int (18 : Int32)]) mx_ml_X6_54 mx_y_X7_emit rfl g6 (by decide) rfl (by decide) rfl (mx_dd dd_X6_pipeline_1 6 (91, .invokevirtual 54, 3) rfl) g2 (by decide) P (fun v1 h3 P => ?_)
      refine mx_istore_n (pc := 94) (mx_dd dd_X6_pipeline_1 7 (94, .istore_n 3, 1) rfl) rfl (by decide) (lv' := [(3, _), (0, _), (1, _), (2, _), (4, _)]) rfl ?_
      refine mx_aload_n (pc := 95) 1 (mx_dd dd_X6_pipeline_1 8 (95, .aload_n 0, 1) rfl) rfl rfl ?_
      refine mx_iload_n (pc := 96) 2 (mx_dd dd_X6_pipeline_1 9 (96, .iload_n 1, 1) rfl) rfl rfl ?_
      obtain ⟨g7, P⟩ := P
      refine mx_cVV (pc := 97) (Y := mY_X6_command) (As := [.int x1]) mx_ml_X6_147 mx_y_X6_command rfl g7 (by decide) rfl (by decide) rfl (mx_dd dd_X6_pipeline_1 10 (97, .invokevirtual 147, 3) rfl) g2 (by decide) P (fun h4 P => ?_)
      refine mx_iinc (pc := 100) 4 (mx_dd dd_X6_pipeline_1 11 (100, .iinc 4 1, 3) rfl) rfl (mx_kadd (by decide : Int32.ofInt 1 = (1 : Int32))) (by decide) (lv' := [(4, _), (3, _), (0, _), (1, _), (2, _)]) rfl ?_
      refine mx_goto (pc := 103) 59 (mx_dd dd_X6_pipeline_1 12 (103, .goto (-44), 3) rfl) rfl ?_
      refine mx_sel [2, 3, 4, 1, 0] rfl ?_
      exact P
theorem b_X6_pipeline_106 {d : Nat} {h : mxH} {Q : mxRes → mxH → Prop} (x0 : Nat) (x2 : Int32) (x3 : Int32)
    (P : hpK h x0 = 6 ∧ ∃ b1 : Nat, hpR h x0 2 = some b1 ∧ 1 ≤ d ∧ hpK h b1 = 7 ∧ mx_SM mY_X7_become (d - 1) [.ref b1, .int x3, .int (19 : Int32)] h (mx_KV (fun h1 => hpK h1 x0 = 6 ∧ mx_SM mY_X6_endPiped (d - 1) [.ref x0, .int x3] h1 (mx_KV (fun h2 => hpK h2 x0 = 6 ∧ ∃ b2 : Nat, hpR h2 x0 2 = some b2 ∧ hpK h2 b2 = 7 ∧ mx_SM mY_X7_emit (d - 1) [.ref b2, .int (20 : Int32)] h2 (mx_KI (fun v1 h3 => mx_SX mY_X6_pipeline d 131 [(0, .ref x0), (2, .int x2)] [] h3 Q) (mx_XX mY_X6_pipeline Q))) (mx_XX mY_X6_pipeline Q))) (mx_XX mY_X6_pipeline Q))) : mx_SX mY_X6_pipeline d 106 [(0, .ref x0), (2, .int x2), (3, .int x3)] [] h Q := by
  refine mx_aload_n (pc := 106) 0 (mx_dd dd_X6_pipeline_1 13 (106, .aload_n 0, 1) rfl) rfl rfl ?_
  obtain ⟨g1, P⟩ := P
  obtain ⟨b1, g2, P⟩ := P
  refine mx_getR (pc := 107) mx_fl_X6_28 g1 rfl g2 (mx_dd dd_X6_pipeline_1 14 (107, .getfield 28, 3) rfl) ?_
  refine mx_iload_n (pc := 110) 2 (mx_dd dd_X6_pipeline_1 15 (110, .iload_n 3, 1) rfl) rfl rfl ?_
  refine mx_bipush (pc := 111) (v := (19 : Int32)) (mx_dd dd_X6_pipeline_1 16 (111, .bipush 19, 2) rfl) (by decide) ?_
  obtain ⟨g3, P⟩ := P
  obtain ⟨g4, P⟩ := P
  refine mx_cVV (pc := 113) (Y := mY_X7_become) (As := [.int x3, .int (19 : Int32)]) mx_ml_X6_135 mx_y_X7_become rfl g4 (by decide) rfl (by decide) rfl (mx_dd dd_X6_pipeline_1 17 (113, .invokevirtual 135, 3) rfl) g3 (by decide) P (fun h1 P => ?_)
  refine mx_aload_n (pc := 116) 0 (mx_dd dd_X6_pipeline_1 18 (116, .aload_n 0, 1) rfl) rfl rfl ?_
  refine mx_iload_n (pc := 117) 2 (mx_dd dd_X6_pipeline_1 19 (117, .iload_n 3, 1) rfl) rfl rfl ?_
  obtain ⟨g5, P⟩ := P
  refine mx_cVV (pc := 118) (Y := mY_X6_endPiped) (As := [.int x3]) mx_ml_X6_150 mx_y_X6_endPiped rfl g5 (by decide) rfl (by decide) rfl (mx_dd dd_X6_pipeline_1 20 (118, .invokevirtual 150, 3) rfl) g3 (by decide) P (fun h2 P => ?_)
  refine mx_aload_n (pc := 121) 0 (mx_dd dd_X6_pipeline_1 21 (121, .aload_n 0, 1) rfl) rfl rfl ?_
  obtain ⟨g6, P⟩ := P
  obtain ⟨b2, g7, P⟩ := P
  refine mx_getR (pc := 122) mx_fl_X6_28 g6 rfl g7 (mx_dd dd_X6_pipeline_1 22 (122, .getfield 28, 3) rfl) ?_
  refine mx_bipush (pc := 125) (v := (20 : Int32)) (mx_dd dd_X6_pipeline_1 23 (125, .bipush 20, 2) rfl) (by decide) ?_
  obtain ⟨g8, P⟩ := P
  refine mx_cVI (pc := 127) (Y := mY_X7_emit) (As := [.int (20 : Int32)]) mx_ml_X6_54 mx_y_X7_emit rfl g8 (by decide) rfl (by decide) rfl (mx_dd dd_X6_pipeline_1 24 (127, .invokevirtual 54, 3) rfl) g3 (by decide) P (fun v1 h3 P => ?_)
  refine mx_pop (pc := 130) (mx_dd dd_X6_pipeline_1 25 (130, .pop, 1) rfl) rfl ?_
  refine mx_sel [0, 1] rfl ?_
  exact P
theorem b_X6_pipeline_131 {d : Nat} {h : mxH} {Q : mxRes → mxH → Prop} (x0 : Nat) (x2 : Int32)
    (P : ((x2 = 0 → Q (.inl none) h) ∧ (¬ x2 = 0 → hpK h x0 = 6 ∧ ∃ b1 : Nat, hpR h x0 2 = some b1 ∧ 1 ≤ d ∧ hpK h b1 = 7 ∧ mx_SM mY_X7_emit (d - 1) [.ref b1, .int (8 : Int32)] h (mx_KI (fun v1 h1 => Q (.inl none) h1) (mx_XX mY_X6_pipeline Q))))) : mx_SX mY_X6_pipeline d 131 [(0, .ref x0), (2, .int x2)] [] h Q := by
  refine mx_iload_n (pc := 131) 1 (mx_dd dd_X6_pipeline_1 26 (131, .iload_n 2, 1) rfl) rfl rfl ?_
  refine mx_if_eq (pc := 132) 145 (mx_dd dd_X6_pipeline_1 27 (132, .ifCond .eq 13, 3) rfl) rfl (fun c132 => ?_) (fun c132 => ?_)
  · have P := P.1 c132
    exact mx_return (pc := 145) (mx_dd dd_X6_pipeline_1 33 (145, .return_, 1) rfl) rfl P
  · have P := P.2 c132
    refine mx_aload_n (pc := 135) 0 (mx_dd dd_X6_pipeline_1 28 (135, .aload_n 0, 1) rfl) rfl rfl ?_
    obtain ⟨g1, P⟩ := P
    obtain ⟨b1, g2, P⟩ := P
    refine mx_getR (pc := 136) mx_fl_X6_28 g1 rfl g2 (mx_dd dd_X6_pipeline_1 29 (136, .getfield 28, 3) rfl) ?_
    refine mx_bipush (pc := 139) (v := (8 : Int32)) (mx_dd dd_X6_pipeline_1 30 (139, .bipush 8, 2) rfl) (by decide) ?_
    obtain ⟨g3, P⟩ := P
    obtain ⟨g4, P⟩ := P
    refine mx_cVI (pc := 141) (Y := mY_X7_emit) (As := [.int (8 : Int32)]) mx_ml_X6_54 mx_y_X7_emit rfl g4 (by decide) rfl (by decide) rfl (mx_dd dd_X6_pipeline_1 31 (141, .invokevirtual 54, 3) rfl) g3 (by decide) P (fun v1 h1 P => ?_)
    refine mx_pop (pc := 144) (mx_dd dd_X6_pipeline_1 32 (144, .pop, 1) rfl) rfl ?_
    exact mx_return (pc := 145) (mx_dd dd_X6_pipeline_1 33 (145, .return_, 1) rfl) rfl P
theorem b_X6_endPiped {d : Nat} {h : mxH} {Q : mxRes → mxH → Prop} (x0 : Nat) (x1 : Int32)
    (P : hpK h x0 = 6 ∧ ∃ b1 : Nat, hpR h x0 2 = some b1 ∧ 1 ≤ d ∧ hpK h b1 = 7 ∧ mx_SM mY_X7_emit (d - 1) [.ref b1, .int (21 : Int32)] h (mx_KI (fun v1 h1 => hpK h1 x0 = 6 ∧ ∃ b2 : Nat, hpR h1 x0 2 = some b2 ∧ hpK h1 b2 = 7 ∧ mx_SM mY_X7_aim (d - 1) [.ref b2, .int x1, .int (hpI h1 b2 3)] h1 (mx_KV (fun h2 => Q (.inl none) h2) (mx_XX mY_X6_endPiped Q))) (mx_XX mY_X6_endPiped Q))) : mx_SM mY_X6_endPiped d [.ref x0, .int x1] h Q := by
  refine mx_SM_of (by decide) (Nat.le_of_ble_eq_true rfl) ?_
  show mx_SX mY_X6_endPiped d 0 [(0, .ref x0), (1, .int x1)] [] h Q
  refine mx_aload_n (pc := 0) 0 (mx_dd dd_X6_endPiped 0 (0, .aload_n 0, 1) rfl) rfl rfl ?_
  obtain ⟨g1, P⟩ := P
  obtain ⟨b1, g2, P⟩ := P
  refine mx_getR (pc := 1) mx_fl_X6_28 g1 rfl g2 (mx_dd dd_X6_endPiped 1 (1, .getfield 28, 3) rfl) ?_
  refine mx_bipush (pc := 4) (v := (21 : Int32)) (mx_dd dd_X6_endPiped 2 (4, .bipush 21, 2) rfl) (by decide) ?_
  obtain ⟨g3, P⟩ := P
  obtain ⟨g4, P⟩ := P
  refine mx_cVI (pc := 6) (Y := mY_X7_emit) (As := [.int (21 : Int32)]) mx_ml_X6_54 mx_y_X7_emit rfl g4 (by decide) rfl (by decide) rfl (mx_dd dd_X6_endPiped 3 (6, .invokevirtual 54, 3) rfl) g3 (by decide) P (fun v1 h1 P => ?_)
  refine mx_pop (pc := 9) (mx_dd dd_X6_endPiped 4 (9, .pop, 1) rfl) rfl ?_
  refine mx_aload_n (pc := 10) 0 (mx_dd dd_X6_endPiped 5 (10, .aload_n 0, 1) rfl) rfl rfl ?_
  obtain ⟨g5, P⟩ := P
  obtain ⟨b2, g6, P⟩ := P
  refine mx_getR (pc := 11) mx_fl_X6_28 g5 rfl g6 (mx_dd dd_X6_endPiped 6 (11, .getfield 28, 3) rfl) ?_
  refine mx_iload_n (pc := 14) 1 (mx_dd dd_X6_endPiped 7 (14, .iload_n 1, 1) rfl) rfl rfl ?_
  refine mx_aload_n (pc := 15) 0 (mx_dd dd_X6_endPiped 8 (15, .aload_n 0, 1) rfl) rfl rfl ?_
  refine mx_getR (pc := 16) mx_fl_X6_28 g5 rfl g6 (mx_dd dd_X6_endPiped 9 (16, .getfield 28, 3) rfl) ?_
  obtain ⟨g7, P⟩ := P
  refine mx_getI (pc := 19) mx_fl_X6_138 g7 rfl (mx_dd dd_X6_endPiped 10 (19, .getfield 138, 3) rfl) ?_
  refine mx_cVV (pc := 22) (Y := mY_X7_aim) (As := [.int x1, .int (hpI h1 b2 3)]) mx_ml_X6_141 mx_y_X7_aim rfl g7 (by decide) rfl (by decide) rfl (mx_dd dd_X6_endPiped 11 (22, .invokevirtual 141, 3) rfl) g3 (by decide) P (fun h2 P => ?_)
  exact mx_return (pc := 25) (mx_dd dd_X6_endPiped 12 (25, .return_, 1) rfl) rfl P
theorem b_X6_command {d : Nat} {h : mxH} {Q : mxRes → mxH → Prop} (x0 : Nat) (x1 : Int32)
    (P : hpK h x0 = 6 ∧ ∃ b1 : Nat, hpR h x0 2 = some b1 ∧ 1 ≤ d ∧ hpK h b1 = 7 ∧ mx_SM mY_X7_addCommand (d - 1) [.ref b1, .int (hpI h x0 4)] h (mx_KI (fun v1 h1 => hpK h1 x0 = 6 ∧ ∃ b2 : Nat, hpR h1 x0 2 = some b2 ∧ hpK h1 b2 = 7 ∧ mx_SM mY_X7_emitFor (d - 1) [.ref b2, .int (1 : Int32), .int v1] h1 (mx_KI (fun v2 h2 => hpK h2 x0 = 6 ∧ mx_SM mY_X6_body (d - 1) [.ref x0, .int v1, .int x1] h2 (mx_KV (fun h3 => mx_SX mY_X6_command d 31 [(0, .ref x0), (2, .int v1), (3, .int v2), (4, .int (0 : Int32))] [] h3 Q) (mx_XX mY_X6_command Q))) (mx_XX mY_X6_command Q))) (mx_XX mY_X6_command Q))) : mx_SM mY_X6_command d [.ref x0, .int x1] h Q := by
  refine mx_SM_of (by decide) (Nat.le_of_ble_eq_true rfl) ?_
  show mx_SX mY_X6_command d 0 [(0, .ref x0), (1, .int x1)] [] h Q
  refine mx_aload_n (pc := 0) 0 (mx_dd dd_X6_command 0 (0, .aload_n 0, 1) rfl) rfl rfl ?_
  obtain ⟨g1, P⟩ := P
  obtain ⟨b1, g2, P⟩ := P
  refine mx_getR (pc := 1) mx_fl_X6_28 g1 rfl g2 (mx_dd dd_X6_command 1 (1, .getfield 28, 3) rfl) ?_
  refine mx_aload_n (pc := 4) 0 (mx_dd dd_X6_command 2 (4, .aload_n 0, 1) rfl) rfl rfl ?_
  refine mx_getI (pc := 5) mx_fl_X6_57 g1 rfl (mx_dd dd_X6_command 3 (5, .getfield 57, 3) rfl) ?_
  obtain ⟨g3, P⟩ := P
  obtain ⟨g4, P⟩ := P
  refine mx_cVI (pc := 8) (Y := mY_X7_addCommand) (As := [.int (hpI h x0 4)]) mx_ml_X6_153 mx_y_X7_addCommand rfl g4 (by decide) rfl (by decide) rfl (mx_dd dd_X6_command 4 (8, .invokevirtual 153, 3) rfl) g3 (by decide) P (fun v1 h1 P => ?_)
  refine mx_istore_n (pc := 11) (mx_dd dd_X6_command 5 (11, .istore_n 2, 1) rfl) rfl (by decide) (lv' := [(2, _), (0, _), (1, _)]) rfl ?_
  refine mx_aload_n (pc := 12) 1 (mx_dd dd_X6_command 6 (12, .aload_n 0, 1) rfl) rfl rfl ?_
  obtain ⟨g5, P⟩ := P
  obtain ⟨b2, g6, P⟩ := P
  refine mx_getR (pc := 13) mx_fl_X6_28 g5 rfl g6 (mx_dd dd_X6_command 7 (13, .getfield 28, 3) rfl) ?_
  refine mx_iconst (pc := 16) (v := (1 : Int32)) (mx_dd dd_X6_command 8 (16, .iconst 1, 1) rfl) (by decide) ?_
  refine mx_iload_n (pc := 17) 0 (mx_dd dd_X6_command 9 (17, .iload_n 2, 1) rfl) rfl rfl ?_
  obtain ⟨g7, P⟩ := P
  refine mx_cVI (pc := 18) (Y := mY_X7_emitFor) (As := [.int (1 : Int32), .int v1]) mx_ml_X6_156 mx_y_X7_emitFor rfl g7 (by decide) rfl (by decide) rfl (mx_dd dd_X6_command 10 (18, .invokevirtual 156, 3) rfl) g3 (by decide) P (fun v2 h2 P => ?_)
  refine mx_istore_n (pc := 21) (mx_dd dd_X6_command 11 (21, .istore_n 3, 1) rfl) rfl (by decide) (lv' := [(3, _), (2, _), (0, _), (1, _)]) rfl ?_
  refine mx_aload_n (pc := 22) 2 (mx_dd dd_X6_command 12 (22, .aload_n 0, 1) rfl) rfl rfl ?_
  refine mx_iload_n (pc := 23) 1 (mx_dd dd_X6_command 13 (23, .iload_n 2, 1) rfl) rfl rfl ?_
  refine mx_iload_n (pc := 24) 3 (mx_dd dd_X6_command 14 (24, .iload_n 1, 1) rfl) rfl rfl ?_
  obtain ⟨g8, P⟩ := P
  refine mx_cVV (pc := 25) (Y := mY_X6_body) (As := [.int v1, .int x1]) mx_ml_X6_159 mx_y_X6_body rfl g8 (by decide) rfl (by decide) rfl (mx_dd dd_X6_command 15 (25, .invokevirtual 159, 3) rfl) g3 (by decide) P (fun h3 P => ?_)
  refine mx_iconst (pc := 28) (v := (0 : Int32)) (mx_dd dd_X6_command 16 (28, .iconst 0, 1) rfl) (by decide) ?_
  refine mx_istore (pc := 29) (mx_dd dd_X6_command 17 (29, .istore 4, 2) rfl) (by decide) (lv' := [(4, _), (3, _), (2, _), (0, _), (1, _)]) rfl ?_
  refine mx_sel [3, 2, 1, 0] rfl ?_
  exact P
theorem b_X6_command_31 {d : Nat} {h : mxH} {Q : mxRes → mxH → Prop} (x0 : Nat) (x2 : Int32) (x3 : Int32) (x4 : Int32)
    (P : (((700 : Int32) ≤ x4 → mx_SX mY_X6_command d 57 [(0, .ref x0), (2, .int x2), (3, .int x3)] [] h Q) ∧ (¬ (700 : Int32) ≤ x4 → 1 ≤ d ∧ hpK h x0 = 6 ∧ mx_SM mY_X6_startsRedirection (d - 1) [.ref x0] h (mx_KI (fun v1 h1 => ((v1 = 0 → mx_SX mY_X6_command d 57 [(0, .ref x0), (2, .int x2), (3, .int x3)] [] h1 Q) ∧ (¬ v1 = 0 → hpK h1 x0 = 6 ∧ mx_SM mY_X6_redirection (d - 1) [.ref x0, .int x2] h1 (mx_KV (fun h2 => mx_SX mY_X6_command d 31 [(0, .ref x0), (2, .int x2), (3, .int x3), (4, .int (x4 + (1 : Int32)))] [] h2 Q) (mx_XX mY_X6_command Q))))) (mx_XX mY_X6_command Q))))) : mx_SX mY_X6_command d 31 [(0, .ref x0), (2, .int x2), (3, .int x3), (4, .int x4)] [] h Q := by
  refine mx_iload (pc := 31) 3 (mx_dd dd_X6_command 18 (31, .iload 4, 2) rfl) rfl ?_
  refine mx_sipush (pc := 33) (v := (700 : Int32)) (mx_dd dd_X6_command 19 (33, .sipush 700, 3) rfl) (by decide) ?_
  refine mx_icmp_ge (pc := 36) 57 (mx_dd dd_X6_command 20 (36, .if_icmp .ge 21, 3) rfl) rfl (fun c36 => ?_) (fun c36 => ?_)
  · have P := P.1 c36
    refine mx_sel [0, 1, 2] rfl ?_
    exact P
  · have P := P.2 c36
    refine mx_aload_n (pc := 39) 0 (mx_dd dd_X6_command 21 (39, .aload_n 0, 1) rfl) rfl rfl ?_
    obtain ⟨g1, P⟩ := P
    obtain ⟨g2, P⟩ := P
    refine mx_cVI (pc := 40) (Y := mY_X6_startsRedirection) (As := []) mx_ml_X6_162 mx_y_X6_startsRedirection rfl g2 (by decide) rfl (by decide) rfl (mx_dd dd_X6_command 22 (40, .invokevirtual 162, 3) rfl) g1 (by decide) P (fun v1 h1 P => ?_)
    refine mx_if_eq (pc := 43) 57 (mx_dd dd_X6_command 23 (43, .ifCond .eq 14, 3) rfl) rfl (fun c43 => ?_) (fun c43 => ?_)
    · have P := P.1 c43
      refine mx_sel [0, 1, 2] rfl ?_
      exact P
    · have P := P.2 c43
      refine mx_aload_n (pc := 46) 0 (mx_dd dd_X6_command 24 (46, .aload_n 0, 1) rfl) rfl rfl ?_
      refine mx_iload_n (pc := 47) 1 (mx_dd dd_X6_command 25 (47, .iload_n 2, 1) rfl) rfl rfl ?_
      obtain ⟨g3, P⟩ := P
      refine mx_cVV (pc := 48) (Y := mY_X6_redirection) (As := [.int x2]) mx_ml_X6_165 mx_y_X6_redirection rfl g3 (by decide) rfl (by decide) rfl (mx_dd dd_X6_command 26 (48, .invokevirtual 165, 3) rfl) g1 (by decide) P (fun h2 P => ?_)
      refine mx_iinc (pc := 51) 3 (mx_dd dd_X6_command 27 (51, .iinc 4 1, 3) rfl) rfl (mx_kadd (by decide : Int32.ofInt 1 = (1 : Int32))) (by decide) (lv' := [(4, _), (0, _), (2, _), (3, _)]) rfl ?_
      refine mx_goto (pc := 54) 31 (mx_dd dd_X6_command 28 (54, .goto (-23), 3) rfl) rfl ?_
      refine mx_sel [1, 2, 3, 0] rfl ?_
      exact P
theorem b_X6_command_57 {d : Nat} {h : mxH} {Q : mxRes → mxH → Prop} (x0 : Nat) (x2 : Int32) (x3 : Int32)
    (P : hpK h x0 = 6 ∧ ∃ b1 : Nat, hpR h x0 2 = some b1 ∧ 1 ≤ d ∧ hpK h b1 = 7 ∧ mx_SM mY_X7_emitFor (d - 1) [.ref b1, .int (2 : Int32), .int x2] h (mx_KI (fun v1 h1 => hpK h1 x0 = 6 ∧ ∃ b2 : Nat, hpR h1 x0 2 = some b2 ∧ hpK h1 b2 = 7 ∧ mx_SM mY_X7_aim (d - 1) [.ref b2, .int x3, .int (hpI h1 b2 3)] h1 (mx_KV (fun h2 => Q (.inl none) h2) (mx_XX mY_X6_command Q))) (mx_XX mY_X6_command Q))) : mx_SX mY_X6_command d 57 [(0, .ref x0), (2, .int x2), (3, .int x3)] [] h Q := by
  refine mx_aload_n (pc := 57) 0 (mx_dd dd_X6_command 29 (57, .aload_n 0, 1) rfl) rfl rfl ?_
  obtain ⟨g1, P⟩ := P
  obtain ⟨b1, g2, P⟩ := P
  refine mx_getR (pc := 58) mx_fl_X6_28 g1 rfl g2 (mx_dd dd_X6_command 30 (58, .getfield 28, 3) rfl) ?_
  refine mx_iconst (pc := 61) (v := (2 : Int32)) (mx_dd dd_X6_command 31 (61, .iconst 2, 1) rfl) (by decide) ?_
  refine mx_iload_n (pc := 62) 1 (mx_dd dd_X6_command 32 (62, .iload_n 2, 1) rfl) rfl rfl ?_
  obtain ⟨g3, P⟩ := P
  obtain ⟨g4, P⟩ := P
  refine mx_cVI (pc := 63) (Y := mY_X7_emitFor) (As := [.int (2 : Int32), .int x2]) mx_ml_X6_156 mx_y_X7_emitFor rfl g4 (by decide) rfl (by decide) rfl (mx_dd dd_X6_command 33 (63, .invokevirtual 156, 3) rfl) g3 (by decide) P (fun v1 h1 P => ?_)
  refine mx_pop (pc := 66) (mx_dd dd_X6_command 34 (66, .pop, 1) rfl) rfl ?_
  refine mx_aload_n (pc := 67) 0 (mx_dd dd_X6_command 35 (67, .aload_n 0, 1) rfl) rfl rfl ?_
  obtain ⟨g5, P⟩ := P
  obtain ⟨b2, g6, P⟩ := P
  refine mx_getR (pc := 68) mx_fl_X6_28 g5 rfl g6 (mx_dd dd_X6_command 36 (68, .getfield 28, 3) rfl) ?_
  refine mx_iload_n (pc := 71) 2 (mx_dd dd_X6_command 37 (71, .iload_n 3, 1) rfl) rfl rfl ?_
  refine mx_aload_n (pc := 72) 0 (mx_dd dd_X6_command 38 (72, .aload_n 0, 1) rfl) rfl rfl ?_
  refine mx_getR (pc := 73) mx_fl_X6_28 g5 rfl g6 (mx_dd dd_X6_command 39 (73, .getfield 28, 3) rfl) ?_
  obtain ⟨g7, P⟩ := P
  refine mx_getI (pc := 76) mx_fl_X6_138 g7 rfl (mx_dd dd_X6_command 40 (76, .getfield 138, 3) rfl) ?_
  refine mx_cVV (pc := 79) (Y := mY_X7_aim) (As := [.int x3, .int (hpI h1 b2 3)]) mx_ml_X6_141 mx_y_X7_aim rfl g7 (by decide) rfl (by decide) rfl (mx_dd dd_X6_command 41 (79, .invokevirtual 141, 3) rfl) g3 (by decide) P (fun h2 P => ?_)
  exact mx_return (pc := 82) (mx_dd dd_X6_command 42 (82, .return_, 1) rfl) rfl P
theorem b_X6_body {d : Nat} {h : mxH} {Q : mxRes → mxH → Prop} (x0 : Nat) (x1 : Int32) (x2 : Int32)
    (P : hpK h x0 = 6 ∧ (((hpI h x0 3) = (40 : Int32) → mx_SX mY_X6_body d 36 [(0, .ref x0), (1, .int x1), (2, .int x2)] [] h Q) ∧ (¬ (hpI h x0 3) = (40 : Int32) → (((hpI h x0 3) = (123 : Int32) → mx_SX mY_X6_body d 36 [(0, .ref x0), (1, .int x1), (2, .int x2)] [] h Q) ∧ (¬ (hpI h x0 3) = (123 : Int32) → ((¬ (hpI h x0 3) = (1 : Int32) → mx_SX mY_X6_body d 57 [(0, .ref x0), (1, .int x1)] [] h Q) ∧ ((hpI h x0 3) = (1 : Int32) → 1 ≤ d ∧ mx_SM mY_X6_opensBody (d - 1) [.long (hpL h x0 6)] h (mx_KI (fun v1 h1 => ((v1 = 0 → mx_SX mY_X6_body d 57 [(0, .ref x0), (1, .int x1)] [] h1 Q) ∧ (¬ v1 = 0 → mx_SX mY_X6_body d 36 [(0, .ref x0), (1, .int x1), (2, .int x2)] [] h1 Q))) (mx_XX mY_X6_body Q))))))))) : mx_SM mY_X6_body d [.ref x0, .int x1, .int x2] h Q := by
  refine mx_SM_of (by decide) (Nat.le_of_ble_eq_true rfl) ?_
  show mx_SX mY_X6_body d 0 [(0, .ref x0), (1, .int x1), (2, .int x2)] [] h Q
  refine mx_aload_n (pc := 0) 0 (mx_dd dd_X6_body 0 (0, .aload_n 0, 1) rfl) rfl rfl ?_
  obtain ⟨g1, P⟩ := P
  refine mx_getI (pc := 1) mx_fl_X6_74 g1 rfl (mx_dd dd_X6_body 1 (1, .getfield 74, 3) rfl) ?_
  refine mx_bipush (pc := 4) (v := (40 : Int32)) (mx_dd dd_X6_body 2 (4, .bipush 40, 2) rfl) (by decide) ?_
  refine mx_icmp_eq (pc := 6) 36 (mx_dd dd_X6_body 3 (6, .if_icmp .eq 30, 3) rfl) rfl (fun c6 => ?_) (fun c6 => ?_)
  · have P := P.1 c6
    exact P
  · have P := P.2 c6
    refine mx_aload_n (pc := 9) 0 (mx_dd dd_X6_body 4 (9, .aload_n 0, 1) rfl) rfl rfl ?_
    refine mx_getI (pc := 10) mx_fl_X6_74 g1 rfl (mx_dd dd_X6_body 5 (10, .getfield 74, 3) rfl) ?_
    refine mx_bipush (pc := 13) (v := (123 : Int32)) (mx_dd dd_X6_body 6 (13, .bipush 123, 2) rfl) (by decide) ?_
    refine mx_icmp_eq (pc := 15) 36 (mx_dd dd_X6_body 7 (15, .if_icmp .eq 21, 3) rfl) rfl (fun c15 => ?_) (fun c15 => ?_)
    · have P := P.1 c15
      exact P
    · have P := P.2 c15
      refine mx_aload_n (pc := 18) 0 (mx_dd dd_X6_body 8 (18, .aload_n 0, 1) rfl) rfl rfl ?_
      refine mx_getI (pc := 19) mx_fl_X6_74 g1 rfl (mx_dd dd_X6_body 9 (19, .getfield 74, 3) rfl) ?_
      refine mx_iconst (pc := 22) (v := (1 : Int32)) (mx_dd dd_X6_body 10 (22, .iconst 1, 1) rfl) (by decide) ?_
      refine mx_icmp_ne (pc := 23) 57 (mx_dd dd_X6_body 11 (23, .if_icmp .ne 34, 3) rfl) rfl (fun c23 => ?_) (fun c23 => ?_)
      · have P := P.1 c23
        refine mx_sel [0, 1] rfl ?_
        exact P
      · have P := P.2 c23
        refine mx_aload_n (pc := 26) 0 (mx_dd dd_X6_body 12 (26, .aload_n 0, 1) rfl) rfl rfl ?_
        refine mx_getL (pc := 27) mx_fl_X6_87 g1 rfl (mx_dd dd_X6_body 13 (27, .getfield 87, 3) rfl) ?_
        obtain ⟨g2, P⟩ := P
        refine mx_cSI (pc := 30) (Y := mY_X6_opensBody) (As := [.long (hpL h x0 6)]) mx_ml_X6_168 mx_y_X6_opensBody rfl rfl (by decide) rfl (mx_dd dd_X6_body 14 (30, .invokestatic 168, 3) rfl) g2 (by decide) P (fun v1 h1 P => ?_)
        refine mx_if_eq (pc := 33) 57 (mx_dd dd_X6_body 15 (33, .ifCond .eq 24, 3) rfl) rfl (fun c33 => ?_) (fun c33 => ?_)
        · have P := P.1 c33
          refine mx_sel [0, 1] rfl ?_
          exact P
        · have P := P.2 c33
          exact P
theorem b_X6_body_36 {d : Nat} {h : mxH} {Q : mxRes → mxH → Prop} (x0 : Nat) (x1 : Int32) (x2 : Int32)
    (P : ((x2 < (5 : Int32) → mx_SX mY_X6_body d 46 [(0, .ref x0), (1, .int x1), (2, .int x2)] [] h Q) ∧ (¬ x2 < (5 : Int32) → 1 ≤ d ∧ hpK h x0 = 6 ∧ mx_SM mY_X6_fail (d - 1) [.ref x0, .int (2 : Int32)] h (mx_KV (fun h1 => mx_SX mY_X6_body d 46 [(0, .ref x0), (1, .int x1), (2, .int x2)] [] h1 Q) (mx_XX mY_X6_body Q))))) : mx_SX mY_X6_body d 36 [(0, .ref x0), (1, .int x1), (2, .int x2)] [] h Q := by
  refine mx_iload_n (pc := 36) 2 (mx_dd dd_X6_body 16 (36, .iload_n 2, 1) rfl) rfl rfl ?_
  refine mx_iconst (pc := 37) (v := (5 : Int32)) (mx_dd dd_X6_body 17 (37, .iconst 5, 1) rfl) (by decide) ?_
  refine mx_icmp_lt (pc := 38) 46 (mx_dd dd_X6_body 18 (38, .if_icmp .lt 8, 3) rfl) rfl (fun c38 => ?_) (fun c38 => ?_)
  · have P := P.1 c38
    exact P
  · have P := P.2 c38
    refine mx_aload_n (pc := 41) 0 (mx_dd dd_X6_body 19 (41, .aload_n 0, 1) rfl) rfl rfl ?_
    refine mx_iconst (pc := 42) (v := (2 : Int32)) (mx_dd dd_X6_body 20 (42, .iconst 2, 1) rfl) (by decide) ?_
    obtain ⟨g1, P⟩ := P
    obtain ⟨g2, P⟩ := P
    refine mx_cVV (pc := 43) (Y := mY_X6_fail) (As := [.int (2 : Int32)]) mx_ml_X6_93 mx_y_X6_fail rfl g2 (by decide) rfl (by decide) rfl (mx_dd dd_X6_body 21 (43, .invokevirtual 93, 3) rfl) g1 (by decide) P (fun h1 P => ?_)
    exact P
theorem b_X6_body_46 {d : Nat} {h : mxH} {Q : mxRes → mxH → Prop} (x0 : Nat) (x1 : Int32) (x2 : Int32)
    (P : 1 ≤ d ∧ hpK h x0 = 6 ∧ mx_SM mY_X6_compound (d - 1) [.ref x0, .int x1, .int (x2 + (1 : Int32))] h (mx_KV (fun h1 => Q (.inl none) h1) (mx_XX mY_X6_body Q))) : mx_SX mY_X6_body d 46 [(0, .ref x0), (1, .int x1), (2, .int x2)] [] h Q := by
  refine mx_aload_n (pc := 46) 0 (mx_dd dd_X6_body 22 (46, .aload_n 0, 1) rfl) rfl rfl ?_
  refine mx_iload_n (pc := 47) 1 (mx_dd dd_X6_body 23 (47, .iload_n 1, 1) rfl) rfl rfl ?_
  refine mx_iload_n (pc := 48) 2 (mx_dd dd_X6_body 24 (48, .iload_n 2, 1) rfl) rfl rfl ?_
  refine mx_iconst (pc := 49) (v := (1 : Int32)) (mx_dd dd_X6_body 25 (49, .iconst 1, 1) rfl) (by decide) ?_
  refine mx_iadd (pc := 50) (mx_dd dd_X6_body 26 (50, .iadd, 1) rfl) ?_
  obtain ⟨g1, P⟩ := P
  obtain ⟨g2, P⟩ := P
  refine mx_cVV (pc := 51) (Y := mY_X6_compound) (As := [.int x1, .int (x2 + (1 : Int32))]) mx_ml_X6_171 mx_y_X6_compound rfl g2 (by decide) rfl (by decide) rfl (mx_dd dd_X6_body 27 (51, .invokevirtual 171, 3) rfl) g1 (by decide) P (fun h1 P => ?_)
  refine mx_goto (pc := 54) 88 (mx_dd dd_X6_body 28 (54, .goto 34, 3) rfl) rfl ?_
  exact mx_return (pc := 88) (mx_dd dd_X6_body 44 (88, .return_, 1) rfl) rfl P
theorem b_X6_body_57 {d : Nat} {h : mxH} {Q : mxRes → mxH → Prop} (x0 : Nat) (x1 : Int32)
    (P : hpK h x0 = 6 ∧ ((¬ (hpI h x0 3) = (1 : Int32) → mx_SX mY_X6_body d 83 [(0, .ref x0)] [] h Q) ∧ ((hpI h x0 3) = (1 : Int32) → 1 ≤ d ∧ mx_SM mY_X6_continuesBody (d - 1) [.long (hpL h x0 6)] h (mx_KI (fun v1 h1 => ((¬ v1 = 0 → mx_SX mY_X6_body d 83 [(0, .ref x0)] [] h1 Q) ∧ (v1 = 0 → hpK h1 x0 = 6 ∧ mx_SM mY_X6_named (d - 1) [.ref x0, .int x1] h1 (mx_KV (fun h2 => Q (.inl none) h2) (mx_XX mY_X6_body Q))))) (mx_XX mY_X6_body Q))))) : mx_SX mY_X6_body d 57 [(0, .ref x0), (1, .int x1)] [] h Q := by
  refine mx_aload_n (pc := 57) 0 (mx_dd dd_X6_body 29 (57, .aload_n 0, 1) rfl) rfl rfl ?_
  obtain ⟨g1, P⟩ := P
  refine mx_getI (pc := 58) mx_fl_X6_74 g1 rfl (mx_dd dd_X6_body 30 (58, .getfield 74, 3) rfl) ?_
  refine mx_iconst (pc := 61) (v := (1 : Int32)) (mx_dd dd_X6_body 31 (61, .iconst 1, 1) rfl) (by decide) ?_
  refine mx_icmp_ne (pc := 62) 83 (mx_dd dd_X6_body 32 (62, .if_icmp .ne 21, 3) rfl) rfl (fun c62 => ?_) (fun c62 => ?_)
  · have P := P.1 c62
    refine mx_sel [0] rfl ?_
    exact P
  · have P := P.2 c62
    refine mx_aload_n (pc := 65) 0 (mx_dd dd_X6_body 33 (65, .aload_n 0, 1) rfl) rfl rfl ?_
    refine mx_getL (pc := 66) mx_fl_X6_87 g1 rfl (mx_dd dd_X6_body 34 (66, .getfield 87, 3) rfl) ?_
    obtain ⟨g2, P⟩ := P
    refine mx_cSI (pc := 69) (Y := mY_X6_continuesBody) (As := [.long (hpL h x0 6)]) mx_ml_X6_129 mx_y_X6_continuesBody rfl rfl (by decide) rfl (mx_dd dd_X6_body 35 (69, .invokestatic 129, 3) rfl) g2 (by decide) P (fun v1 h1 P => ?_)
    refine mx_if_ne (pc := 72) 83 (mx_dd dd_X6_body 36 (72, .ifCond .ne 11, 3) rfl) rfl (fun c72 => ?_) (fun c72 => ?_)
    · have P := P.1 c72
      refine mx_sel [0] rfl ?_
      exact P
    · have P := P.2 c72
      refine mx_aload_n (pc := 75) 0 (mx_dd dd_X6_body 37 (75, .aload_n 0, 1) rfl) rfl rfl ?_
      refine mx_iload_n (pc := 76) 1 (mx_dd dd_X6_body 38 (76, .iload_n 1, 1) rfl) rfl rfl ?_
      obtain ⟨g3, P⟩ := P
      refine mx_cVV (pc := 77) (Y := mY_X6_named) (As := [.int x1]) mx_ml_X6_174 mx_y_X6_named rfl g3 (by decide) rfl (by decide) rfl (mx_dd dd_X6_body 39 (77, .invokevirtual 174, 3) rfl) g2 (by decide) P (fun h2 P => ?_)
      refine mx_goto (pc := 80) 88 (mx_dd dd_X6_body 40 (80, .goto 8, 3) rfl) rfl ?_
      exact mx_return (pc := 88) (mx_dd dd_X6_body 44 (88, .return_, 1) rfl) rfl P
theorem b_X6_body_83 {d : Nat} {h : mxH} {Q : mxRes → mxH → Prop} (x0 : Nat)
    (P : 1 ≤ d ∧ hpK h x0 = 6 ∧ mx_SM mY_X6_fail (d - 1) [.ref x0, .int (1 : Int32)] h (mx_KV (fun h1 => Q (.inl none) h1) (mx_XX mY_X6_body Q))) : mx_SX mY_X6_body d 83 [(0, .ref x0)] [] h Q := by
  refine mx_aload_n (pc := 83) 0 (mx_dd dd_X6_body 41 (83, .aload_n 0, 1) rfl) rfl rfl ?_
  refine mx_iconst (pc := 84) (v := (1 : Int32)) (mx_dd dd_X6_body 42 (84, .iconst 1, 1) rfl) (by decide) ?_
  obtain ⟨g1, P⟩ := P
  obtain ⟨g2, P⟩ := P
  refine mx_cVV (pc := 85) (Y := mY_X6_fail) (As := [.int (1 : Int32)]) mx_ml_X6_93 mx_y_X6_fail rfl g2 (by decide) rfl (by decide) rfl (mx_dd dd_X6_body 43 (85, .invokevirtual 93, 3) rfl) g1 (by decide) P (fun h1 P => ?_)
  exact mx_return (pc := 88) (mx_dd dd_X6_body 44 (88, .return_, 1) rfl) rfl P
theorem b_X6_compound {d : Nat} {h : mxH} {Q : mxRes → mxH → Prop} (x0 : Nat) (x1 : Int32) (x2 : Int32)
    (P : hpK h x0 = 6 ∧ ((¬ (hpI h x0 3) = (40 : Int32) → ((¬ (hpI h x0 3) = (123 : Int32) → 1 ≤ d ∧ mx_SM mY_X6_isWord (d - 1) [.ref x0, .long (339 : Int64)] h (mx_KI (fun v1 h1 => ((v1 = 0 → hpK h1 x0 = 6 ∧ mx_SM mY_X6_isWord (d - 1) [.ref x0, .long (43523697 : Int64)] h1 (mx_KI (fun v2 h2 => ((v2 = 0 → hpK h2 x0 = 6 ∧ mx_SM mY_X6_definition (d - 1) [.ref x0, .int x1, .int x2] h2 (mx_KV (fun h3 => Q (.inl none) h3) (mx_XX mY_X6_compound Q))) ∧ (¬ v2 = 0 → hpK h2 x0 = 6 ∧ mx_SM mY_X6_loop (d - 1) [.ref x0, .int x2] h2 (mx_KV (fun h4 => Q (.inl none) h4) (mx_XX mY_X6_compound Q))))) (mx_XX mY_X6_compound Q))) ∧ (¬ v1 = 0 → hpK h1 x0 = 6 ∧ mx_SM mY_X6_condition (d - 1) [.ref x0, .int x2] h1 (mx_KV (fun h5 => Q (.inl none) h5) (mx_XX mY_X6_compound Q))))) (mx_XX mY_X6_compound Q))) ∧ ((hpI h x0 3) = (123 : Int32) → 1 ≤ d ∧ mx_SM mY_X6_advance (d - 1) [.ref x0] h (mx_KV (fun h6 => hpK h6 x0 = 6 ∧ mx_SM mY_X6_script (d - 1) [.ref x0, .int x2] h6 (mx_KI (fun v3 h7 => hpK h7 x0 = 6 ∧ mx_SM mY_X6_expect (d - 1) [.ref x0, .int (125 : Int32)] h7 (mx_KV (fun h8 => Q (.inl none) h8) (mx_XX mY_X6_compound Q))) (mx_XX mY_X6_compound Q))) (mx_XX mY_X6_compound Q))))) ∧ ((hpI h x0 3) = (40 : Int32) → 1 ≤ d ∧ mx_SM mY_X6_parenthesis (d - 1) [.ref x0, .int x2] h (mx_KV (fun h9 => Q (.inl none) h9) (mx_XX mY_X6_compound Q))))) : mx_SM mY_X6_compound d [.ref x0, .int x1, .int x2] h Q := by
  refine mx_SM_of (by decide) (Nat.le_of_ble_eq_true rfl) ?_
  show mx_SX mY_X6_compound d 0 [(0, .ref x0), (1, .int x1), (2, .int x2)] [] h Q
  refine mx_aload_n (pc := 0) 0 (mx_dd dd_X6_compound 0 (0, .aload_n 0, 1) rfl) rfl rfl ?_
  obtain ⟨g1, P⟩ := P
  refine mx_getI (pc := 1) mx_fl_X6_74 g1 rfl (mx_dd dd_X6_compound 1 (1, .getfield 74, 3) rfl) ?_
  refine mx_bipush (pc := 4) (v := (40 : Int32)) (mx_dd dd_X6_compound 2 (4, .bipush 40, 2) rfl) (by decide) ?_
  refine mx_icmp_ne (pc := 6) 17 (mx_dd dd_X6_compound 3 (6, .if_icmp .ne 11, 3) rfl) rfl (fun c6 => ?_) (fun c6 => ?_)
  · have P := P.1 c6
    refine mx_aload_n (pc := 17) 0 (mx_dd dd_X6_compound 8 (17, .aload_n 0, 1) rfl) rfl rfl ?_
    refine mx_getI (pc := 18) mx_fl_X6_74 g1 rfl (mx_dd dd_X6_compound 9 (18, .getfield 74, 3) rfl) ?_
    refine mx_bipush (pc := 21) (v := (123 : Int32)) (mx_dd dd_X6_compound 10 (21, .bipush 123, 2) rfl) (by decide) ?_
    refine mx_icmp_ne (pc := 23) 45 (mx_dd dd_X6_compound 11 (23, .if_icmp .ne 22, 3) rfl) rfl (fun c23 => ?_) (fun c23 => ?_)
    · have P := P.1 c23
      refine mx_aload_n (pc := 45) 0 (mx_dd dd_X6_compound 22 (45, .aload_n 0, 1) rfl) rfl rfl ?_
      refine mx_ldc2 (pc := 46) mx_cL_X6_106 (mx_dd dd_X6_compound 23 (46, .ldc2_w 106, 3) rfl) ?_
      obtain ⟨g2, P⟩ := P
      refine mx_cVI (pc := 49) (Y := mY_X6_isWord) (As := [.long (339 : Int64)]) mx_ml_X6_102 mx_y_X6_isWord rfl g1 (by decide) rfl (by decide) rfl (mx_dd dd_X6_compound 24 (49, .invokevirtual 102, 3) rfl) g2 (by decide) P (fun v1 h1 P => ?_)
      refine mx_if_eq (pc := 52) 63 (mx_dd dd_X6_compound 25 (52, .ifCond .eq 11, 3) rfl) rfl (fun c52 => ?_) (fun c52 => ?_)
      · have P := P.1 c52
        refine mx_aload_n (pc := 63) 0 (mx_dd dd_X6_compound 30 (63, .aload_n 0, 1) rfl) rfl rfl ?_
        refine mx_ldc2 (pc := 64) mx_cL_X6_108 (mx_dd dd_X6_compound 31 (64, .ldc2_w 108, 3) rfl) ?_
        obtain ⟨g3, P⟩ := P
        refine mx_cVI (pc := 67) (Y := mY_X6_isWord) (As := [.long (43523697 : Int64)]) mx_ml_X6_102 mx_y_X6_isWord rfl g3 (by decide) rfl (by decide) rfl (mx_dd dd_X6_compound 32 (67, .invokevirtual 102, 3) rfl) g2 (by decide) P (fun v2 h2 P => ?_)
        refine mx_if_eq (pc := 70) 81 (mx_dd dd_X6_compound 33 (70, .ifCond .eq 11, 3) rfl) rfl (fun c70 => ?_) (fun c70 => ?_)
        · have P := P.1 c70
          refine mx_aload_n (pc := 81) 0 (mx_dd dd_X6_compound 38 (81, .aload_n 0, 1) rfl) rfl rfl ?_
          refine mx_iload_n (pc := 82) 1 (mx_dd dd_X6_compound 39 (82, .iload_n 1, 1) rfl) rfl rfl ?_
          refine mx_iload_n (pc := 83) 2 (mx_dd dd_X6_compound 40 (83, .iload_n 2, 1) rfl) rfl rfl ?_
          obtain ⟨g4, P⟩ := P
          refine mx_cVV (pc := 84) (Y := mY_X6_definition) (As := [.int x1, .int x2]) mx_ml_X6_186 mx_y_X6_definition rfl g4 (by decide) rfl (by decide) rfl (mx_dd dd_X6_compound 41 (84, .invokevirtual 186, 3) rfl) g2 (by decide) P (fun h3 P => ?_)
          exact mx_return (pc := 87) (mx_dd dd_X6_compound 42 (87, .return_, 1) rfl) rfl P
        · have P := P.2 c70
          refine mx_aload_n (pc := 73) 0 (mx_dd dd_X6_compound 34 (73, .aload_n 0, 1) rfl) rfl rfl ?_
          refine mx_iload_n (pc := 74) 2 (mx_dd dd_X6_compound 35 (74, .iload_n 2, 1) rfl) rfl rfl ?_
          obtain ⟨g5, P⟩ := P
          refine mx_cVV (pc := 75) (Y := mY_X6_loop) (As := [.int x2]) mx_ml_X6_183 mx_y_X6_loop rfl g5 (by decide) rfl (by decide) rfl (mx_dd dd_X6_compound 36 (75, .invokevirtual 183, 3) rfl) g2 (by decide) P (fun h4 P => ?_)
          refine mx_goto (pc := 78) 87 (mx_dd dd_X6_compound 37 (78, .goto 9, 3) rfl) rfl ?_
          exact mx_return (pc := 87) (mx_dd dd_X6_compound 42 (87, .return_, 1) rfl) rfl P
      · have P := P.2 c52
        refine mx_aload_n (pc := 55) 0 (mx_dd dd_X6_compound 26 (55, .aload_n 0, 1) rfl) rfl rfl ?_
        refine mx_iload_n (pc := 56) 2 (mx_dd dd_X6_compound 27 (56, .iload_n 2, 1) rfl) rfl rfl ?_
        obtain ⟨g6, P⟩ := P
        refine mx_cVV (pc := 57) (Y := mY_X6_condition) (As := [.int x2]) mx_ml_X6_180 mx_y_X6_condition rfl g6 (by decide) rfl (by decide) rfl (mx_dd dd_X6_compound 28 (57, .invokevirtual 180, 3) rfl) g2 (by decide) P (fun h5 P => ?_)
        refine mx_goto (pc := 60) 87 (mx_dd dd_X6_compound 29 (60, .goto 27, 3) rfl) rfl ?_
        exact mx_return (pc := 87) (mx_dd dd_X6_compound 42 (87, .return_, 1) rfl) rfl P
    · have P := P.2 c23
      refine mx_aload_n (pc := 26) 0 (mx_dd dd_X6_compound 12 (26, .aload_n 0, 1) rfl) rfl rfl ?_
      obtain ⟨g7, P⟩ := P
      refine mx_cVV (pc := 27) (Y := mY_X6_advance) (As := []) mx_ml_X6_43 mx_y_X6_advance rfl g1 (by decide) rfl (by decide) rfl (mx_dd dd_X6_compound 13 (27, .invokevirtual 43, 3) rfl) g7 (by decide) P (fun h6 P => ?_)
      refine mx_aload_n (pc := 30) 0 (mx_dd dd_X6_compound 14 (30, .aload_n 0, 1) rfl) rfl rfl ?_
      refine mx_iload_n (pc := 31) 2 (mx_dd dd_X6_compound 15 (31, .iload_n 2, 1) rfl) rfl rfl ?_
      obtain ⟨g8, P⟩ := P
      refine mx_cVI (pc := 32) (Y := mY_X6_script) (As := [.int x2]) mx_ml_X6_46 mx_y_X6_script rfl g8 (by decide) rfl (by decide) rfl (mx_dd dd_X6_compound 16 (32, .invokevirtual 46, 3) rfl) g7 (by decide) P (fun v3 h7 P => ?_)
      refine mx_pop (pc := 35) (mx_dd dd_X6_compound 17 (35, .pop, 1) rfl) rfl ?_
      refine mx_aload_n (pc := 36) 0 (mx_dd dd_X6_compound 18 (36, .aload_n 0, 1) rfl) rfl rfl ?_
      refine mx_bipush (pc := 37) (v := (125 : Int32)) (mx_dd dd_X6_compound 19 (37, .bipush 125, 2) rfl) (by decide) ?_
      obtain ⟨g9, P⟩ := P
      refine mx_cVV (pc := 39) (Y := mY_X6_expect) (As := [.int (125 : Int32)]) mx_ml_X6_50 mx_y_X6_expect rfl g9 (by decide) rfl (by decide) rfl (mx_dd dd_X6_compound 20 (39, .invokevirtual 50, 3) rfl) g7 (by decide) P (fun h8 P => ?_)
      refine mx_goto (pc := 42) 87 (mx_dd dd_X6_compound 21 (42, .goto 45, 3) rfl) rfl ?_
      exact mx_return (pc := 87) (mx_dd dd_X6_compound 42 (87, .return_, 1) rfl) rfl P
  · have P := P.2 c6
    refine mx_aload_n (pc := 9) 0 (mx_dd dd_X6_compound 4 (9, .aload_n 0, 1) rfl) rfl rfl ?_
    refine mx_iload_n (pc := 10) 2 (mx_dd dd_X6_compound 5 (10, .iload_n 2, 1) rfl) rfl rfl ?_
    obtain ⟨g10, P⟩ := P
    refine mx_cVV (pc := 11) (Y := mY_X6_parenthesis) (As := [.int x2]) mx_ml_X6_177 mx_y_X6_parenthesis rfl g1 (by decide) rfl (by decide) rfl (mx_dd dd_X6_compound 6 (11, .invokevirtual 177, 3) rfl) g10 (by decide) P (fun h9 P => ?_)
    refine mx_goto (pc := 14) 87 (mx_dd dd_X6_compound 7 (14, .goto 73, 3) rfl) rfl ?_
    exact mx_return (pc := 87) (mx_dd dd_X6_compound 42 (87, .return_, 1) rfl) rfl P
theorem b_X6_parenthesis {d : Nat} {h : mxH} {Q : mxRes → mxH → Prop} (x0 : Nat) (x1 : Int32)
    (P : 1 ≤ d ∧ hpK h x0 = 6 ∧ mx_SM mY_X6_advance (d - 1) [.ref x0] h (mx_KV (fun h1 => hpK h1 x0 = 6 ∧ ∃ b1 : Nat, hpR h1 x0 2 = some b1 ∧ hpK h1 b1 = 7 ∧ mx_SM mY_X7_emit (d - 1) [.ref b1, .int (15 : Int32)] h1 (mx_KI (fun v1 h2 => hpK h2 x0 = 6 ∧ mx_SM mY_X6_script (d - 1) [.ref x0, .int x1] h2 (mx_KI (fun v2 h3 => hpK h3 x0 = 6 ∧ mx_SM mY_X6_expect (d - 1) [.ref x0, .int (41 : Int32)] h3 (mx_KV (fun h4 => hpK h4 x0 = 6 ∧ ∃ b2 : Nat, hpR h4 x0 2 = some b2 ∧ hpK h4 b2 = 7 ∧ mx_SM mY_X7_emit (d - 1) [.ref b2, .int (21 : Int32)] h4 (mx_KI (fun v3 h5 => hpK h5 x0 = 6 ∧ ∃ b3 : Nat, hpR h5 x0 2 = some b3 ∧ hpK h5 b3 = 7 ∧ mx_SM mY_X7_aim (d - 1) [.ref b3, .int v1, .int (hpI h5 b3 3)] h5 (mx_KV (fun h6 => Q (.inl none) h6) (mx_XX mY_X6_parenthesis Q))) (mx_XX mY_X6_parenthesis Q))) (mx_XX mY_X6_parenthesis Q))) (mx_XX mY_X6_parenthesis Q))) (mx_XX mY_X6_parenthesis Q))) (mx_XX mY_X6_parenthesis Q))) : mx_SM mY_X6_parenthesis d [.ref x0, .int x1] h Q := by
  refine mx_SM_of (by decide) (Nat.le_of_ble_eq_true rfl) ?_
  show mx_SX mY_X6_parenthesis d 0 [(0, .ref x0), (1, .int x1)] [] h Q
  refine mx_aload_n (pc := 0) 0 (mx_dd dd_X6_parenthesis 0 (0, .aload_n 0, 1) rfl) rfl rfl ?_
  obtain ⟨g1, P⟩ := P
  obtain ⟨g2, P⟩ := P
  refine mx_cVV (pc := 1) (Y := mY_X6_advance) (As := []) mx_ml_X6_43 mx_y_X6_advance rfl g2 (by decide) rfl (by decide) rfl (mx_dd dd_X6_parenthesis 1 (1, .invokevirtual 43, 3) rfl) g1 (by decide) P (fun h1 P => ?_)
  refine mx_aload_n (pc := 4) 0 (mx_dd dd_X6_parenthesis 2 (4, .aload_n 0, 1) rfl) rfl rfl ?_
  obtain ⟨g3, P⟩ := P
  obtain ⟨b1, g4, P⟩ := P
  refine mx_getR (pc := 5) mx_fl_X6_28 g3 rfl g4 (mx_dd dd_X6_parenthesis 3 (5, .getfield 28, 3) rfl) ?_
  refine mx_bipush (pc := 8) (v := (15 : Int32)) (mx_dd dd_X6_parenthesis 4 (8, .bipush 15, 2) rfl) (by decide) ?_
  obtain ⟨g5, P⟩ := P
  refine mx_cVI (pc := 10) (Y := mY_X7_emit) (As := [.int (15 : Int32)]) mx_ml_X6_54 mx_y_X7_emit rfl g5 (by decide) rfl (by decide) rfl (mx_dd dd_X6_parenthesis 5 (10, .invokevirtual 54, 3) rfl) g1 (by decide) P (fun v1 h2 P => ?_)
  refine mx_istore_n (pc := 13) (mx_dd dd_X6_parenthesis 6 (13, .istore_n 2, 1) rfl) rfl (by decide) (lv' := [(2, _), (0, _), (1, _)]) rfl ?_
  refine mx_aload_n (pc := 14) 1 (mx_dd dd_X6_parenthesis 7 (14, .aload_n 0, 1) rfl) rfl rfl ?_
  refine mx_iload_n (pc := 15) 2 (mx_dd dd_X6_parenthesis 8 (15, .iload_n 1, 1) rfl) rfl rfl ?_
  obtain ⟨g6, P⟩ := P
  refine mx_cVI (pc := 16) (Y := mY_X6_script) (As := [.int x1]) mx_ml_X6_46 mx_y_X6_script rfl g6 (by decide) rfl (by decide) rfl (mx_dd dd_X6_parenthesis 9 (16, .invokevirtual 46, 3) rfl) g1 (by decide) P (fun v2 h3 P => ?_)
  refine mx_pop (pc := 19) (mx_dd dd_X6_parenthesis 10 (19, .pop, 1) rfl) rfl ?_
  refine mx_aload_n (pc := 20) 1 (mx_dd dd_X6_parenthesis 11 (20, .aload_n 0, 1) rfl) rfl rfl ?_
  refine mx_bipush (pc := 21) (v := (41 : Int32)) (mx_dd dd_X6_parenthesis 12 (21, .bipush 41, 2) rfl) (by decide) ?_
  obtain ⟨g7, P⟩ := P
  refine mx_cVV (pc := 23) (Y := mY_X6_expect) (As := [.int (41 : Int32)]) mx_ml_X6_50 mx_y_X6_expect rfl g7 (by decide) rfl (by decide) rfl (mx_dd dd_X6_parenthesis 13 (23, .invokevirtual 50, 3) rfl) g1 (by decide) P (fun h4 P => ?_)
  refine mx_aload_n (pc := 26) 1 (mx_dd dd_X6_parenthesis 14 (26, .aload_n 0, 1) rfl) rfl rfl ?_
  obtain ⟨g8, P⟩ := P
  obtain ⟨b2, g9, P⟩ := P
  refine mx_getR (pc := 27) mx_fl_X6_28 g8 rfl g9 (mx_dd dd_X6_parenthesis 15 (27, .getfield 28, 3) rfl) ?_
  refine mx_bipush (pc := 30) (v := (21 : Int32)) (mx_dd dd_X6_parenthesis 16 (30, .bipush 21, 2) rfl) (by decide) ?_
  obtain ⟨g10, P⟩ := P
  refine mx_cVI (pc := 32) (Y := mY_X7_emit) (As := [.int (21 : Int32)]) mx_ml_X6_54 mx_y_X7_emit rfl g10 (by decide) rfl (by decide) rfl (mx_dd dd_X6_parenthesis 17 (32, .invokevirtual 54, 3) rfl) g1 (by decide) P (fun v3 h5 P => ?_)
  refine mx_pop (pc := 35) (mx_dd dd_X6_parenthesis 18 (35, .pop, 1) rfl) rfl ?_
  refine mx_aload_n (pc := 36) 1 (mx_dd dd_X6_parenthesis 19 (36, .aload_n 0, 1) rfl) rfl rfl ?_
  obtain ⟨g11, P⟩ := P
  obtain ⟨b3, g12, P⟩ := P
  refine mx_getR (pc := 37) mx_fl_X6_28 g11 rfl g12 (mx_dd dd_X6_parenthesis 20 (37, .getfield 28, 3) rfl) ?_
  refine mx_iload_n (pc := 40) 0 (mx_dd dd_X6_parenthesis 21 (40, .iload_n 2, 1) rfl) rfl rfl ?_
  refine mx_aload_n (pc := 41) 1 (mx_dd dd_X6_parenthesis 22 (41, .aload_n 0, 1) rfl) rfl rfl ?_
  refine mx_getR (pc := 42) mx_fl_X6_28 g11 rfl g12 (mx_dd dd_X6_parenthesis 23 (42, .getfield 28, 3) rfl) ?_
  obtain ⟨g13, P⟩ := P
  refine mx_getI (pc := 45) mx_fl_X6_138 g13 rfl (mx_dd dd_X6_parenthesis 24 (45, .getfield 138, 3) rfl) ?_
  refine mx_cVV (pc := 48) (Y := mY_X7_aim) (As := [.int v1, .int (hpI h5 b3 3)]) mx_ml_X6_141 mx_y_X7_aim rfl g13 (by decide) rfl (by decide) rfl (mx_dd dd_X6_parenthesis 25 (48, .invokevirtual 141, 3) rfl) g1 (by decide) P (fun h6 P => ?_)
  exact mx_return (pc := 51) (mx_dd dd_X6_parenthesis 26 (51, .return_, 1) rfl) rfl P
theorem b_X6_condition {d : Nat} {h : mxH} {Q : mxRes → mxH → Prop} (x0 : Nat) (x1 : Int32)
    (P : 1 ≤ d ∧ hpK h x0 = 6 ∧ mx_SM mY_X6_advance (d - 1) [.ref x0] h (mx_KV (fun h1 => hpK h1 x0 = 6 ∧ mx_SM mY_X6_chain (d - 1) [.ref x0, .int x1] h1 (mx_KV (fun h2 => hpK h2 x0 = 6 ∧ mx_SM mY_X6_expect (d - 1) [.ref x0, .int (59 : Int32)] h2 (mx_KV (fun h3 => hpK h3 x0 = 6 ∧ mx_SM mY_X6_expectWord (d - 1) [.ref x0, .long (1024211 : Int64)] h3 (mx_KV (fun h4 => hpK h4 x0 = 6 ∧ ∃ b1 : Nat, hpR h4 x0 2 = some b1 ∧ hpK h4 b1 = 7 ∧ mx_SM mY_X7_emit (d - 1) [.ref b1, .int (11 : Int32)] h4 (mx_KI (fun v1 h5 => hpK h5 x0 = 6 ∧ mx_SM mY_X6_script (d - 1) [.ref x0, .int x1] h5 (mx_KI (fun v2 h6 => hpK h6 x0 = 6 ∧ ∃ b2 : Nat, hpR h6 x0 2 = some b2 ∧ hpK h6 b2 = 7 ∧ mx_SM mY_X7_emit (d - 1) [.ref b2, .int (9 : Int32)] h6 (mx_KI (fun v3 h7 => hpK h7 x0 = 6 ∧ ∃ b3 : Nat, hpR h7 x0 2 = some b3 ∧ hpK h7 b3 = 7 ∧ mx_SM mY_X7_aim (d - 1) [.ref b3, .int v1, .int (hpI h7 b3 3)] h7 (mx_KV (fun h8 => hpK h8 x0 = 6 ∧ mx_SM mY_X6_isWord (d - 1) [.ref x0, .long (270401 : Int64)] h8 (mx_KI (fun v4 h9 => ((v4 = 0 → hpK h9 x0 = 6 ∧ ∃ b4 : Nat, hpR h9 x0 2 = some b4 ∧ hpK h9 b4 = 7 ∧ mx_SM mY_X7_emit (d - 1) [.ref b4, .int (7 : Int32)] h9 (mx_KI (fun v5 h10 => mx_SX mY_X6_condition d 96 [(0, .ref x0), (3, .int v3)] [] h10 Q) (mx_XX mY_X6_condition Q))) ∧ (¬ v4 = 0 → hpK h9 x0 = 6 ∧ mx_SM mY_X6_advance (d - 1) [.ref x0] h9 (mx_KV (fun h11 => hpK h11 x0 = 6 ∧ mx_SM mY_X6_script (d - 1) [.ref x0, .int x1] h11 (mx_KI (fun v6 h12 => mx_SX mY_X6_condition d 96 [(0, .ref x0), (3, .int v3)] [] h12 Q) (mx_XX mY_X6_condition Q))) (mx_XX mY_X6_condition Q))))) (mx_XX mY_X6_condition Q))) (mx_XX mY_X6_condition Q))) (mx_XX mY_X6_condition Q))) (mx_XX mY_X6_condition Q))) (mx_XX mY_X6_condition Q))) (mx_XX mY_X6_condition Q))) (mx_XX mY_X6_condition Q))) (mx_XX mY_X6_condition Q))) (mx_XX mY_X6_condition Q))) : mx_SM mY_X6_condition d [.ref x0, .int x1] h Q := by
  refine mx_SM_of (by decide) (Nat.le_of_ble_eq_true rfl) ?_
  show mx_SX mY_X6_condition d 0 [(0, .ref x0), (1, .int x1)] [] h Q
  refine mx_aload_n (pc := 0) 0 (mx_dd dd_X6_condition 0 (0, .aload_n 0, 1) rfl) rfl rfl ?_
  obtain ⟨g1, P⟩ := P
  obtain ⟨g2, P⟩ := P
  refine mx_cVV (pc := 1) (Y := mY_X6_advance) (As := []) mx_ml_X6_43 mx_y_X6_advance rfl g2 (by decide) rfl (by decide) rfl (mx_dd dd_X6_condition 1 (1, .invokevirtual 43, 3) rfl) g1 (by decide) P (fun h1 P => ?_)
  refine mx_aload_n (pc := 4) 0 (mx_dd dd_X6_condition 2 (4, .aload_n 0, 1) rfl) rfl rfl ?_
  refine mx_iload_n (pc := 5) 1 (mx_dd dd_X6_condition 3 (5, .iload_n 1, 1) rfl) rfl rfl ?_
  obtain ⟨g3, P⟩ := P
  refine mx_cVV (pc := 6) (Y := mY_X6_chain) (As := [.int x1]) mx_ml_X6_132 mx_y_X6_chain rfl g3 (by decide) rfl (by decide) rfl (mx_dd dd_X6_condition 4 (6, .invokevirtual 132, 3) rfl) g1 (by decide) P (fun h2 P => ?_)
  refine mx_aload_n (pc := 9) 0 (mx_dd dd_X6_condition 5 (9, .aload_n 0, 1) rfl) rfl rfl ?_
  refine mx_bipush (pc := 10) (v := (59 : Int32)) (mx_dd dd_X6_condition 6 (10, .bipush 59, 2) rfl) (by decide) ?_
  obtain ⟨g4, P⟩ := P
  refine mx_cVV (pc := 12) (Y := mY_X6_expect) (As := [.int (59 : Int32)]) mx_ml_X6_50 mx_y_X6_expect rfl g4 (by decide) rfl (by decide) rfl (mx_dd dd_X6_condition 7 (12, .invokevirtual 50, 3) rfl) g1 (by decide) P (fun h3 P => ?_)
  refine mx_aload_n (pc := 15) 0 (mx_dd dd_X6_condition 8 (15, .aload_n 0, 1) rfl) rfl rfl ?_
  refine mx_ldc2 (pc := 16) mx_cL_X6_112 (mx_dd dd_X6_condition 9 (16, .ldc2_w 112, 3) rfl) ?_
  obtain ⟨g5, P⟩ := P
  refine mx_cVV (pc := 19) (Y := mY_X6_expectWord) (As := [.long (1024211 : Int64)]) mx_ml_X6_189 mx_y_X6_expectWord rfl g5 (by decide) rfl (by decide) rfl (mx_dd dd_X6_condition 10 (19, .invokevirtual 189, 3) rfl) g1 (by decide) P (fun h4 P => ?_)
  refine mx_aload_n (pc := 22) 0 (mx_dd dd_X6_condition 11 (22, .aload_n 0, 1) rfl) rfl rfl ?_
  obtain ⟨g6, P⟩ := P
  obtain ⟨b1, g7, P⟩ := P
  refine mx_getR (pc := 23) mx_fl_X6_28 g6 rfl g7 (mx_dd dd_X6_condition 12 (23, .getfield 28, 3) rfl) ?_
  refine mx_bipush (pc := 26) (v := (11 : Int32)) (mx_dd dd_X6_condition 13 (26, .bipush 11, 2) rfl) (by decide) ?_
  obtain ⟨g8, P⟩ := P
  refine mx_cVI (pc := 28) (Y := mY_X7_emit) (As := [.int (11 : Int32)]) mx_ml_X6_54 mx_y_X7_emit rfl g8 (by decide) rfl (by decide) rfl (mx_dd dd_X6_condition 14 (28, .invokevirtual 54, 3) rfl) g1 (by decide) P (fun v1 h5 P => ?_)
  refine mx_istore_n (pc := 31) (mx_dd dd_X6_condition 15 (31, .istore_n 2, 1) rfl) rfl (by decide) (lv' := [(2, _), (0, _), (1, _)]) rfl ?_
  refine mx_aload_n (pc := 32) 1 (mx_dd dd_X6_condition 16 (32, .aload_n 0, 1) rfl) rfl rfl ?_
  refine mx_iload_n (pc := 33) 2 (mx_dd dd_X6_condition 17 (33, .iload_n 1, 1) rfl) rfl rfl ?_
  obtain ⟨g9, P⟩ := P
  refine mx_cVI (pc := 34) (Y := mY_X6_script) (As := [.int x1]) mx_ml_X6_46 mx_y_X6_script rfl g9 (by decide) rfl (by decide) rfl (mx_dd dd_X6_condition 18 (34, .invokevirtual 46, 3) rfl) g1 (by decide) P (fun v2 h6 P => ?_)
  refine mx_pop (pc := 37) (mx_dd dd_X6_condition 19 (37, .pop, 1) rfl) rfl ?_
  refine mx_aload_n (pc := 38) 1 (mx_dd dd_X6_condition 20 (38, .aload_n 0, 1) rfl) rfl rfl ?_
  obtain ⟨g10, P⟩ := P
  obtain ⟨b2, g11, P⟩ := P
  refine mx_getR (pc := 39) mx_fl_X6_28 g10 rfl g11 (mx_dd dd_X6_condition 21 (39, .getfield 28, 3) rfl) ?_
  refine mx_bipush (pc := 42) (v := (9 : Int32)) (mx_dd dd_X6_condition 22 (42, .bipush 9, 2) rfl) (by decide) ?_
  obtain ⟨g12, P⟩ := P
  refine mx_cVI (pc := 44) (Y := mY_X7_emit) (As := [.int (9 : Int32)]) mx_ml_X6_54 mx_y_X7_emit rfl g12 (by decide) rfl (by decide) rfl (mx_dd dd_X6_condition 23 (44, .invokevirtual 54, 3) rfl) g1 (by decide) P (fun v3 h7 P => ?_)
  refine mx_istore_n (pc := 47) (mx_dd dd_X6_condition 24 (47, .istore_n 3, 1) rfl) rfl (by decide) (lv' := [(3, _), (2, _), (0, _), (1, _)]) rfl ?_
  refine mx_aload_n (pc := 48) 2 (mx_dd dd_X6_condition 25 (48, .aload_n 0, 1) rfl) rfl rfl ?_
  obtain ⟨g13, P⟩ := P
  obtain ⟨b3, g14, P⟩ := P
  refine mx_getR (pc := 49) mx_fl_X6_28 g13 rfl g14 (mx_dd dd_X6_condition 26 (49, .getfield 28, 3) rfl) ?_
  refine mx_iload_n (pc := 52) 1 (mx_dd dd_X6_condition 27 (52, .iload_n 2, 1) rfl) rfl rfl ?_
  refine mx_aload_n (pc := 53) 2 (mx_dd dd_X6_condition 28 (53, .aload_n 0, 1) rfl) rfl rfl ?_
  refine mx_getR (pc := 54) mx_fl_X6_28 g13 rfl g14 (mx_dd dd_X6_condition 29 (54, .getfield 28, 3) rfl) ?_
  obtain ⟨g15, P⟩ := P
  refine mx_getI (pc := 57) mx_fl_X6_138 g15 rfl (mx_dd dd_X6_condition 30 (57, .getfield 138, 3) rfl) ?_
  refine mx_cVV (pc := 60) (Y := mY_X7_aim) (As := [.int v1, .int (hpI h7 b3 3)]) mx_ml_X6_141 mx_y_X7_aim rfl g15 (by decide) rfl (by decide) rfl (mx_dd dd_X6_condition 31 (60, .invokevirtual 141, 3) rfl) g1 (by decide) P (fun h8 P => ?_)
  refine mx_aload_n (pc := 63) 2 (mx_dd dd_X6_condition 32 (63, .aload_n 0, 1) rfl) rfl rfl ?_
  refine mx_ldc2 (pc := 64) mx_cL_X6_114 (mx_dd dd_X6_condition 33 (64, .ldc2_w 114, 3) rfl) ?_
  obtain ⟨g16, P⟩ := P
  refine mx_cVI (pc := 67) (Y := mY_X6_isWord) (As := [.long (270401 : Int64)]) mx_ml_X6_102 mx_y_X6_isWord rfl g16 (by decide) rfl (by decide) rfl (mx_dd dd_X6_condition 34 (67, .invokevirtual 102, 3) rfl) g1 (by decide) P (fun v4 h9 P => ?_)
  refine mx_if_eq (pc := 70) 86 (mx_dd dd_X6_condition 35 (70, .ifCond .eq 16, 3) rfl) rfl (fun c70 => ?_) (fun c70 => ?_)
  · have P := P.1 c70
    refine mx_aload_n (pc := 86) 2 (mx_dd dd_X6_condition 43 (86, .aload_n 0, 1) rfl) rfl rfl ?_
    obtain ⟨g17, P⟩ := P
    obtain ⟨b4, g18, P⟩ := P
    refine mx_getR (pc := 87) mx_fl_X6_28 g17 rfl g18 (mx_dd dd_X6_condition 44 (87, .getfield 28, 3) rfl) ?_
    refine mx_bipush (pc := 90) (v := (7 : Int32)) (mx_dd dd_X6_condition 45 (90, .bipush 7, 2) rfl) (by decide) ?_
    obtain ⟨g19, P⟩ := P
    refine mx_cVI (pc := 92) (Y := mY_X7_emit) (As := [.int (7 : Int32)]) mx_ml_X6_54 mx_y_X7_emit rfl g19 (by decide) rfl (by decide) rfl (mx_dd dd_X6_condition 46 (92, .invokevirtual 54, 3) rfl) g1 (by decide) P (fun v5 h10 P => ?_)
    refine mx_pop (pc := 95) (mx_dd dd_X6_condition 47 (95, .pop, 1) rfl) rfl ?_
    refine mx_sel [2, 0] rfl ?_
    exact P
  · have P := P.2 c70
    refine mx_aload_n (pc := 73) 2 (mx_dd dd_X6_condition 36 (73, .aload_n 0, 1) rfl) rfl rfl ?_
    obtain ⟨g20, P⟩ := P
    refine mx_cVV (pc := 74) (Y := mY_X6_advance) (As := []) mx_ml_X6_43 mx_y_X6_advance rfl g20 (by decide) rfl (by decide) rfl (mx_dd dd_X6_condition 37 (74, .invokevirtual 43, 3) rfl) g1 (by decide) P (fun h11 P => ?_)
    refine mx_aload_n (pc := 77) 2 (mx_dd dd_X6_condition 38 (77, .aload_n 0, 1) rfl) rfl rfl ?_
    refine mx_iload_n (pc := 78) 3 (mx_dd dd_X6_condition 39 (78, .iload_n 1, 1) rfl) rfl rfl ?_
    obtain ⟨g21, P⟩ := P
    refine mx_cVI (pc := 79) (Y := mY_X6_script) (As := [.int x1]) mx_ml_X6_46 mx_y_X6_script rfl g21 (by decide) rfl (by decide) rfl (mx_dd dd_X6_condition 40 (79, .invokevirtual 46, 3) rfl) g1 (by decide) P (fun v6 h12 P => ?_)
    refine mx_pop (pc := 82) (mx_dd dd_X6_condition 41 (82, .pop, 1) rfl) rfl ?_
    refine mx_goto (pc := 83) 96 (mx_dd dd_X6_condition 42 (83, .goto 13, 3) rfl) rfl ?_
    refine mx_sel [2, 0] rfl ?_
    exact P
theorem b_X6_condition_96 {d : Nat} {h : mxH} {Q : mxRes → mxH → Prop} (x0 : Nat) (x3 : Int32)
    (P : hpK h x0 = 6 ∧ ∃ b1 : Nat, hpR h x0 2 = some b1 ∧ hpK h b1 = 7 ∧ 1 ≤ d ∧ mx_SM mY_X7_aim (d - 1) [.ref b1, .int x3, .int (hpI h b1 3)] h (mx_KV (fun h1 => hpK h1 x0 = 6 ∧ mx_SM mY_X6_expectWord (d - 1) [.ref x0, .long (231 : Int64)] h1 (mx_KV (fun h2 => Q (.inl none) h2) (mx_XX mY_X6_condition Q))) (mx_XX mY_X6_condition Q))) : mx_SX mY_X6_condition d 96 [(0, .ref x0), (3, .int x3)] [] h Q := by
  refine mx_aload_n (pc := 96) 0 (mx_dd dd_X6_condition 48 (96, .aload_n 0, 1) rfl) rfl rfl ?_
  obtain ⟨g1, P⟩ := P
  obtain ⟨b1, g2, P⟩ := P
  refine mx_getR (pc := 97) mx_fl_X6_28 g1 rfl g2 (mx_dd dd_X6_condition 49 (97, .getfield 28, 3) rfl) ?_
  refine mx_iload_n (pc := 100) 1 (mx_dd dd_X6_condition 50 (100, .iload_n 3, 1) rfl) rfl rfl ?_
  refine mx_aload_n (pc := 101) 0 (mx_dd dd_X6_condition 51 (101, .aload_n 0, 1) rfl) rfl rfl ?_
  refine mx_getR (pc := 102) mx_fl_X6_28 g1 rfl g2 (mx_dd dd_X6_condition 52 (102, .getfield 28, 3) rfl) ?_
  obtain ⟨g3, P⟩ := P
  refine mx_getI (pc := 105) mx_fl_X6_138 g3 rfl (mx_dd dd_X6_condition 53 (105, .getfield 138, 3) rfl) ?_
  obtain ⟨g4, P⟩ := P
  refine mx_cVV (pc := 108) (Y := mY_X7_aim) (As := [.int x3, .int (hpI h b1 3)]) mx_ml_X6_141 mx_y_X7_aim rfl g3 (by decide) rfl (by decide) rfl (mx_dd dd_X6_condition 54 (108, .invokevirtual 141, 3) rfl) g4 (by decide) P (fun h1 P => ?_)
  refine mx_aload_n (pc := 111) 0 (mx_dd dd_X6_condition 55 (111, .aload_n 0, 1) rfl) rfl rfl ?_
  refine mx_ldc2 (pc := 112) mx_cL_X6_116 (mx_dd dd_X6_condition 56 (112, .ldc2_w 116, 3) rfl) ?_
  obtain ⟨g5, P⟩ := P
  refine mx_cVV (pc := 115) (Y := mY_X6_expectWord) (As := [.long (231 : Int64)]) mx_ml_X6_189 mx_y_X6_expectWord rfl g5 (by decide) rfl (by decide) rfl (mx_dd dd_X6_condition 57 (115, .invokevirtual 189, 3) rfl) g4 (by decide) P (fun h2 P => ?_)
  exact mx_return (pc := 118) (mx_dd dd_X6_condition 58 (118, .return_, 1) rfl) rfl P
theorem b_X6_loop {d : Nat} {h : mxH} {Q : mxRes → mxH → Prop} (x0 : Nat) (x1 : Int32)
    (P : 1 ≤ d ∧ hpK h x0 = 6 ∧ mx_SM mY_X6_advance (d - 1) [.ref x0] h (mx_KV (fun h1 => hpK h1 x0 = 6 ∧ ∃ b1 : Nat, hpR h1 x0 2 = some b1 ∧ hpK h1 b1 = 7 ∧ mx_SM mY_X7_emit (d - 1) [.ref b1, .int (12 : Int32)] h1 (mx_KI (fun v1 h2 => hpK h2 x0 = 6 ∧ ∃ b2 : Nat, hpR h2 x0 2 = some b2 ∧ hpK h2 b2 = 7 ∧ mx_SM mY_X6_chain (d - 1) [.ref x0, .int x1] h2 (mx_KV (fun h3 => hpK h3 x0 = 6 ∧ mx_SM mY_X6_expect (d - 1) [.ref x0, .int (59 : Int32)] h3 (mx_KV (fun h4 => hpK h4 x0 = 6 ∧ mx_SM mY_X6_expectWord (d - 1) [.ref x0, .long (163 : Int64)] h4 (mx_KV (fun h5 => hpK h5 x0 = 6 ∧ ∃ b3 : Nat, hpR h5 x0 2 = some b3 ∧ hpK h5 b3 = 7 ∧ mx_SM mY_X7_emit (d - 1) [.ref b3, .int (13 : Int32)] h5 (mx_KI (fun v2 h6 => hpK h6 x0 = 6 ∧ mx_SM mY_X6_script (d - 1) [.ref x0, .int x1] h6 (mx_KI (fun v3 h7 => hpK h7 x0 = 6 ∧ ∃ b4 : Nat, hpR h7 x0 2 = some b4 ∧ hpK h7 b4 = 7 ∧ mx_SM mY_X7_emit (d - 1) [.ref b4, .int (14 : Int32)] h7 (mx_KI (fun v4 h8 => hpK h8 b4 = 7 ∧ mx_SM mY_X7_aim (d - 1) [.ref b4, .int v4, .int (hpI h2 b2 3)] h8 (mx_KV (fun h9 => hpK h9 x0 = 6 ∧ ∃ b5 : Nat, hpR h9 x0 2 = some b5 ∧ hpK h9 b5 = 7 ∧ mx_SM mY_X7_aim (d - 1) [.ref b5, .int v2, .int (hpI h9 b5 3)] h9 (mx_KV (fun h10 => hpK h10 x0 = 6 ∧ mx_SM mY_X6_expectWord (d - 1) [.ref x0, .long (223670 : Int64)] h10 (mx_KV (fun h11 => Q (.inl none) h11) (mx_XX mY_X6_loop Q))) (mx_XX mY_X6_loop Q))) (mx_XX mY_X6_loop Q))) (mx_XX mY_X6_loop Q))) (mx_XX mY_X6_loop Q))) (mx_XX mY_X6_loop Q))) (mx_XX mY_X6_loop Q))) (mx_XX mY_X6_loop Q))) (mx_XX mY_X6_loop Q))) (mx_XX mY_X6_loop Q))) (mx_XX mY_X6_loop Q))) : mx_SM mY_X6_loop d [.ref x0, .int x1] h Q := by
  refine mx_SM_of (by decide) (Nat.le_of_ble_eq_true rfl) ?_
  show mx_SX mY_X6_loop d 0 [(0, .ref x0), (1, .int x1)] [] h Q
  refine mx_aload_n (pc := 0) 0 (mx_dd dd_X6_loop 0 (0, .aload_n 0, 1) rfl) rfl rfl ?_
  obtain ⟨g1, P⟩ := P
  obtain ⟨g2, P⟩ := P
  refine mx_cVV (pc := 1) (Y := mY_X6_advance) (As := []) mx_ml_X6_43 mx_y_X6_advance rfl g2 (by decide) rfl (by decide) rfl (mx_dd dd_X6_loop 1 (1, .invokevirtual 43, 3) rfl) g1 (by decide) P (fun h1 P => ?_)
  refine mx_aload_n (pc := 4) 0 (mx_dd dd_X6_loop 2 (4, .aload_n 0, 1) rfl) rfl rfl ?_
  obtain ⟨g3, P⟩ := P
  obtain ⟨b1, g4, P⟩ := P
  refine mx_getR (pc := 5) mx_fl_X6_28 g3 rfl g4 (mx_dd dd_X6_loop 3 (5, .getfield 28, 3) rfl) ?_
  refine mx_bipush (pc := 8) (v := (12 : Int32)) (mx_dd dd_X6_loop 4 (8, .bipush 12, 2) rfl) (by decide) ?_
  obtain ⟨g5, P⟩ := P
  refine mx_cVI (pc := 10) (Y := mY_X7_emit) (As := [.int (12 : Int32)]) mx_ml_X6_54 mx_y_X7_emit rfl g5 (by decide) rfl (by decide) rfl (mx_dd dd_X6_loop 5 (10, .invokevirtual 54, 3) rfl) g1 (by decide) P (fun v1 h2 P => ?_)
  refine mx_pop (pc := 13) (mx_dd dd_X6_loop 6 (13, .pop, 1) rfl) rfl ?_
  refine mx_aload_n (pc := 14) 0 (mx_dd dd_X6_loop 7 (14, .aload_n 0, 1) rfl) rfl rfl ?_
  obtain ⟨g6, P⟩ := P
  obtain ⟨b2, g7, P⟩ := P
  refine mx_getR (pc := 15) mx_fl_X6_28 g6 rfl g7 (mx_dd dd_X6_loop 8 (15, .getfield 28, 3) rfl) ?_
  obtain ⟨g8, P⟩ := P
  refine mx_getI (pc := 18) mx_fl_X6_138 g8 rfl (mx_dd dd_X6_loop 9 (18, .getfield 138, 3) rfl) ?_
  refine mx_istore_n (pc := 21) (mx_dd dd_X6_loop 10 (21, .istore_n 2, 1) rfl) rfl (by decide) (lv' := [(2, _), (0, _), (1, _)]) rfl ?_
  refine mx_aload_n (pc := 22) 1 (mx_dd dd_X6_loop 11 (22, .aload_n 0, 1) rfl) rfl rfl ?_
  refine mx_iload_n (pc := 23) 2 (mx_dd dd_X6_loop 12 (23, .iload_n 1, 1) rfl) rfl rfl ?_
  refine mx_cVV (pc := 24) (Y := mY_X6_chain) (As := [.int x1]) mx_ml_X6_132 mx_y_X6_chain rfl g6 (by decide) rfl (by decide) rfl (mx_dd dd_X6_loop 13 (24, .invokevirtual 132, 3) rfl) g1 (by decide) P (fun h3 P => ?_)
  refine mx_aload_n (pc := 27) 1 (mx_dd dd_X6_loop 14 (27, .aload_n 0, 1) rfl) rfl rfl ?_
  refine mx_bipush (pc := 28) (v := (59 : Int32)) (mx_dd dd_X6_loop 15 (28, .bipush 59, 2) rfl) (by decide) ?_
  obtain ⟨g9, P⟩ := P
  refine mx_cVV (pc := 30) (Y := mY_X6_expect) (As := [.int (59 : Int32)]) mx_ml_X6_50 mx_y_X6_expect rfl g9 (by decide) rfl (by decide) rfl (mx_dd dd_X6_loop 16 (30, .invokevirtual 50, 3) rfl) g1 (by decide) P (fun h4 P => ?_)
  refine mx_aload_n (pc := 33) 1 (mx_dd dd_X6_loop 17 (33, .aload_n 0, 1) rfl) rfl rfl ?_
  refine mx_ldc2 (pc := 34) mx_cL_X6_118 (mx_dd dd_X6_loop 18 (34, .ldc2_w 118, 3) rfl) ?_
  obtain ⟨g10, P⟩ := P
  refine mx_cVV (pc := 37) (Y := mY_X6_expectWord) (As := [.long (163 : Int64)]) mx_ml_X6_189 mx_y_X6_expectWord rfl g10 (by decide) rfl (by decide) rfl (mx_dd dd_X6_loop 19 (37, .invokevirtual 189, 3) rfl) g1 (by decide) P (fun h5 P => ?_)
  refine mx_aload_n (pc := 40) 1 (mx_dd dd_X6_loop 20 (40, .aload_n 0, 1) rfl) rfl rfl ?_
  obtain ⟨g11, P⟩ := P
  obtain ⟨b3, g12, P⟩ := P
  refine mx_getR (pc := 41) mx_fl_X6_28 g11 rfl g12 (mx_dd dd_X6_loop 21 (41, .getfield 28, 3) rfl) ?_
  refine mx_bipush (pc := 44) (v := (13 : Int32)) (mx_dd dd_X6_loop 22 (44, .bipush 13, 2) rfl) (by decide) ?_
  obtain ⟨g13, P⟩ := P
  refine mx_cVI (pc := 46) (Y := mY_X7_emit) (As := [.int (13 : Int32)]) mx_ml_X6_54 mx_y_X7_emit rfl g13 (by decide) rfl (by decide) rfl (mx_dd dd_X6_loop 23 (46, .invokevirtual 54, 3) rfl) g1 (by decide) P (fun v2 h6 P => ?_)
  refine mx_istore_n (pc := 49) (mx_dd dd_X6_loop 24 (49, .istore_n 3, 1) rfl) rfl (by decide) (lv' := [(3, _), (2, _), (0, _), (1, _)]) rfl ?_
  refine mx_aload_n (pc := 50) 2 (mx_dd dd_X6_loop 25 (50, .aload_n 0, 1) rfl) rfl rfl ?_
  refine mx_iload_n (pc := 51) 3 (mx_dd dd_X6_loop 26 (51, .iload_n 1, 1) rfl) rfl rfl ?_
  obtain ⟨g14, P⟩ := P
  refine mx_cVI (pc := 52) (Y := mY_X6_script) (As := [.int x1]) mx_ml_X6_46 mx_y_X6_script rfl g14 (by decide) rfl (by decide) rfl (mx_dd dd_X6_loop 27 (52, .invokevirtual 46, 3) rfl) g1 (by decide) P (fun v3 h7 P => ?_)
  refine mx_pop (pc := 55) (mx_dd dd_X6_loop 28 (55, .pop, 1) rfl) rfl ?_
  refine mx_aload_n (pc := 56) 2 (mx_dd dd_X6_loop 29 (56, .aload_n 0, 1) rfl) rfl rfl ?_
  obtain ⟨g15, P⟩ := P
  obtain ⟨b4, g16, P⟩ := P
  refine mx_getR (pc := 57) mx_fl_X6_28 g15 rfl g16 (mx_dd dd_X6_loop 30 (57, .getfield 28, 3) rfl) ?_
  refine mx_aload_n (pc := 60) 2 (mx_dd dd_X6_loop 31 (60, .aload_n 0, 1) rfl) rfl rfl ?_
  refine mx_getR (pc := 61) mx_fl_X6_28 g15 rfl g16 (mx_dd dd_X6_loop 32 (61, .getfield 28, 3) rfl) ?_
  refine mx_bipush (pc := 64) (v := (14 : Int32)) (mx_dd dd_X6_loop 33 (64, .bipush 14, 2) rfl) (by decide) ?_
  obtain ⟨g17, P⟩ := P
  refine mx_cVI (pc := 66) (Y := mY_X7_emit) (As := [.int (14 : Int32)]) mx_ml_X6_54 mx_y_X7_emit rfl g17 (by decide) rfl (by simp [Value.category]) rfl (mx_dd dd_X6_loop 34 (66, .invokevirtual 54, 3) rfl) g1 (by decide) P (fun v4 h8 P => ?_)
  refine mx_iload_n (pc := 69) 1 (mx_dd dd_X6_loop 35 (69, .iload_n 2, 1) rfl) rfl rfl ?_
  obtain ⟨g18, P⟩ := P
  refine mx_cVV (pc := 70) (Y := mY_X7_aim) (As := [.int v4, .int (hpI h2 b2 3)]) mx_ml_X6_141 mx_y_X7_aim rfl g18 (by decide) rfl (by decide) rfl (mx_dd dd_X6_loop 36 (70, .invokevirtual 141, 3) rfl) g1 (by decide) P (fun h9 P => ?_)
  refine mx_aload_n (pc := 73) 2 (mx_dd dd_X6_loop 37 (73, .aload_n 0, 1) rfl) rfl rfl ?_
  obtain ⟨g19, P⟩ := P
  obtain ⟨b5, g20, P⟩ := P
  refine mx_getR (pc := 74) mx_fl_X6_28 g19 rfl g20 (mx_dd dd_X6_loop 38 (74, .getfield 28, 3) rfl) ?_
  refine mx_iload_n (pc := 77) 0 (mx_dd dd_X6_loop 39 (77, .iload_n 3, 1) rfl) rfl rfl ?_
  refine mx_aload_n (pc := 78) 2 (mx_dd dd_X6_loop 40 (78, .aload_n 0, 1) rfl) rfl rfl ?_
  refine mx_getR (pc := 79) mx_fl_X6_28 g19 rfl g20 (mx_dd dd_X6_loop 41 (79, .getfield 28, 3) rfl) ?_
  obtain ⟨g21, P⟩ := P
  refine mx_getI (pc := 82) mx_fl_X6_138 g21 rfl (mx_dd dd_X6_loop 42 (82, .getfield 138, 3) rfl) ?_
  refine mx_cVV (pc := 85) (Y := mY_X7_aim) (As := [.int v2, .int (hpI h9 b5 3)]) mx_ml_X6_141 mx_y_X7_aim rfl g21 (by decide) rfl (by decide) rfl (mx_dd dd_X6_loop 43 (85, .invokevirtual 141, 3) rfl) g1 (by decide) P (fun h10 P => ?_)
  refine mx_aload_n (pc := 88) 2 (mx_dd dd_X6_loop 44 (88, .aload_n 0, 1) rfl) rfl rfl ?_
  refine mx_ldc2 (pc := 89) mx_cL_X6_120 (mx_dd dd_X6_loop 45 (89, .ldc2_w 120, 3) rfl) ?_
  obtain ⟨g22, P⟩ := P
  refine mx_cVV (pc := 92) (Y := mY_X6_expectWord) (As := [.long (223670 : Int64)]) mx_ml_X6_189 mx_y_X6_expectWord rfl g22 (by decide) rfl (by decide) rfl (mx_dd dd_X6_loop 46 (92, .invokevirtual 189, 3) rfl) g1 (by decide) P (fun h11 P => ?_)
  exact mx_return (pc := 95) (mx_dd dd_X6_loop 47 (95, .return_, 1) rfl) rfl P
theorem b_X6_definition {d : Nat} {h : mxH} {Q : mxRes → mxH → Prop} (x0 : Nat) (x1 : Int32) (x2 : Int32)
    (P : 1 ≤ d ∧ hpK h x0 = 6 ∧ mx_SM mY_X6_advance (d - 1) [.ref x0] h (mx_KV (fun h1 => hpK h1 x0 = 6 ∧ ((¬ (hpI h1 x0 3) = (1 : Int32) → mx_SX mY_X6_definition d 42 [(0, .ref x0), (1, .int x1), (2, .int x2)] [] h1 Q) ∧ ((hpI h1 x0 3) = (1 : Int32) → mx_SM mY_X6_opensBody (d - 1) [.long (hpL h1 x0 6)] h1 (mx_KI (fun v1 h2 => ((¬ v1 = 0 → mx_SX mY_X6_definition d 42 [(0, .ref x0), (1, .int x1), (2, .int x2)] [] h2 Q) ∧ (v1 = 0 → hpK h2 x0 = 6 ∧ mx_SM mY_X6_continuesBody (d - 1) [.long (hpL h2 x0 6)] h2 (mx_KI (fun v2 h3 => ((¬ v2 = 0 → mx_SX mY_X6_definition d 42 [(0, .ref x0), (1, .int x1), (2, .int x2)] [] h3 Q) ∧ (v2 = 0 → hpK h3 x0 = 6 ∧ mx_SM mY_X1_kindOf (d - 1) [.long (hpL h3 x0 6)] h3 (mx_KI (fun v3 h4 => ((v3 = 0 → mx_SX mY_X6_definition d 47 [(0, .ref x0), (1, .int x1), (2, .int x2)] [] h4 Q) ∧ (¬ v3 = 0 → mx_SX mY_X6_definition d 42 [(0, .ref x0), (1, .int x1), (2, .int x2)] [] h4 Q))) (mx_XX mY_X6_definition Q))))) (mx_XX mY_X6_definition Q))))) (mx_XX mY_X6_definition Q))))) (mx_XX mY_X6_definition Q))) : mx_SM mY_X6_definition d [.ref x0, .int x1, .int x2] h Q := by
  refine mx_SM_of (by decide) (Nat.le_of_ble_eq_true rfl) ?_
  show mx_SX mY_X6_definition d 0 [(0, .ref x0), (1, .int x1), (2, .int x2)] [] h Q
  refine mx_aload_n (pc := 0) 0 (mx_dd dd_X6_definition 0 (0, .aload_n 0, 1) rfl) rfl rfl ?_
  obtain ⟨g1, P⟩ := P
  obtain ⟨g2, P⟩ := P
  refine mx_cVV (pc := 1) (Y := mY_X6_advance) (As := []) mx_ml_X6_43 mx_y_X6_advance rfl g2 (by decide) rfl (by decide) rfl (mx_dd dd_X6_definition 1 (1, .invokevirtual 43, 3) rfl) g1 (by decide) P (fun h1 P => ?_)
  refine mx_aload_n (pc := 4) 0 (mx_dd dd_X6_definition 2 (4, .aload_n 0, 1) rfl) rfl rfl ?_
  obtain ⟨g3, P⟩ := P
  refine mx_getI (pc := 5) mx_fl_X6_74 g3 rfl (mx_dd dd_X6_definition 3 (5, .getfield 74, 3) rfl) ?_
  refine mx_iconst (pc := 8) (v := (1 : Int32)) (mx_dd dd_X6_definition 4 (8, .iconst 1, 1) rfl) (by decide) ?_
  refine mx_icmp_ne (pc := 9) 42 (mx_dd dd_X6_definition 5 (9, .if_icmp .ne 33, 3) rfl) rfl (fun c9 => ?_) (fun c9 => ?_)
  · have P := P.1 c9
    exact P
  · have P := P.2 c9
    refine mx_aload_n (pc := 12) 0 (mx_dd dd_X6_definition 6 (12, .aload_n 0, 1) rfl) rfl rfl ?_
    refine mx_getL (pc := 13) mx_fl_X6_87 g3 rfl (mx_dd dd_X6_definition 7 (13, .getfield 87, 3) rfl) ?_
    refine mx_cSI (pc := 16) (Y := mY_X6_opensBody) (As := [.long (hpL h1 x0 6)]) mx_ml_X6_168 mx_y_X6_opensBody rfl rfl (by decide) rfl (mx_dd dd_X6_definition 8 (16, .invokestatic 168, 3) rfl) g1 (by decide) P (fun v1 h2 P => ?_)
    refine mx_if_ne (pc := 19) 42 (mx_dd dd_X6_definition 9 (19, .ifCond .ne 23, 3) rfl) rfl (fun c19 => ?_) (fun c19 => ?_)
    · have P := P.1 c19
      exact P
    · have P := P.2 c19
      refine mx_aload_n (pc := 22) 0 (mx_dd dd_X6_definition 10 (22, .aload_n 0, 1) rfl) rfl rfl ?_
      obtain ⟨g4, P⟩ := P
      refine mx_getL (pc := 23) mx_fl_X6_87 g4 rfl (mx_dd dd_X6_definition 11 (23, .getfield 87, 3) rfl) ?_
      refine mx_cSI (pc := 26) (Y := mY_X6_continuesBody) (As := [.long (hpL h2 x0 6)]) mx_ml_X6_129 mx_y_X6_continuesBody rfl rfl (by decide) rfl (mx_dd dd_X6_definition 12 (26, .invokestatic 129, 3) rfl) g1 (by decide) P (fun v2 h3 P => ?_)
      refine mx_if_ne (pc := 29) 42 (mx_dd dd_X6_definition 13 (29, .ifCond .ne 13, 3) rfl) rfl (fun c29 => ?_) (fun c29 => ?_)
      · have P := P.1 c29
        exact P
      · have P := P.2 c29
        refine mx_aload_n (pc := 32) 0 (mx_dd dd_X6_definition 14 (32, .aload_n 0, 1) rfl) rfl rfl ?_
        obtain ⟨g5, P⟩ := P
        refine mx_getL (pc := 33) mx_fl_X6_87 g5 rfl (mx_dd dd_X6_definition 15 (33, .getfield 87, 3) rfl) ?_
        refine mx_cSI (pc := 36) (Y := mY_X1_kindOf) (As := [.long (hpL h3 x0 6)]) mx_ml_X6_193 mx_y_X1_kindOf rfl rfl (by decide) rfl (mx_dd dd_X6_definition 16 (36, .invokestatic 193, 3) rfl) g1 (by decide) P (fun v3 h4 P => ?_)
        refine mx_if_eq (pc := 39) 47 (mx_dd dd_X6_definition 17 (39, .ifCond .eq 8, 3) rfl) rfl (fun c39 => ?_) (fun c39 => ?_)
        · have P := P.1 c39
          exact P
        · have P := P.2 c39
          exact P
theorem b_X6_definition_42 {d : Nat} {h : mxH} {Q : mxRes → mxH → Prop} (x0 : Nat) (x1 : Int32) (x2 : Int32)
    (P : 1 ≤ d ∧ hpK h x0 = 6 ∧ mx_SM mY_X6_fail (d - 1) [.ref x0, .int (1 : Int32)] h (mx_KV (fun h1 => mx_SX mY_X6_definition d 47 [(0, .ref x0), (1, .int x1), (2, .int x2)] [] h1 Q) (mx_XX mY_X6_definition Q))) : mx_SX mY_X6_definition d 42 [(0, .ref x0), (1, .int x1), (2, .int x2)] [] h Q := by
  refine mx_aload_n (pc := 42) 0 (mx_dd dd_X6_definition 18 (42, .aload_n 0, 1) rfl) rfl rfl ?_
  refine mx_iconst (pc := 43) (v := (1 : Int32)) (mx_dd dd_X6_definition 19 (43, .iconst 1, 1) rfl) (by decide) ?_
  obtain ⟨g1, P⟩ := P
  obtain ⟨g2, P⟩ := P
  refine mx_cVV (pc := 44) (Y := mY_X6_fail) (As := [.int (1 : Int32)]) mx_ml_X6_93 mx_y_X6_fail rfl g2 (by decide) rfl (by decide) rfl (mx_dd dd_X6_definition 20 (44, .invokevirtual 93, 3) rfl) g1 (by decide) P (fun h1 P => ?_)
  exact P
theorem b_X6_definition_47 {d : Nat} {h : mxH} {Q : mxRes → mxH → Prop} (x0 : Nat) (x1 : Int32) (x2 : Int32)
    (P : hpK h x0 = 6 ∧ ∃ b1 : Nat, hpR h x0 2 = some b1 ∧ 1 ≤ d ∧ hpK h b1 = 7 ∧ mx_SM mY_X7_setBody (d - 1) [.ref b1, .int x1, .int (-2 : Int32), .long (hpL h x0 6)] h (mx_KV (fun h1 => hpK h1 x0 = 6 ∧ mx_SM mY_X6_advance (d - 1) [.ref x0] h1 (mx_KV (fun h2 => hpK h2 x0 = 6 ∧ mx_SM mY_X6_expect (d - 1) [.ref x0, .int (123 : Int32)] h2 (mx_KV (fun h3 => hpK h3 x0 = 6 ∧ ∃ b2 : Nat, hpR h3 x0 2 = some b2 ∧ hpK h3 b2 = 7 ∧ mx_SM mY_X7_emitFor (d - 1) [.ref b2, .int (5 : Int32), .int x1] h3 (mx_KI (fun v1 h4 => hpK h4 x0 = 6 ∧ mx_SM mY_X6_script (d - 1) [.ref x0, .int x2] h4 (mx_KI (fun v2 h5 => hpK h5 x0 = 6 ∧ mx_SM mY_X6_expect (d - 1) [.ref x0, .int (125 : Int32)] h5 (mx_KV (fun h6 => hpK h6 x0 = 6 ∧ ∃ b3 : Nat, hpR h6 x0 2 = some b3 ∧ hpK h6 b3 = 7 ∧ mx_SM mY_X7_emit (d - 1) [.ref b3, .int (6 : Int32)] h6 (mx_KI (fun v3 h7 => hpK h7 x0 = 6 ∧ ∃ b4 : Nat, hpR h7 x0 2 = some b4 ∧ hpK h7 b4 = 7 ∧ mx_SM mY_X7_aim (d - 1) [.ref b4, .int v1, .int (hpI h7 b4 3)] h7 (mx_KV (fun h8 => Q (.inl none) h8) (mx_XX mY_X6_definition Q))) (mx_XX mY_X6_definition Q))) (mx_XX mY_X6_definition Q))) (mx_XX mY_X6_definition Q))) (mx_XX mY_X6_definition Q))) (mx_XX mY_X6_definition Q))) (mx_XX mY_X6_definition Q))) (mx_XX mY_X6_definition Q))) : mx_SX mY_X6_definition d 47 [(0, .ref x0), (1, .int x1), (2, .int x2)] [] h Q := by
  refine mx_aload_n (pc := 47) 0 (mx_dd dd_X6_definition 21 (47, .aload_n 0, 1) rfl) rfl rfl ?_
  obtain ⟨g1, P⟩ := P
  obtain ⟨b1, g2, P⟩ := P
  refine mx_getR (pc := 48) mx_fl_X6_28 g1 rfl g2 (mx_dd dd_X6_definition 22 (48, .getfield 28, 3) rfl) ?_
  refine mx_iload_n (pc := 51) 1 (mx_dd dd_X6_definition 23 (51, .iload_n 1, 1) rfl) rfl rfl ?_
  refine mx_bipush (pc := 52) (v := (-2 : Int32)) (mx_dd dd_X6_definition 24 (52, .bipush (-2), 2) rfl) (by decide) ?_
  refine mx_aload_n (pc := 54) 0 (mx_dd dd_X6_definition 25 (54, .aload_n 0, 1) rfl) rfl rfl ?_
  refine mx_getL (pc := 55) mx_fl_X6_87 g1 rfl (mx_dd dd_X6_definition 26 (55, .getfield 87, 3) rfl) ?_
  obtain ⟨g3, P⟩ := P
  obtain ⟨g4, P⟩ := P
  refine mx_cVV (pc := 58) (Y := mY_X7_setBody) (As := [.int x1, .int (-2 : Int32), .long (hpL h x0 6)]) mx_ml_X6_199 mx_y_X7_setBody rfl g4 (by decide) rfl (by decide) rfl (mx_dd dd_X6_definition 27 (58, .invokevirtual 199, 3) rfl) g3 (by decide) P (fun h1 P => ?_)
  refine mx_aload_n (pc := 61) 0 (mx_dd dd_X6_definition 28 (61, .aload_n 0, 1) rfl) rfl rfl ?_
  obtain ⟨g5, P⟩ := P
  refine mx_cVV (pc := 62) (Y := mY_X6_advance) (As := []) mx_ml_X6_43 mx_y_X6_advance rfl g5 (by decide) rfl (by decide) rfl (mx_dd dd_X6_definition 29 (62, .invokevirtual 43, 3) rfl) g3 (by decide) P (fun h2 P => ?_)
  refine mx_aload_n (pc := 65) 0 (mx_dd dd_X6_definition 30 (65, .aload_n 0, 1) rfl) rfl rfl ?_
  refine mx_bipush (pc := 66) (v := (123 : Int32)) (mx_dd dd_X6_definition 31 (66, .bipush 123, 2) rfl) (by decide) ?_
  obtain ⟨g6, P⟩ := P
  refine mx_cVV (pc := 68) (Y := mY_X6_expect) (As := [.int (123 : Int32)]) mx_ml_X6_50 mx_y_X6_expect rfl g6 (by decide) rfl (by decide) rfl (mx_dd dd_X6_definition 32 (68, .invokevirtual 50, 3) rfl) g3 (by decide) P (fun h3 P => ?_)
  refine mx_aload_n (pc := 71) 0 (mx_dd dd_X6_definition 33 (71, .aload_n 0, 1) rfl) rfl rfl ?_
  obtain ⟨g7, P⟩ := P
  obtain ⟨b2, g8, P⟩ := P
  refine mx_getR (pc := 72) mx_fl_X6_28 g7 rfl g8 (mx_dd dd_X6_definition 34 (72, .getfield 28, 3) rfl) ?_
  refine mx_iconst (pc := 75) (v := (5 : Int32)) (mx_dd dd_X6_definition 35 (75, .iconst 5, 1) rfl) (by decide) ?_
  refine mx_iload_n (pc := 76) 1 (mx_dd dd_X6_definition 36 (76, .iload_n 1, 1) rfl) rfl rfl ?_
  obtain ⟨g9, P⟩ := P
  refine mx_cVI (pc := 77) (Y := mY_X7_emitFor) (As := [.int (5 : Int32), .int x1]) mx_ml_X6_156 mx_y_X7_emitFor rfl g9 (by decide) rfl (by decide) rfl (mx_dd dd_X6_definition 37 (77, .invokevirtual 156, 3) rfl) g3 (by decide) P (fun v1 h4 P => ?_)
  refine mx_istore_n (pc := 80) (mx_dd dd_X6_definition 38 (80, .istore_n 3, 1) rfl) rfl (by decide) (lv' := [(3, _), (0, _), (1, _), (2, _)]) rfl ?_
  refine mx_aload_n (pc := 81) 1 (mx_dd dd_X6_definition 39 (81, .aload_n 0, 1) rfl) rfl rfl ?_
  refine mx_iload_n (pc := 82) 3 (mx_dd dd_X6_definition 40 (82, .iload_n 2, 1) rfl) rfl rfl ?_
  obtain ⟨g10, P⟩ := P
  refine mx_cVI (pc := 83) (Y := mY_X6_script) (As := [.int x2]) mx_ml_X6_46 mx_y_X6_script rfl g10 (by decide) rfl (by decide) rfl (mx_dd dd_X6_definition 41 (83, .invokevirtual 46, 3) rfl) g3 (by decide) P (fun v2 h5 P => ?_)
  refine mx_pop (pc := 86) (mx_dd dd_X6_definition 42 (86, .pop, 1) rfl) rfl ?_
  refine mx_aload_n (pc := 87) 1 (mx_dd dd_X6_definition 43 (87, .aload_n 0, 1) rfl) rfl rfl ?_
  refine mx_bipush (pc := 88) (v := (125 : Int32)) (mx_dd dd_X6_definition 44 (88, .bipush 125, 2) rfl) (by decide) ?_
  obtain ⟨g11, P⟩ := P
  refine mx_cVV (pc := 90) (Y := mY_X6_expect) (As := [.int (125 : Int32)]) mx_ml_X6_50 mx_y_X6_expect rfl g11 (by decide) rfl (by decide) rfl (mx_dd dd_X6_definition 45 (90, .invokevirtual 50, 3) rfl) g3 (by decide) P (fun h6 P => ?_)
  refine mx_aload_n (pc := 93) 1 (mx_dd dd_X6_definition 46 (93, .aload_n 0, 1) rfl) rfl rfl ?_
  obtain ⟨g12, P⟩ := P
  obtain ⟨b3, g13, P⟩ := P
  refine mx_getR (pc := 94) mx_fl_X6_28 g12 rfl g13 (mx_dd dd_X6_definition 47 (94, .getfield 28, 3) rfl) ?_
  refine mx_bipush (pc := 97) (v := (6 : Int32)) (mx_dd dd_X6_definition 48 (97, .bipush 6, 2) rfl) (by decide) ?_
  obtain ⟨g14, P⟩ := P
  refine mx_cVI (pc := 99) (Y := mY_X7_emit) (As := [.int (6 : Int32)]) mx_ml_X6_54 mx_y_X7_emit rfl g14 (by decide) rfl (by decide) rfl (mx_dd dd_X6_definition 49 (99, .invokevirtual 54, 3) rfl) g3 (by decide) P (fun v3 h7 P => ?_)
  refine mx_pop (pc := 102) (mx_dd dd_X6_definition 50 (102, .pop, 1) rfl) rfl ?_
  refine mx_aload_n (pc := 103) 1 (mx_dd dd_X6_definition 51 (103, .aload_n 0, 1) rfl) rfl rfl ?_
  obtain ⟨g15, P⟩ := P
  obtain ⟨b4, g16, P⟩ := P
  refine mx_getR (pc := 104) mx_fl_X6_28 g15 rfl g16 (mx_dd dd_X6_definition 52 (104, .getfield 28, 3) rfl) ?_
  refine mx_iload_n (pc := 107) 0 (mx_dd dd_X6_definition 53 (107, .iload_n 3, 1) rfl) rfl rfl ?_
  refine mx_aload_n (pc := 108) 1 (mx_dd dd_X6_definition 54 (108, .aload_n 0, 1) rfl) rfl rfl ?_
  refine mx_getR (pc := 109) mx_fl_X6_28 g15 rfl g16 (mx_dd dd_X6_definition 55 (109, .getfield 28, 3) rfl) ?_
  obtain ⟨g17, P⟩ := P
  refine mx_getI (pc := 112) mx_fl_X6_138 g17 rfl (mx_dd dd_X6_definition 56 (112, .getfield 138, 3) rfl) ?_
  refine mx_cVV (pc := 115) (Y := mY_X7_aim) (As := [.int v1, .int (hpI h7 b4 3)]) mx_ml_X6_141 mx_y_X7_aim rfl g17 (by decide) rfl (by decide) rfl (mx_dd dd_X6_definition 57 (115, .invokevirtual 141, 3) rfl) g3 (by decide) P (fun h8 P => ?_)
  exact mx_return (pc := 118) (mx_dd dd_X6_definition 58 (118, .return_, 1) rfl) rfl P
theorem b_X6_named {d : Nat} {h : mxH} {Q : mxRes → mxH → Prop} (x0 : Nat) (x1 : Int32)
    (P : hpK h x0 = 6 ∧ 1 ≤ d ∧ mx_SM mY_X6_advance (d - 1) [.ref x0] h (mx_KV (fun h1 => hpK h1 x0 = 6 ∧ ((¬ (hpI h1 x0 3) = (61 : Int32) → ∃ b1 : Nat, hpR h1 x0 2 = some b1 ∧ mx_SM mY_X1_kindOf (d - 1) [.long (hpL h x0 6)] h1 (mx_KI (fun v1 h2 => hpK h2 b1 = 7 ∧ mx_SM mY_X7_setBody (d - 1) [.ref b1, .int x1, .int v1, .long (hpL h x0 6)] h2 (mx_KV (fun h3 => mx_SX mY_X6_named d 64 [(0, .ref x0), (1, .int x1), (4, .int (0 : Int32))] [] h3 Q) (mx_XX mY_X6_named Q))) (mx_XX mY_X6_named Q))) ∧ ((hpI h1 x0 3) = (61 : Int32) → mx_SM mY_X6_advance (d - 1) [.ref x0] h1 (mx_KV (fun h4 => hpK h4 x0 = 6 ∧ ∃ b2 : Nat, hpR h4 x0 2 = some b2 ∧ hpK h4 b2 = 7 ∧ mx_SM mY_X7_setBody (d - 1) [.ref b2, .int x1, .int (-1 : Int32), .long (hpL h x0 6)] h4 (mx_KV (fun h5 => hpK h5 x0 = 6 ∧ mx_SM mY_X6_argument (d - 1) [.ref x0, .int x1] h5 (mx_KV (fun h6 => hpK h6 x0 = 6 ∧ ∃ b3 : Nat, hpR h6 x0 2 = some b3 ∧ hpK h6 b3 = 7 ∧ mx_SM mY_X7_emitFor (d - 1) [.ref b3, .int (4 : Int32), .int x1] h6 (mx_KI (fun v2 h7 => Q (.inl none) h7) (mx_XX mY_X6_named Q))) (mx_XX mY_X6_named Q))) (mx_XX mY_X6_named Q))) (mx_XX mY_X6_named Q))))) (mx_XX mY_X6_named Q))) : mx_SM mY_X6_named d [.ref x0, .int x1] h Q := by
  refine mx_SM_of (by decide) (Nat.le_of_ble_eq_true rfl) ?_
  show mx_SX mY_X6_named d 0 [(0, .ref x0), (1, .int x1)] [] h Q
  refine mx_aload_n (pc := 0) 0 (mx_dd dd_X6_named 0 (0, .aload_n 0, 1) rfl) rfl rfl ?_
  obtain ⟨g1, P⟩ := P
  refine mx_getL (pc := 1) mx_fl_X6_87 g1 rfl (mx_dd dd_X6_named 1 (1, .getfield 87, 3) rfl) ?_
  refine mx_lstore_n (pc := 4) (mx_dd dd_X6_named 2 (4, .lstore_n 2, 1) rfl) rfl (by decide) (lv' := [(2, _), (0, _), (1, _)]) rfl ?_
  refine mx_aload_n (pc := 5) 1 (mx_dd dd_X6_named 3 (5, .aload_n 0, 1) rfl) rfl rfl ?_
  obtain ⟨g2, P⟩ := P
  refine mx_cVV (pc := 6) (Y := mY_X6_advance) (As := []) mx_ml_X6_43 mx_y_X6_advance rfl g1 (by decide) rfl (by decide) rfl (mx_dd dd_X6_named 4 (6, .invokevirtual 43, 3) rfl) g2 (by decide) P (fun h1 P => ?_)
  refine mx_aload_n (pc := 9) 1 (mx_dd dd_X6_named 5 (9, .aload_n 0, 1) rfl) rfl rfl ?_
  obtain ⟨g3, P⟩ := P
  refine mx_getI (pc := 10) mx_fl_X6_74 g3 rfl (mx_dd dd_X6_named 6 (10, .getfield 74, 3) rfl) ?_
  refine mx_bipush (pc := 13) (v := (61 : Int32)) (mx_dd dd_X6_named 7 (13, .bipush 61, 2) rfl) (by decide) ?_
  refine mx_icmp_ne (pc := 15) 48 (mx_dd dd_X6_named 8 (15, .if_icmp .ne 33, 3) rfl) rfl (fun c15 => ?_) (fun c15 => ?_)
  · have P := P.1 c15
    refine mx_aload_n (pc := 48) 1 (mx_dd dd_X6_named 27 (48, .aload_n 0, 1) rfl) rfl rfl ?_
    obtain ⟨b1, g4, P⟩ := P
    refine mx_getR (pc := 49) mx_fl_X6_28 g3 rfl g4 (mx_dd dd_X6_named 28 (49, .getfield 28, 3) rfl) ?_
    refine mx_iload_n (pc := 52) 2 (mx_dd dd_X6_named 29 (52, .iload_n 1, 1) rfl) rfl rfl ?_
    refine mx_lload_n (pc := 53) 0 (mx_dd dd_X6_named 30 (53, .lload_n 2, 1) rfl) rfl rfl ?_
    refine mx_cSI (pc := 54) (Y := mY_X1_kindOf) (As := [.long (hpL h x0 6)]) mx_ml_X6_193 mx_y_X1_kindOf rfl rfl (by simp [Value.category]) rfl (mx_dd dd_X6_named 31 (54, .invokestatic 193, 3) rfl) g2 (by decide) P (fun v1 h2 P => ?_)
    refine mx_lload_n (pc := 57) 0 (mx_dd dd_X6_named 32 (57, .lload_n 2, 1) rfl) rfl rfl ?_
    obtain ⟨g5, P⟩ := P
    refine mx_cVV (pc := 58) (Y := mY_X7_setBody) (As := [.int x1, .int v1, .long (hpL h x0 6)]) mx_ml_X6_199 mx_y_X7_setBody rfl g5 (by decide) rfl (by decide) rfl (mx_dd dd_X6_named 33 (58, .invokevirtual 199, 3) rfl) g2 (by decide) P (fun h3 P => ?_)
    refine mx_iconst (pc := 61) (v := (0 : Int32)) (mx_dd dd_X6_named 34 (61, .iconst 0, 1) rfl) (by decide) ?_
    refine mx_istore (pc := 62) (mx_dd dd_X6_named 35 (62, .istore 4, 2) rfl) (by decide) (lv' := [(4, _), (2, _), (0, _), (1, _)]) rfl ?_
    refine mx_sel [2, 3, 0] rfl ?_
    exact P
  · have P := P.2 c15
    refine mx_aload_n (pc := 18) 1 (mx_dd dd_X6_named 9 (18, .aload_n 0, 1) rfl) rfl rfl ?_
    refine mx_cVV (pc := 19) (Y := mY_X6_advance) (As := []) mx_ml_X6_43 mx_y_X6_advance rfl g3 (by decide) rfl (by decide) rfl (mx_dd dd_X6_named 10 (19, .invokevirtual 43, 3) rfl) g2 (by decide) P (fun h4 P => ?_)
    refine mx_aload_n (pc := 22) 1 (mx_dd dd_X6_named 11 (22, .aload_n 0, 1) rfl) rfl rfl ?_
    obtain ⟨g6, P⟩ := P
    obtain ⟨b2, g7, P⟩ := P
    refine mx_getR (pc := 23) mx_fl_X6_28 g6 rfl g7 (mx_dd dd_X6_named 12 (23, .getfield 28, 3) rfl) ?_
    refine mx_iload_n (pc := 26) 2 (mx_dd dd_X6_named 13 (26, .iload_n 1, 1) rfl) rfl rfl ?_
    refine mx_iconst (pc := 27) (v := (-1 : Int32)) (mx_dd dd_X6_named 14 (27, .iconst (-1), 1) rfl) (by decide) ?_
    refine mx_lload_n (pc := 28) 0 (mx_dd dd_X6_named 15 (28, .lload_n 2, 1) rfl) rfl rfl ?_
    obtain ⟨g8, P⟩ := P
    refine mx_cVV (pc := 29) (Y := mY_X7_setBody) (As := [.int x1, .int (-1 : Int32), .long (hpL h x0 6)]) mx_ml_X6_199 mx_y_X7_setBody rfl g8 (by decide) rfl (by decide) rfl (mx_dd dd_X6_named 16 (29, .invokevirtual 199, 3) rfl) g2 (by decide) P (fun h5 P => ?_)
    refine mx_aload_n (pc := 32) 1 (mx_dd dd_X6_named 17 (32, .aload_n 0, 1) rfl) rfl rfl ?_
    refine mx_iload_n (pc := 33) 2 (mx_dd dd_X6_named 18 (33, .iload_n 1, 1) rfl) rfl rfl ?_
    obtain ⟨g9, P⟩ := P
    refine mx_cVV (pc := 34) (Y := mY_X6_argument) (As := [.int x1]) mx_ml_X6_203 mx_y_X6_argument rfl g9 (by decide) rfl (by decide) rfl (mx_dd dd_X6_named 19 (34, .invokevirtual 203, 3) rfl) g2 (by decide) P (fun h6 P => ?_)
    refine mx_aload_n (pc := 37) 1 (mx_dd dd_X6_named 20 (37, .aload_n 0, 1) rfl) rfl rfl ?_
    obtain ⟨g10, P⟩ := P
    obtain ⟨b3, g11, P⟩ := P
    refine mx_getR (pc := 38) mx_fl_X6_28 g10 rfl g11 (mx_dd dd_X6_named 21 (38, .getfield 28, 3) rfl) ?_
    refine mx_iconst (pc := 41) (v := (4 : Int32)) (mx_dd dd_X6_named 22 (41, .iconst 4, 1) rfl) (by decide) ?_
    refine mx_iload_n (pc := 42) 2 (mx_dd dd_X6_named 23 (42, .iload_n 1, 1) rfl) rfl rfl ?_
    obtain ⟨g12, P⟩ := P
    refine mx_cVI (pc := 43) (Y := mY_X7_emitFor) (As := [.int (4 : Int32), .int x1]) mx_ml_X6_156 mx_y_X7_emitFor rfl g12 (by decide) rfl (by decide) rfl (mx_dd dd_X6_named 24 (43, .invokevirtual 156, 3) rfl) g2 (by decide) P (fun v2 h7 P => ?_)
    refine mx_pop (pc := 46) (mx_dd dd_X6_named 25 (46, .pop, 1) rfl) rfl ?_
    exact mx_return (pc := 47) (mx_dd dd_X6_named 26 (47, .return_, 1) rfl) rfl P
theorem b_X6_named_64 {d : Nat} {h : mxH} {Q : mxRes → mxH → Prop} (x0 : Nat) (x1 : Int32) (x4 : Int32)
    (P : (((700 : Int32) ≤ x4 → mx_SX mY_X6_named d 90 [(0, .ref x0), (1, .int x1)] [] h Q) ∧ (¬ (700 : Int32) ≤ x4 → 1 ≤ d ∧ hpK h x0 = 6 ∧ mx_SM mY_X6_startsArgument (d - 1) [.ref x0] h (mx_KI (fun v1 h1 => ((v1 = 0 → mx_SX mY_X6_named d 90 [(0, .ref x0), (1, .int x1)] [] h1 Q) ∧ (¬ v1 = 0 → hpK h1 x0 = 6 ∧ mx_SM mY_X6_argument (d - 1) [.ref x0, .int x1] h1 (mx_KV (fun h2 => mx_SX mY_X6_named d 64 [(0, .ref x0), (1, .int x1), (4, .int (x4 + (1 : Int32)))] [] h2 Q) (mx_XX mY_X6_named Q))))) (mx_XX mY_X6_named Q))))) : mx_SX mY_X6_named d 64 [(0, .ref x0), (1, .int x1), (4, .int x4)] [] h Q := by
  refine mx_iload (pc := 64) 2 (mx_dd dd_X6_named 36 (64, .iload 4, 2) rfl) rfl ?_
  refine mx_sipush (pc := 66) (v := (700 : Int32)) (mx_dd dd_X6_named 37 (66, .sipush 700, 3) rfl) (by decide) ?_
  refine mx_icmp_ge (pc := 69) 90 (mx_dd dd_X6_named 38 (69, .if_icmp .ge 21, 3) rfl) rfl (fun c69 => ?_) (fun c69 => ?_)
  · have P := P.1 c69
    refine mx_sel [0, 1] rfl ?_
    exact P
  · have P := P.2 c69
    refine mx_aload_n (pc := 72) 0 (mx_dd dd_X6_named 39 (72, .aload_n 0, 1) rfl) rfl rfl ?_
    obtain ⟨g1, P⟩ := P
    obtain ⟨g2, P⟩ := P
    refine mx_cVI (pc := 73) (Y := mY_X6_startsArgument) (As := []) mx_ml_X6_206 mx_y_X6_startsArgument rfl g2 (by decide) rfl (by decide) rfl (mx_dd dd_X6_named 40 (73, .invokevirtual 206, 3) rfl) g1 (by decide) P (fun v1 h1 P => ?_)
    refine mx_if_eq (pc := 76) 90 (mx_dd dd_X6_named 41 (76, .ifCond .eq 14, 3) rfl) rfl (fun c76 => ?_) (fun c76 => ?_)
    · have P := P.1 c76
      refine mx_sel [0, 1] rfl ?_
      exact P
    · have P := P.2 c76
      refine mx_aload_n (pc := 79) 0 (mx_dd dd_X6_named 42 (79, .aload_n 0, 1) rfl) rfl rfl ?_
      refine mx_iload_n (pc := 80) 1 (mx_dd dd_X6_named 43 (80, .iload_n 1, 1) rfl) rfl rfl ?_
      obtain ⟨g3, P⟩ := P
      refine mx_cVV (pc := 81) (Y := mY_X6_argument) (As := [.int x1]) mx_ml_X6_203 mx_y_X6_argument rfl g3 (by decide) rfl (by decide) rfl (mx_dd dd_X6_named 44 (81, .invokevirtual 203, 3) rfl) g1 (by decide) P (fun h2 P => ?_)
      refine mx_iinc (pc := 84) 2 (mx_dd dd_X6_named 45 (84, .iinc 4 1, 3) rfl) rfl (mx_kadd (by decide : Int32.ofInt 1 = (1 : Int32))) (by decide) (lv' := [(4, _), (0, _), (1, _)]) rfl ?_
      refine mx_goto (pc := 87) 64 (mx_dd dd_X6_named 46 (87, .goto (-23), 3) rfl) rfl ?_
      refine mx_sel [1, 2, 0] rfl ?_
      exact P
theorem b_X6_named_90 {d : Nat} {h : mxH} {Q : mxRes → mxH → Prop} (x0 : Nat) (x1 : Int32)
    (P : hpK h x0 = 6 ∧ ∃ b1 : Nat, hpR h x0 2 = some b1 ∧ 1 ≤ d ∧ hpK h b1 = 7 ∧ mx_SM mY_X7_emitFor (d - 1) [.ref b1, .int (3 : Int32), .int x1] h (mx_KI (fun v1 h1 => Q (.inl none) h1) (mx_XX mY_X6_named Q))) : mx_SX mY_X6_named d 90 [(0, .ref x0), (1, .int x1)] [] h Q := by
  refine mx_aload_n (pc := 90) 0 (mx_dd dd_X6_named 47 (90, .aload_n 0, 1) rfl) rfl rfl ?_
  obtain ⟨g1, P⟩ := P
  obtain ⟨b1, g2, P⟩ := P
  refine mx_getR (pc := 91) mx_fl_X6_28 g1 rfl g2 (mx_dd dd_X6_named 48 (91, .getfield 28, 3) rfl) ?_
  refine mx_iconst (pc := 94) (v := (3 : Int32)) (mx_dd dd_X6_named 49 (94, .iconst 3, 1) rfl) (by decide) ?_
  refine mx_iload_n (pc := 95) 1 (mx_dd dd_X6_named 50 (95, .iload_n 1, 1) rfl) rfl rfl ?_
  obtain ⟨g3, P⟩ := P
  obtain ⟨g4, P⟩ := P
  refine mx_cVI (pc := 96) (Y := mY_X7_emitFor) (As := [.int (3 : Int32), .int x1]) mx_ml_X6_156 mx_y_X7_emitFor rfl g4 (by decide) rfl (by decide) rfl (mx_dd dd_X6_named 51 (96, .invokevirtual 156, 3) rfl) g3 (by decide) P (fun v1 h1 P => ?_)
  refine mx_pop (pc := 99) (mx_dd dd_X6_named 52 (99, .pop, 1) rfl) rfl ?_
  exact mx_return (pc := 100) (mx_dd dd_X6_named 53 (100, .return_, 1) rfl) rfl P
theorem b_X6_startsArgument {d : Nat} {h : mxH} {Q : mxRes → mxH → Prop} (x0 : Nat)
    (P : hpK h x0 = 6 ∧ (((hpI h x0 3) = (36 : Int32) → mx_SX mY_X6_startsArgument d 24 [] [] h Q) ∧ (¬ (hpI h x0 3) = (36 : Int32) → ((¬ (hpI h x0 3) = (1 : Int32) → Q (.inl (some (.int (0 : Int32)))) h) ∧ ((hpI h x0 3) = (1 : Int32) → 1 ≤ d ∧ mx_SM mY_X6_startsRedirection (d - 1) [.ref x0] h (mx_KI (fun v1 h1 => ((¬ v1 = 0 → Q (.inl (some (.int (0 : Int32)))) h1) ∧ (v1 = 0 → mx_SX mY_X6_startsArgument d 24 [] [] h1 Q))) (mx_XX mY_X6_startsArgument Q))))))) : mx_SM mY_X6_startsArgument d [.ref x0] h Q := by
  refine mx_SM_of (by decide) (Nat.le_of_ble_eq_true rfl) ?_
  show mx_SX mY_X6_startsArgument d 0 [(0, .ref x0)] [] h Q
  refine mx_aload_n (pc := 0) 0 (mx_dd dd_X6_startsArgument 0 (0, .aload_n 0, 1) rfl) rfl rfl ?_
  obtain ⟨g1, P⟩ := P
  refine mx_getI (pc := 1) mx_fl_X6_74 g1 rfl (mx_dd dd_X6_startsArgument 1 (1, .getfield 74, 3) rfl) ?_
  refine mx_bipush (pc := 4) (v := (36 : Int32)) (mx_dd dd_X6_startsArgument 2 (4, .bipush 36, 2) rfl) (by decide) ?_
  refine mx_icmp_eq (pc := 6) 24 (mx_dd dd_X6_startsArgument 3 (6, .if_icmp .eq 18, 3) rfl) rfl (fun c6 => ?_) (fun c6 => ?_)
  · have P := P.1 c6
    refine mx_sel [] rfl ?_
    exact P
  · have P := P.2 c6
    refine mx_aload_n (pc := 9) 0 (mx_dd dd_X6_startsArgument 4 (9, .aload_n 0, 1) rfl) rfl rfl ?_
    refine mx_getI (pc := 10) mx_fl_X6_74 g1 rfl (mx_dd dd_X6_startsArgument 5 (10, .getfield 74, 3) rfl) ?_
    refine mx_iconst (pc := 13) (v := (1 : Int32)) (mx_dd dd_X6_startsArgument 6 (13, .iconst 1, 1) rfl) (by decide) ?_
    refine mx_icmp_ne (pc := 14) 28 (mx_dd dd_X6_startsArgument 7 (14, .if_icmp .ne 14, 3) rfl) rfl (fun c14 => ?_) (fun c14 => ?_)
    · have P := P.1 c14
      refine mx_iconst (pc := 28) (v := (0 : Int32)) (mx_dd dd_X6_startsArgument 13 (28, .iconst 0, 1) rfl) (by decide) ?_
      exact mx_ireturn (pc := 29) (mx_dd dd_X6_startsArgument 14 (29, .ireturn, 1) rfl) rfl rfl P
    · have P := P.2 c14
      refine mx_aload_n (pc := 17) 0 (mx_dd dd_X6_startsArgument 8 (17, .aload_n 0, 1) rfl) rfl rfl ?_
      obtain ⟨g2, P⟩ := P
      refine mx_cVI (pc := 18) (Y := mY_X6_startsRedirection) (As := []) mx_ml_X6_162 mx_y_X6_startsRedirection rfl g1 (by decide) rfl (by decide) rfl (mx_dd dd_X6_startsArgument 9 (18, .invokevirtual 162, 3) rfl) g2 (by decide) P (fun v1 h1 P => ?_)
      refine mx_if_ne (pc := 21) 28 (mx_dd dd_X6_startsArgument 10 (21, .ifCond .ne 7, 3) rfl) rfl (fun c21 => ?_) (fun c21 => ?_)
      · have P := P.1 c21
        refine mx_iconst (pc := 28) (v := (0 : Int32)) (mx_dd dd_X6_startsArgument 13 (28, .iconst 0, 1) rfl) (by decide) ?_
        exact mx_ireturn (pc := 29) (mx_dd dd_X6_startsArgument 14 (29, .ireturn, 1) rfl) rfl rfl P
      · have P := P.2 c21
        refine mx_sel [] rfl ?_
        exact P
theorem b_X6_startsArgument_24 {d : Nat} {h : mxH} {Q : mxRes → mxH → Prop} 
    (P : Q (.inl (some (.int (1 : Int32)))) h) : mx_SX mY_X6_startsArgument d 24 [] [] h Q := by
  refine mx_iconst (pc := 24) (v := (1 : Int32)) (mx_dd dd_X6_startsArgument 11 (24, .iconst 1, 1) rfl) (by decide) ?_
  refine mx_goto (pc := 25) 29 (mx_dd dd_X6_startsArgument 12 (25, .goto 4, 3) rfl) rfl ?_
  exact mx_ireturn (pc := 29) (mx_dd dd_X6_startsArgument 14 (29, .ireturn, 1) rfl) rfl rfl P
theorem b_X6_argument {d : Nat} {h : mxH} {Q : mxRes → mxH → Prop} (x0 : Nat) (x1 : Int32)
    (P : hpK h x0 = 6 ∧ ((¬ (hpI h x0 3) = (1 : Int32) → (((hpI h x0 3) = (36 : Int32) → mx_SX mY_X6_argument d 40 [(0, .ref x0), (1, .int x1)] [] h Q) ∧ (¬ (hpI h x0 3) = (36 : Int32) → 1 ≤ d ∧ mx_SM mY_X6_fail (d - 1) [.ref x0, .int (1 : Int32)] h (mx_KV (fun h1 => mx_SX mY_X6_argument d 40 [(0, .ref x0), (1, .int x1)] [] h1 Q) (mx_XX mY_X6_argument Q))))) ∧ ((hpI h x0 3) = (1 : Int32) → ∃ b1 : Nat, hpR h x0 2 = some b1 ∧ 1 ≤ d ∧ hpK h b1 = 7 ∧ mx_SM mY_X7_addArgument (d - 1) [.ref b1, .int x1, .int (0 : Int32), .long (hpL h x0 6)] h (mx_KV (fun h2 => hpK h2 x0 = 6 ∧ mx_SM mY_X6_advance (d - 1) [.ref x0] h2 (mx_KV (fun h3 => Q (.inl none) h3) (mx_XX mY_X6_argument Q))) (mx_XX mY_X6_argument Q))))) : mx_SM mY_X6_argument d [.ref x0, .int x1] h Q := by
  refine mx_SM_of (by decide) (Nat.le_of_ble_eq_true rfl) ?_
  show mx_SX mY_X6_argument d 0 [(0, .ref x0), (1, .int x1)] [] h Q
  refine mx_aload_n (pc := 0) 0 (mx_dd dd_X6_argument 0 (0, .aload_n 0, 1) rfl) rfl rfl ?_
  obtain ⟨g1, P⟩ := P
  refine mx_getI (pc := 1) mx_fl_X6_74 g1 rfl (mx_dd dd_X6_argument 1 (1, .getfield 74, 3) rfl) ?_
  refine mx_iconst (pc := 4) (v := (1 : Int32)) (mx_dd dd_X6_argument 2 (4, .iconst 1, 1) rfl) (by decide) ?_
  refine mx_icmp_ne (pc := 5) 26 (mx_dd dd_X6_argument 3 (5, .if_icmp .ne 21, 3) rfl) rfl (fun c5 => ?_) (fun c5 => ?_)
  · have P := P.1 c5
    refine mx_aload_n (pc := 26) 0 (mx_dd dd_X6_argument 14 (26, .aload_n 0, 1) rfl) rfl rfl ?_
    refine mx_getI (pc := 27) mx_fl_X6_74 g1 rfl (mx_dd dd_X6_argument 15 (27, .getfield 74, 3) rfl) ?_
    refine mx_bipush (pc := 30) (v := (36 : Int32)) (mx_dd dd_X6_argument 16 (30, .bipush 36, 2) rfl) (by decide) ?_
    refine mx_icmp_eq (pc := 32) 40 (mx_dd dd_X6_argument 17 (32, .if_icmp .eq 8, 3) rfl) rfl (fun c32 => ?_) (fun c32 => ?_)
    · have P := P.1 c32
      exact P
    · have P := P.2 c32
      refine mx_aload_n (pc := 35) 0 (mx_dd dd_X6_argument 18 (35, .aload_n 0, 1) rfl) rfl rfl ?_
      refine mx_iconst (pc := 36) (v := (1 : Int32)) (mx_dd dd_X6_argument 19 (36, .iconst 1, 1) rfl) (by decide) ?_
      obtain ⟨g2, P⟩ := P
      refine mx_cVV (pc := 37) (Y := mY_X6_fail) (As := [.int (1 : Int32)]) mx_ml_X6_93 mx_y_X6_fail rfl g1 (by decide) rfl (by decide) rfl (mx_dd dd_X6_argument 20 (37, .invokevirtual 93, 3) rfl) g2 (by decide) P (fun h1 P => ?_)
      exact P
  · have P := P.2 c5
    refine mx_aload_n (pc := 8) 0 (mx_dd dd_X6_argument 4 (8, .aload_n 0, 1) rfl) rfl rfl ?_
    obtain ⟨b1, g3, P⟩ := P
    refine mx_getR (pc := 9) mx_fl_X6_28 g1 rfl g3 (mx_dd dd_X6_argument 5 (9, .getfield 28, 3) rfl) ?_
    refine mx_iload_n (pc := 12) 1 (mx_dd dd_X6_argument 6 (12, .iload_n 1, 1) rfl) rfl rfl ?_
    refine mx_iconst (pc := 13) (v := (0 : Int32)) (mx_dd dd_X6_argument 7 (13, .iconst 0, 1) rfl) (by decide) ?_
    refine mx_aload_n (pc := 14) 0 (mx_dd dd_X6_argument 8 (14, .aload_n 0, 1) rfl) rfl rfl ?_
    refine mx_getL (pc := 15) mx_fl_X6_87 g1 rfl (mx_dd dd_X6_argument 9 (15, .getfield 87, 3) rfl) ?_
    obtain ⟨g4, P⟩ := P
    obtain ⟨g5, P⟩ := P
    refine mx_cVV (pc := 18) (Y := mY_X7_addArgument) (As := [.int x1, .int (0 : Int32), .long (hpL h x0 6)]) mx_ml_X6_209 mx_y_X7_addArgument rfl g5 (by decide) rfl (by decide) rfl (mx_dd dd_X6_argument 10 (18, .invokevirtual 209, 3) rfl) g4 (by decide) P (fun h2 P => ?_)
    refine mx_aload_n (pc := 21) 0 (mx_dd dd_X6_argument 11 (21, .aload_n 0, 1) rfl) rfl rfl ?_
    obtain ⟨g6, P⟩ := P
    refine mx_cVV (pc := 22) (Y := mY_X6_advance) (As := []) mx_ml_X6_43 mx_y_X6_advance rfl g6 (by decide) rfl (by decide) rfl (mx_dd dd_X6_argument 12 (22, .invokevirtual 43, 3) rfl) g4 (by decide) P (fun h3 P => ?_)
    exact mx_return (pc := 25) (mx_dd dd_X6_argument 13 (25, .return_, 1) rfl) rfl P
theorem b_X6_argument_40 {d : Nat} {h : mxH} {Q : mxRes → mxH → Prop} (x0 : Nat) (x1 : Int32)
    (P : 1 ≤ d ∧ hpK h x0 = 6 ∧ mx_SM mY_X6_advance (d - 1) [.ref x0] h (mx_KV (fun h1 => hpK h1 x0 = 6 ∧ ((¬ (hpI h1 x0 3) = (1 : Int32) → ((¬ (hpI h1 x0 3) = (63 : Int32) → mx_SM mY_X6_fail (d - 1) [.ref x0, .int (1 : Int32)] h1 (mx_KV (fun h2 => mx_SX mY_X6_argument d 95 [(0, .ref x0)] [] h2 Q) (mx_XX mY_X6_argument Q))) ∧ ((hpI h1 x0 3) = (63 : Int32) → ∃ b1 : Nat, hpR h1 x0 2 = some b1 ∧ hpK h1 b1 = 7 ∧ mx_SM mY_X7_addArgument (d - 1) [.ref b1, .int x1, .int (2 : Int32), .long (0 : Int64)] h1 (mx_KV (fun h3 => mx_SX mY_X6_argument d 95 [(0, .ref x0)] [] h3 Q) (mx_XX mY_X6_argument Q))))) ∧ ((hpI h1 x0 3) = (1 : Int32) → ∃ b2 : Nat, hpR h1 x0 2 = some b2 ∧ hpK h1 b2 = 7 ∧ mx_SM mY_X7_addArgument (d - 1) [.ref b2, .int x1, .int (1 : Int32), .long (hpL h1 x0 6)] h1 (mx_KV (fun h4 => mx_SX mY_X6_argument d 95 [(0, .ref x0)] [] h4 Q) (mx_XX mY_X6_argument Q))))) (mx_XX mY_X6_argument Q))) : mx_SX mY_X6_argument d 40 [(0, .ref x0), (1, .int x1)] [] h Q := by
  refine mx_aload_n (pc := 40) 0 (mx_dd dd_X6_argument 21 (40, .aload_n 0, 1) rfl) rfl rfl ?_
  obtain ⟨g1, P⟩ := P
  obtain ⟨g2, P⟩ := P
  refine mx_cVV (pc := 41) (Y := mY_X6_advance) (As := []) mx_ml_X6_43 mx_y_X6_advance rfl g2 (by decide) rfl (by decide) rfl (mx_dd dd_X6_argument 22 (41, .invokevirtual 43, 3) rfl) g1 (by decide) P (fun h1 P => ?_)
  refine mx_aload_n (pc := 44) 0 (mx_dd dd_X6_argument 23 (44, .aload_n 0, 1) rfl) rfl rfl ?_
  obtain ⟨g3, P⟩ := P
  refine mx_getI (pc := 45) mx_fl_X6_74 g3 rfl (mx_dd dd_X6_argument 24 (45, .getfield 74, 3) rfl) ?_
  refine mx_iconst (pc := 48) (v := (1 : Int32)) (mx_dd dd_X6_argument 25 (48, .iconst 1, 1) rfl) (by decide) ?_
  refine mx_icmp_ne (pc := 49) 68 (mx_dd dd_X6_argument 26 (49, .if_icmp .ne 19, 3) rfl) rfl (fun c49 => ?_) (fun c49 => ?_)
  · have P := P.1 c49
    refine mx_aload_n (pc := 68) 0 (mx_dd dd_X6_argument 35 (68, .aload_n 0, 1) rfl) rfl rfl ?_
    refine mx_getI (pc := 69) mx_fl_X6_74 g3 rfl (mx_dd dd_X6_argument 36 (69, .getfield 74, 3) rfl) ?_
    refine mx_bipush (pc := 72) (v := (63 : Int32)) (mx_dd dd_X6_argument 37 (72, .bipush 63, 2) rfl) (by decide) ?_
    refine mx_icmp_ne (pc := 74) 90 (mx_dd dd_X6_argument 38 (74, .if_icmp .ne 16, 3) rfl) rfl (fun c74 => ?_) (fun c74 => ?_)
    · have P := P.1 c74
      refine mx_aload_n (pc := 90) 0 (mx_dd dd_X6_argument 46 (90, .aload_n 0, 1) rfl) rfl rfl ?_
      refine mx_iconst (pc := 91) (v := (1 : Int32)) (mx_dd dd_X6_argument 47 (91, .iconst 1, 1) rfl) (by decide) ?_
      refine mx_cVV (pc := 92) (Y := mY_X6_fail) (As := [.int (1 : Int32)]) mx_ml_X6_93 mx_y_X6_fail rfl g3 (by decide) rfl (by decide) rfl (mx_dd dd_X6_argument 48 (92, .invokevirtual 93, 3) rfl) g1 (by decide) P (fun h2 P => ?_)
      refine mx_sel [0] rfl ?_
      exact P
    · have P := P.2 c74
      refine mx_aload_n (pc := 77) 0 (mx_dd dd_X6_argument 39 (77, .aload_n 0, 1) rfl) rfl rfl ?_
      obtain ⟨b1, g4, P⟩ := P
      refine mx_getR (pc := 78) mx_fl_X6_28 g3 rfl g4 (mx_dd dd_X6_argument 40 (78, .getfield 28, 3) rfl) ?_
      refine mx_iload_n (pc := 81) 1 (mx_dd dd_X6_argument 41 (81, .iload_n 1, 1) rfl) rfl rfl ?_
      refine mx_iconst (pc := 82) (v := (2 : Int32)) (mx_dd dd_X6_argument 42 (82, .iconst 2, 1) rfl) (by decide) ?_
      refine mx_lconst (pc := 83) (v := (0 : Int64)) (mx_dd dd_X6_argument 43 (83, .lconst 0, 1) rfl) (by decide) ?_
      obtain ⟨g5, P⟩ := P
      refine mx_cVV (pc := 84) (Y := mY_X7_addArgument) (As := [.int x1, .int (2 : Int32), .long (0 : Int64)]) mx_ml_X6_209 mx_y_X7_addArgument rfl g5 (by decide) rfl (by decide) rfl (mx_dd dd_X6_argument 44 (84, .invokevirtual 209, 3) rfl) g1 (by decide) P (fun h3 P => ?_)
      refine mx_goto (pc := 87) 95 (mx_dd dd_X6_argument 45 (87, .goto 8, 3) rfl) rfl ?_
      refine mx_sel [0] rfl ?_
      exact P
  · have P := P.2 c49
    refine mx_aload_n (pc := 52) 0 (mx_dd dd_X6_argument 27 (52, .aload_n 0, 1) rfl) rfl rfl ?_
    obtain ⟨b2, g6, P⟩ := P
    refine mx_getR (pc := 53) mx_fl_X6_28 g3 rfl g6 (mx_dd dd_X6_argument 28 (53, .getfield 28, 3) rfl) ?_
    refine mx_iload_n (pc := 56) 1 (mx_dd dd_X6_argument 29 (56, .iload_n 1, 1) rfl) rfl rfl ?_
    refine mx_iconst (pc := 57) (v := (1 : Int32)) (mx_dd dd_X6_argument 30 (57, .iconst 1, 1) rfl) (by decide) ?_
    refine mx_aload_n (pc := 58) 0 (mx_dd dd_X6_argument 31 (58, .aload_n 0, 1) rfl) rfl rfl ?_
    refine mx_getL (pc := 59) mx_fl_X6_87 g3 rfl (mx_dd dd_X6_argument 32 (59, .getfield 87, 3) rfl) ?_
    obtain ⟨g7, P⟩ := P
    refine mx_cVV (pc := 62) (Y := mY_X7_addArgument) (As := [.int x1, .int (1 : Int32), .long (hpL h1 x0 6)]) mx_ml_X6_209 mx_y_X7_addArgument rfl g7 (by decide) rfl (by decide) rfl (mx_dd dd_X6_argument 33 (62, .invokevirtual 209, 3) rfl) g1 (by decide) P (fun h4 P => ?_)
    refine mx_goto (pc := 65) 95 (mx_dd dd_X6_argument 34 (65, .goto 30, 3) rfl) rfl ?_
    refine mx_sel [0] rfl ?_
    exact P
theorem b_X6_argument_95 {d : Nat} {h : mxH} {Q : mxRes → mxH → Prop} (x0 : Nat)
    (P : 1 ≤ d ∧ hpK h x0 = 6 ∧ mx_SM mY_X6_advance (d - 1) [.ref x0] h (mx_KV (fun h1 => Q (.inl none) h1) (mx_XX mY_X6_argument Q))) : mx_SX mY_X6_argument d 95 [(0, .ref x0)] [] h Q := by
  refine mx_aload_n (pc := 95) 0 (mx_dd dd_X6_argument 49 (95, .aload_n 0, 1) rfl) rfl rfl ?_
  obtain ⟨g1, P⟩ := P
  obtain ⟨g2, P⟩ := P
  refine mx_cVV (pc := 96) (Y := mY_X6_advance) (As := []) mx_ml_X6_43 mx_y_X6_advance rfl g2 (by decide) rfl (by decide) rfl (mx_dd dd_X6_argument 50 (96, .invokevirtual 43, 3) rfl) g1 (by decide) P (fun h1 P => ?_)
  exact mx_return (pc := 99) (mx_dd dd_X6_argument 51 (99, .return_, 1) rfl) rfl P
theorem b_X6_startsRedirection {d : Nat} {h : mxH} {Q : mxRes → mxH → Prop} (x0 : Nat)
    (P : 1 ≤ d ∧ hpK h x0 = 6 ∧ mx_SM mY_X6_isDigit (d - 1) [.ref x0] h (mx_KI (fun v1 h1 => ((v1 = 0 → hpK h1 x0 = 6 ∧ (((hpI h1 x0 3) = (60 : Int32) → mx_SX mY_X6_startsRedirection d 82 [] [] h1 Q) ∧ (¬ (hpI h1 x0 3) = (60 : Int32) → (((hpI h1 x0 3) = (62 : Int32) → mx_SX mY_X6_startsRedirection d 82 [] [] h1 Q) ∧ (¬ (hpI h1 x0 3) = (62 : Int32) → (((hpI h1 x0 3) = (258 : Int32) → mx_SX mY_X6_startsRedirection d 82 [] [] h1 Q) ∧ (¬ (hpI h1 x0 3) = (258 : Int32) → (((hpI h1 x0 3) = (259 : Int32) → mx_SX mY_X6_startsRedirection d 82 [] [] h1 Q) ∧ (¬ (hpI h1 x0 3) = (259 : Int32) → ((¬ (hpI h1 x0 3) = (260 : Int32) → Q (.inl (some (.int (0 : Int32)))) h1) ∧ ((hpI h1 x0 3) = (260 : Int32) → mx_SX mY_X6_startsRedirection d 82 [] [] h1 Q))))))))))) ∧ (¬ v1 = 0 → hpK h1 x0 = 6 ∧ mx_SM mY_X6_byteAt (d - 1) [.ref x0, .int (hpI h1 x0 5)] h1 (mx_KI (fun v2 h2 => ((v2 = (60 : Int32) → mx_SX mY_X6_startsRedirection d 28 [] [] h2 Q) ∧ (¬ v2 = (60 : Int32) → ((¬ v2 = (62 : Int32) → Q (.inl (some (.int (0 : Int32)))) h2) ∧ (v2 = (62 : Int32) → mx_SX mY_X6_startsRedirection d 28 [] [] h2 Q))))) (mx_XX mY_X6_startsRedirection Q))))) (mx_XX mY_X6_startsRedirection Q))) : mx_SM mY_X6_startsRedirection d [.ref x0] h Q := by
  refine mx_SM_of (by decide) (Nat.le_of_ble_eq_true rfl) ?_
  show mx_SX mY_X6_startsRedirection d 0 [(0, .ref x0)] [] h Q
  refine mx_aload_n (pc := 0) 0 (mx_dd dd_X6_startsRedirection 0 (0, .aload_n 0, 1) rfl) rfl rfl ?_
  obtain ⟨g1, P⟩ := P
  obtain ⟨g2, P⟩ := P
  refine mx_cVI (pc := 1) (Y := mY_X6_isDigit) (As := []) mx_ml_X6_212 mx_y_X6_isDigit rfl g2 (by decide) rfl (by decide) rfl (mx_dd dd_X6_startsRedirection 1 (1, .invokevirtual 212, 3) rfl) g1 (by decide) P (fun v1 h1 P => ?_)
  refine mx_if_eq (pc := 4) 34 (mx_dd dd_X6_startsRedirection 2 (4, .ifCond .eq 30, 3) rfl) rfl (fun c4 => ?_) (fun c4 => ?_)
  · have P := P.1 c4
    refine mx_aload_n (pc := 34) 0 (mx_dd dd_X6_startsRedirection 18 (34, .aload_n 0, 1) rfl) rfl rfl ?_
    obtain ⟨g3, P⟩ := P
    refine mx_getI (pc := 35) mx_fl_X6_74 g3 rfl (mx_dd dd_X6_startsRedirection 19 (35, .getfield 74, 3) rfl) ?_
    refine mx_bipush (pc := 38) (v := (60 : Int32)) (mx_dd dd_X6_startsRedirection 20 (38, .bipush 60, 2) rfl) (by decide) ?_
    refine mx_icmp_eq (pc := 40) 82 (mx_dd dd_X6_startsRedirection 21 (40, .if_icmp .eq 42, 3) rfl) rfl (fun c40 => ?_) (fun c40 => ?_)
    · have P := P.1 c40
      refine mx_sel [] rfl ?_
      exact P
    · have P := P.2 c40
      refine mx_aload_n (pc := 43) 0 (mx_dd dd_X6_startsRedirection 22 (43, .aload_n 0, 1) rfl) rfl rfl ?_
      refine mx_getI (pc := 44) mx_fl_X6_74 g3 rfl (mx_dd dd_X6_startsRedirection 23 (44, .getfield 74, 3) rfl) ?_
      refine mx_bipush (pc := 47) (v := (62 : Int32)) (mx_dd dd_X6_startsRedirection 24 (47, .bipush 62, 2) rfl) (by decide) ?_
      refine mx_icmp_eq (pc := 49) 82 (mx_dd dd_X6_startsRedirection 25 (49, .if_icmp .eq 33, 3) rfl) rfl (fun c49 => ?_) (fun c49 => ?_)
      · have P := P.1 c49
        refine mx_sel [] rfl ?_
        exact P
      · have P := P.2 c49
        refine mx_aload_n (pc := 52) 0 (mx_dd dd_X6_startsRedirection 26 (52, .aload_n 0, 1) rfl) rfl rfl ?_
        refine mx_getI (pc := 53) mx_fl_X6_74 g3 rfl (mx_dd dd_X6_startsRedirection 27 (53, .getfield 74, 3) rfl) ?_
        refine mx_sipush (pc := 56) (v := (258 : Int32)) (mx_dd dd_X6_startsRedirection 28 (56, .sipush 258, 3) rfl) (by decide) ?_
        refine mx_icmp_eq (pc := 59) 82 (mx_dd dd_X6_startsRedirection 29 (59, .if_icmp .eq 23, 3) rfl) rfl (fun c59 => ?_) (fun c59 => ?_)
        · have P := P.1 c59
          refine mx_sel [] rfl ?_
          exact P
        · have P := P.2 c59
          refine mx_aload_n (pc := 62) 0 (mx_dd dd_X6_startsRedirection 30 (62, .aload_n 0, 1) rfl) rfl rfl ?_
          refine mx_getI (pc := 63) mx_fl_X6_74 g3 rfl (mx_dd dd_X6_startsRedirection 31 (63, .getfield 74, 3) rfl) ?_
          refine mx_sipush (pc := 66) (v := (259 : Int32)) (mx_dd dd_X6_startsRedirection 32 (66, .sipush 259, 3) rfl) (by decide) ?_
          refine mx_icmp_eq (pc := 69) 82 (mx_dd dd_X6_startsRedirection 33 (69, .if_icmp .eq 13, 3) rfl) rfl (fun c69 => ?_) (fun c69 => ?_)
          · have P := P.1 c69
            refine mx_sel [] rfl ?_
            exact P
          · have P := P.2 c69
            refine mx_aload_n (pc := 72) 0 (mx_dd dd_X6_startsRedirection 34 (72, .aload_n 0, 1) rfl) rfl rfl ?_
            refine mx_getI (pc := 73) mx_fl_X6_74 g3 rfl (mx_dd dd_X6_startsRedirection 35 (73, .getfield 74, 3) rfl) ?_
            refine mx_sipush (pc := 76) (v := (260 : Int32)) (mx_dd dd_X6_startsRedirection 36 (76, .sipush 260, 3) rfl) (by decide) ?_
            refine mx_icmp_ne (pc := 79) 86 (mx_dd dd_X6_startsRedirection 37 (79, .if_icmp .ne 7, 3) rfl) rfl (fun c79 => ?_) (fun c79 => ?_)
            · have P := P.1 c79
              refine mx_iconst (pc := 86) (v := (0 : Int32)) (mx_dd dd_X6_startsRedirection 40 (86, .iconst 0, 1) rfl) (by decide) ?_
              exact mx_ireturn (pc := 87) (mx_dd dd_X6_startsRedirection 41 (87, .ireturn, 1) rfl) rfl rfl P
            · have P := P.2 c79
              refine mx_sel [] rfl ?_
              exact P
  · have P := P.2 c4
    refine mx_aload_n (pc := 7) 0 (mx_dd dd_X6_startsRedirection 3 (7, .aload_n 0, 1) rfl) rfl rfl ?_
    refine mx_aload_n (pc := 8) 0 (mx_dd dd_X6_startsRedirection 4 (8, .aload_n 0, 1) rfl) rfl rfl ?_
    obtain ⟨g4, P⟩ := P
    refine mx_getI (pc := 9) mx_fl_X6_35 g4 rfl (mx_dd dd_X6_startsRedirection 5 (9, .getfield 35, 3) rfl) ?_
    refine mx_cVI (pc := 12) (Y := mY_X6_byteAt) (As := [.int (hpI h1 x0 5)]) mx_ml_X6_67 mx_y_X6_byteAt rfl g4 (by decide) rfl (by decide) rfl (mx_dd dd_X6_startsRedirection 6 (12, .invokevirtual 67, 3) rfl) g1 (by decide) P (fun v2 h2 P => ?_)
    refine mx_istore_n (pc := 15) (mx_dd dd_X6_startsRedirection 7 (15, .istore_n 1, 1) rfl) rfl (by decide) (lv' := [(1, _), (0, _)]) rfl ?_
    refine mx_iload_n (pc := 16) 0 (mx_dd dd_X6_startsRedirection 8 (16, .iload_n 1, 1) rfl) rfl rfl ?_
    refine mx_bipush (pc := 17) (v := (60 : Int32)) (mx_dd dd_X6_startsRedirection 9 (17, .bipush 60, 2) rfl) (by decide) ?_
    refine mx_icmp_eq (pc := 19) 28 (mx_dd dd_X6_startsRedirection 10 (19, .if_icmp .eq 9, 3) rfl) rfl (fun c19 => ?_) (fun c19 => ?_)
    · have P := P.1 c19
      refine mx_sel [] rfl ?_
      exact P
    · have P := P.2 c19
      refine mx_iload_n (pc := 22) 0 (mx_dd dd_X6_startsRedirection 11 (22, .iload_n 1, 1) rfl) rfl rfl ?_
      refine mx_bipush (pc := 23) (v := (62 : Int32)) (mx_dd dd_X6_startsRedirection 12 (23, .bipush 62, 2) rfl) (by decide) ?_
      refine mx_icmp_ne (pc := 25) 32 (mx_dd dd_X6_startsRedirection 13 (25, .if_icmp .ne 7, 3) rfl) rfl (fun c25 => ?_) (fun c25 => ?_)
      · have P := P.1 c25
        refine mx_iconst (pc := 32) (v := (0 : Int32)) (mx_dd dd_X6_startsRedirection 16 (32, .iconst 0, 1) rfl) (by decide) ?_
        exact mx_ireturn (pc := 33) (mx_dd dd_X6_startsRedirection 17 (33, .ireturn, 1) rfl) rfl rfl P
      · have P := P.2 c25
        refine mx_sel [] rfl ?_
        exact P
theorem b_X6_startsRedirection_28 {d : Nat} {h : mxH} {Q : mxRes → mxH → Prop} 
    (P : Q (.inl (some (.int (1 : Int32)))) h) : mx_SX mY_X6_startsRedirection d 28 [] [] h Q := by
  refine mx_iconst (pc := 28) (v := (1 : Int32)) (mx_dd dd_X6_startsRedirection 14 (28, .iconst 1, 1) rfl) (by decide) ?_
  refine mx_goto (pc := 29) 33 (mx_dd dd_X6_startsRedirection 15 (29, .goto 4, 3) rfl) rfl ?_
  exact mx_ireturn (pc := 33) (mx_dd dd_X6_startsRedirection 17 (33, .ireturn, 1) rfl) rfl rfl P
theorem b_X6_startsRedirection_82 {d : Nat} {h : mxH} {Q : mxRes → mxH → Prop} 
    (P : Q (.inl (some (.int (1 : Int32)))) h) : mx_SX mY_X6_startsRedirection d 82 [] [] h Q := by
  refine mx_iconst (pc := 82) (v := (1 : Int32)) (mx_dd dd_X6_startsRedirection 38 (82, .iconst 1, 1) rfl) (by decide) ?_
  refine mx_goto (pc := 83) 87 (mx_dd dd_X6_startsRedirection 39 (83, .goto 4, 3) rfl) rfl ?_
  exact mx_ireturn (pc := 87) (mx_dd dd_X6_startsRedirection 41 (87, .ireturn, 1) rfl) rfl rfl P
theorem b_X6_redirection {d : Nat} {h : mxH} {Q : mxRes → mxH → Prop} (x0 : Nat) (x1 : Int32)
    (P : hpK h x0 = 6 ∧ ((¬ (hpI h x0 3) = (1 : Int32) → mx_SX mY_X6_redirection d 19 [(0, .ref x0), (1, .int x1), (2, .int (-1 : Int32))] [] h Q) ∧ ((hpI h x0 3) = (1 : Int32) → 1 ≤ d ∧ mx_SM mY_X6_digit (d - 1) [.ref x0] h (mx_KI (fun v1 h1 => hpK h1 x0 = 6 ∧ mx_SM mY_X6_advance (d - 1) [.ref x0] h1 (mx_KV (fun h2 => mx_SX mY_X6_redirection d 19 [(0, .ref x0), (1, .int x1), (2, .int v1)] [] h2 Q) (mx_XX mY_X6_redirection Q))) (mx_XX mY_X6_redirection Q))))) : mx_SM mY_X6_redirection d [.ref x0, .int x1] h Q := by
  refine mx_SM_of (by decide) (Nat.le_of_ble_eq_true rfl) ?_
  show mx_SX mY_X6_redirection d 0 [(0, .ref x0), (1, .int x1)] [] h Q
  refine mx_iconst (pc := 0) (v := (-1 : Int32)) (mx_dd dd_X6_redirection_0 0 (0, .iconst (-1), 1) rfl) (by decide) ?_
  refine mx_istore_n (pc := 1) (mx_dd dd_X6_redirection_0 1 (1, .istore_n 2, 1) rfl) rfl (by decide) (lv' := [(2, _), (0, _), (1, _)]) rfl ?_
  refine mx_aload_n (pc := 2) 1 (mx_dd dd_X6_redirection_0 2 (2, .aload_n 0, 1) rfl) rfl rfl ?_
  obtain ⟨g1, P⟩ := P
  refine mx_getI (pc := 3) mx_fl_X6_74 g1 rfl (mx_dd dd_X6_redirection_0 3 (3, .getfield 74, 3) rfl) ?_
  refine mx_iconst (pc := 6) (v := (1 : Int32)) (mx_dd dd_X6_redirection_0 4 (6, .iconst 1, 1) rfl) (by decide) ?_
  refine mx_icmp_ne (pc := 7) 19 (mx_dd dd_X6_redirection_0 5 (7, .if_icmp .ne 12, 3) rfl) rfl (fun c7 => ?_) (fun c7 => ?_)
  · have P := P.1 c7
    refine mx_sel [1, 2, 0] rfl ?_
    exact P
  · have P := P.2 c7
    refine mx_aload_n (pc := 10) 1 (mx_dd dd_X6_redirection_0 6 (10, .aload_n 0, 1) rfl) rfl rfl ?_
    obtain ⟨g2, P⟩ := P
    refine mx_cVI (pc := 11) (Y := mY_X6_digit) (As := []) mx_ml_X6_215 mx_y_X6_digit rfl g1 (by decide) rfl (by decide) rfl (mx_dd dd_X6_redirection_0 7 (11, .invokevirtual 215, 3) rfl) g2 (by decide) P (fun v1 h1 P => ?_)
    refine mx_istore_n (pc := 14) (mx_dd dd_X6_redirection_0 8 (14, .istore_n 2, 1) rfl) rfl (by decide) (lv' := [(2, _), (0, _), (1, _)]) rfl ?_
    refine mx_aload_n (pc := 15) 1 (mx_dd dd_X6_redirection_0 9 (15, .aload_n 0, 1) rfl) rfl rfl ?_
    obtain ⟨g3, P⟩ := P
    refine mx_cVV (pc := 16) (Y := mY_X6_advance) (As := []) mx_ml_X6_43 mx_y_X6_advance rfl g3 (by decide) rfl (by decide) rfl (mx_dd dd_X6_redirection_0 10 (16, .invokevirtual 43, 3) rfl) g2 (by decide) P (fun h2 P => ?_)
    refine mx_sel [1, 2, 0] rfl ?_
    exact P
theorem b_X6_redirection_19 {d : Nat} {h : mxH} {Q : mxRes → mxH → Prop} (x0 : Nat) (x1 : Int32) (x2 : Int32)
    (P : hpK h x0 = 6 ∧ ((0 ≤ x2 → mx_SX mY_X6_redirection d 47 [(0, .ref x0), (1, .int x1), (2, .int x2), (3, .int (hpI h x0 3))] [] h Q) ∧ (¬ 0 ≤ x2 → (((hpI h x0 3) = (60 : Int32) → mx_SX mY_X6_redirection d 41 [(0, .ref x0), (1, .int x1), (3, .int (hpI h x0 3))] [] h Q) ∧ (¬ (hpI h x0 3) = (60 : Int32) → ((¬ (hpI h x0 3) = (259 : Int32) → mx_SX mY_X6_redirection d 47 [(0, .ref x0), (1, .int x1), (2, .int (1 : Int32)), (3, .int (hpI h x0 3))] [] h Q) ∧ ((hpI h x0 3) = (259 : Int32) → mx_SX mY_X6_redirection d 41 [(0, .ref x0), (1, .int x1), (3, .int (hpI h x0 3))] [] h Q))))))) : mx_SX mY_X6_redirection d 19 [(0, .ref x0), (1, .int x1), (2, .int x2)] [] h Q := by
  refine mx_aload_n (pc := 19) 0 (mx_dd dd_X6_redirection_0 11 (19, .aload_n 0, 1) rfl) rfl rfl ?_
  obtain ⟨g1, P⟩ := P
  refine mx_getI (pc := 20) mx_fl_X6_74 g1 rfl (mx_dd dd_X6_redirection_0 12 (20, .getfield 74, 3) rfl) ?_
  refine mx_istore_n (pc := 23) (mx_dd dd_X6_redirection_0 13 (23, .istore_n 3, 1) rfl) rfl (by decide) (lv' := [(3, _), (0, _), (1, _), (2, _)]) rfl ?_
  refine mx_iload_n (pc := 24) 3 (mx_dd dd_X6_redirection_0 14 (24, .iload_n 2, 1) rfl) rfl rfl ?_
  refine mx_if_ge (pc := 25) 47 (mx_dd dd_X6_redirection_0 15 (25, .ifCond .ge 22, 3) rfl) rfl (fun c25 => ?_) (fun c25 => ?_)
  · have P := P.1 c25
    refine mx_sel [1, 2, 3, 0] rfl ?_
    exact P
  · have P := P.2 c25
    refine mx_iload_n (pc := 28) 0 (mx_dd dd_X6_redirection_0 16 (28, .iload_n 3, 1) rfl) rfl rfl ?_
    refine mx_bipush (pc := 29) (v := (60 : Int32)) (mx_dd dd_X6_redirection_0 17 (29, .bipush 60, 2) rfl) (by decide) ?_
    refine mx_icmp_eq (pc := 31) 41 (mx_dd dd_X6_redirection_0 18 (31, .if_icmp .eq 10, 3) rfl) rfl (fun c31 => ?_) (fun c31 => ?_)
    · have P := P.1 c31
      refine mx_sel [1, 2, 0] rfl ?_
      exact P
    · have P := P.2 c31
      refine mx_iload_n (pc := 34) 0 (mx_dd dd_X6_redirection_0 19 (34, .iload_n 3, 1) rfl) rfl rfl ?_
      refine mx_sipush (pc := 35) (v := (259 : Int32)) (mx_dd dd_X6_redirection_0 20 (35, .sipush 259, 3) rfl) (by decide) ?_
      refine mx_icmp_ne (pc := 38) 45 (mx_dd dd_X6_redirection_0 21 (38, .if_icmp .ne 7, 3) rfl) rfl (fun c38 => ?_) (fun c38 => ?_)
      · have P := P.1 c38
        refine mx_iconst (pc := 45) (v := (1 : Int32)) (mx_dd dd_X6_redirection_0 24 (45, .iconst 1, 1) rfl) (by decide) ?_
        refine mx_istore_n (pc := 46) (mx_dd dd_X6_redirection_0 25 (46, .istore_n 2, 1) rfl) rfl (by decide) (lv' := [(2, _), (3, _), (0, _), (1, _)]) rfl ?_
        refine mx_sel [2, 3, 0, 1] rfl ?_
        exact P
      · have P := P.2 c38
        refine mx_sel [1, 2, 0] rfl ?_
        exact P
theorem b_X6_redirection_41 {d : Nat} {h : mxH} {Q : mxRes → mxH → Prop} (x0 : Nat) (x1 : Int32) (x3 : Int32)
    (P : mx_SX mY_X6_redirection d 47 [(0, .ref x0), (1, .int x1), (2, .int (0 : Int32)), (3, .int x3)] [] h Q) : mx_SX mY_X6_redirection d 41 [(0, .ref x0), (1, .int x1), (3, .int x3)] [] h Q := by
  refine mx_iconst (pc := 41) (v := (0 : Int32)) (mx_dd dd_X6_redirection_0 22 (41, .iconst 0, 1) rfl) (by decide) ?_
  refine mx_goto (pc := 42) 46 (mx_dd dd_X6_redirection_0 23 (42, .goto 4, 3) rfl) rfl ?_
  refine mx_istore_n (pc := 46) (mx_dd dd_X6_redirection_0 25 (46, .istore_n 2, 1) rfl) rfl (by decide) (lv' := [(2, _), (0, _), (1, _), (3, _)]) rfl ?_
  refine mx_sel [1, 2, 0, 3] rfl ?_
  exact P
theorem b_X6_redirection_47 {d : Nat} {h : mxH} {Q : mxRes → mxH → Prop} (x0 : Nat) (x1 : Int32) (x2 : Int32) (x3 : Int32)
    (P : 1 ≤ d ∧ hpK h x0 = 6 ∧ mx_SM mY_X6_advance (d - 1) [.ref x0] h (mx_KV (fun h1 => ((x3 = (259 : Int32) → mx_SX mY_X6_redirection d 65 [(0, .ref x0), (1, .int x1), (2, .int x2)] [] h1 Q) ∧ (¬ x3 = (259 : Int32) → ((¬ x3 = (260 : Int32) → hpK h1 x0 = 6 ∧ (((hpI h1 x0 3) = (1 : Int32) → mx_SX mY_X6_redirection d 85 [(0, .ref x0), (1, .int x1), (2, .int x2), (3, .int x3)] [] h1 Q) ∧ (¬ (hpI h1 x0 3) = (1 : Int32) → mx_SM mY_X6_fail (d - 1) [.ref x0, .int (1 : Int32)] h1 (mx_KV (fun h2 => mx_SX mY_X6_redirection d 85 [(0, .ref x0), (1, .int x1), (2, .int x2), (3, .int x3)] [] h2 Q) (mx_XX mY_X6_redirection Q))))) ∧ (x3 = (260 : Int32) → mx_SX mY_X6_redirection d 65 [(0, .ref x0), (1, .int x1), (2, .int x2)] [] h1 Q))))) (mx_XX mY_X6_redirection Q))) : mx_SX mY_X6_redirection d 47 [(0, .ref x0), (1, .int x1), (2, .int x2), (3, .int x3)] [] h Q := by
  refine mx_aload_n (pc := 47) 0 (mx_dd dd_X6_redirection_0 26 (47, .aload_n 0, 1) rfl) rfl rfl ?_
  obtain ⟨g1, P⟩ := P
  obtain ⟨g2, P⟩ := P
  refine mx_cVV (pc := 48) (Y := mY_X6_advance) (As := []) mx_ml_X6_43 mx_y_X6_advance rfl g2 (by decide) rfl (by decide) rfl (mx_dd dd_X6_redirection_0 27 (48, .invokevirtual 43, 3) rfl) g1 (by decide) P (fun h1 P => ?_)
  refine mx_iload_n (pc := 51) 3 (mx_dd dd_X6_redirection_0 28 (51, .iload_n 3, 1) rfl) rfl rfl ?_
  refine mx_sipush (pc := 52) (v := (259 : Int32)) (mx_dd dd_X6_redirection_0 29 (52, .sipush 259, 3) rfl) (by decide) ?_
  refine mx_icmp_eq (pc := 55) 65 (mx_dd dd_X6_redirection_0 30 (55, .if_icmp .eq 10, 3) rfl) rfl (fun c55 => ?_) (fun c55 => ?_)
  · have P := P.1 c55
    refine mx_sel [0, 1, 2] rfl ?_
    exact P
  · have P := P.2 c55
    refine mx_iload_n (pc := 58) 3 (mx_dd dd_X6_redirection_0 31 (58, .iload_n 3, 1) rfl) rfl rfl ?_
    refine mx_sipush (pc := 59) (v := (260 : Int32)) (mx_dd dd_X6_redirection_0 32 (59, .sipush 260, 3) rfl) (by decide) ?_
    refine mx_icmp_ne (pc := 62) 72 (mx_dd dd_X6_redirection_0 33 (62, .if_icmp .ne 10, 3) rfl) rfl (fun c62 => ?_) (fun c62 => ?_)
    · have P := P.1 c62
      refine mx_aload_n (pc := 72) 0 (mx_dd dd_X6_redirection_0 39 (72, .aload_n 0, 1) rfl) rfl rfl ?_
      obtain ⟨g3, P⟩ := P
      refine mx_getI (pc := 73) mx_fl_X6_74 g3 rfl (mx_dd dd_X6_redirection_1 0 (73, .getfield 74, 3) rfl) ?_
      refine mx_iconst (pc := 76) (v := (1 : Int32)) (mx_dd dd_X6_redirection_1 1 (76, .iconst 1, 1) rfl) (by decide) ?_
      refine mx_icmp_eq (pc := 77) 85 (mx_dd dd_X6_redirection_1 2 (77, .if_icmp .eq 8, 3) rfl) rfl (fun c77 => ?_) (fun c77 => ?_)
      · have P := P.1 c77
        exact P
      · have P := P.2 c77
        refine mx_aload_n (pc := 80) 0 (mx_dd dd_X6_redirection_1 3 (80, .aload_n 0, 1) rfl) rfl rfl ?_
        refine mx_iconst (pc := 81) (v := (1 : Int32)) (mx_dd dd_X6_redirection_1 4 (81, .iconst 1, 1) rfl) (by decide) ?_
        refine mx_cVV (pc := 82) (Y := mY_X6_fail) (As := [.int (1 : Int32)]) mx_ml_X6_93 mx_y_X6_fail rfl g3 (by decide) rfl (by decide) rfl (mx_dd dd_X6_redirection_1 5 (82, .invokevirtual 93, 3) rfl) g1 (by decide) P (fun h2 P => ?_)
        exact P
    · have P := P.2 c62
      refine mx_sel [0, 1, 2] rfl ?_
      exact P
theorem b_X6_redirection_65 {d : Nat} {h : mxH} {Q : mxRes → mxH → Prop} (x0 : Nat) (x1 : Int32) (x2 : Int32)
    (P : 1 ≤ d ∧ hpK h x0 = 6 ∧ mx_SM mY_X6_target (d - 1) [.ref x0, .int x1, .int x2] h (mx_KV (fun h1 => Q (.inl none) h1) (mx_XX mY_X6_redirection Q))) : mx_SX mY_X6_redirection d 65 [(0, .ref x0), (1, .int x1), (2, .int x2)] [] h Q := by
  refine mx_aload_n (pc := 65) 0 (mx_dd dd_X6_redirection_0 34 (65, .aload_n 0, 1) rfl) rfl rfl ?_
  refine mx_iload_n (pc := 66) 1 (mx_dd dd_X6_redirection_0 35 (66, .iload_n 1, 1) rfl) rfl rfl ?_
  refine mx_iload_n (pc := 67) 2 (mx_dd dd_X6_redirection_0 36 (67, .iload_n 2, 1) rfl) rfl rfl ?_
  obtain ⟨g1, P⟩ := P
  obtain ⟨g2, P⟩ := P
  refine mx_cVV (pc := 68) (Y := mY_X6_target) (As := [.int x1, .int x2]) mx_ml_X6_219 mx_y_X6_target rfl g2 (by decide) rfl (by decide) rfl (mx_dd dd_X6_redirection_0 37 (68, .invokevirtual 219, 3) rfl) g1 (by decide) P (fun h1 P => ?_)
  exact mx_return (pc := 71) (mx_dd dd_X6_redirection_0 38 (71, .return_, 1) rfl) rfl P
theorem b_X6_redirection_85 {d : Nat} {h : mxH} {Q : mxRes → mxH → Prop} (x0 : Nat) (x1 : Int32) (x2 : Int32) (x3 : Int32)
    (P : ((¬ x3 = (258 : Int32) → hpK h x0 = 6 ∧ ∃ b1 : Nat, hpR h x0 2 = some b1 ∧ ((¬ x3 = (60 : Int32) → 1 ≤ d ∧ hpK h b1 = 7 ∧ mx_SM mY_X7_addRedirection (d - 1) [.ref b1, .int x1, .int (1 : Int32), .int x2, .long (hpL h x0 6)] h (mx_KV (fun h1 => hpK h1 x0 = 6 ∧ mx_SM mY_X6_advance (d - 1) [.ref x0] h1 (mx_KV (fun h2 => Q (.inl none) h2) (mx_XX mY_X6_redirection Q))) (mx_XX mY_X6_redirection Q))) ∧ (x3 = (60 : Int32) → 1 ≤ d ∧ hpK h b1 = 7 ∧ mx_SM mY_X7_addRedirection (d - 1) [.ref b1, .int x1, .int (0 : Int32), .int x2, .long (hpL h x0 6)] h (mx_KV (fun h3 => hpK h3 x0 = 6 ∧ mx_SM mY_X6_advance (d - 1) [.ref x0] h3 (mx_KV (fun h4 => Q (.inl none) h4) (mx_XX mY_X6_redirection Q))) (mx_XX mY_X6_redirection Q))))) ∧ (x3 = (258 : Int32) → hpK h x0 = 6 ∧ ∃ b2 : Nat, hpR h x0 2 = some b2 ∧ ((¬ x3 = (60 : Int32) → 1 ≤ d ∧ hpK h b2 = 7 ∧ mx_SM mY_X7_addRedirection (d - 1) [.ref b2, .int x1, .int (2 : Int32), .int x2, .long (hpL h x0 6)] h (mx_KV (fun h5 => hpK h5 x0 = 6 ∧ mx_SM mY_X6_advance (d - 1) [.ref x0] h5 (mx_KV (fun h6 => Q (.inl none) h6) (mx_XX mY_X6_redirection Q))) (mx_XX mY_X6_redirection Q))) ∧ (x3 = (60 : Int32) → 1 ≤ d ∧ hpK h b2 = 7 ∧ mx_SM mY_X7_addRedirection (d - 1) [.ref b2, .int x1, .int (0 : Int32), .int x2, .long (hpL h x0 6)] h (mx_KV (fun h7 => hpK h7 x0 = 6 ∧ mx_SM mY_X6_advance (d - 1) [.ref x0] h7 (mx_KV (fun h8 => Q (.inl none) h8) (mx_XX mY_X6_redirection Q))) (mx_XX mY_X6_redirection Q))))))) : mx_SX mY_X6_redirection d 85 [(0, .ref x0), (1, .int x1), (2, .int x2), (3, .int x3)] [] h Q := by
  refine mx_iload_n (pc := 85) 3 (mx_dd dd_X6_redirection_1 6 (85, .iload_n 3, 1) rfl) rfl rfl ?_
  refine mx_sipush (pc := 86) (v := (258 : Int32)) (mx_dd dd_X6_redirection_1 7 (86, .sipush 258, 3) rfl) (by decide) ?_
  refine mx_icmp_ne (pc := 89) 96 (mx_dd dd_X6_redirection_1 8 (89, .if_icmp .ne 7, 3) rfl) rfl (fun c89 => ?_) (fun c89 => ?_)
  · have P := P.1 c89
    refine mx_iconst (pc := 96) (v := (1 : Int32)) (mx_dd dd_X6_redirection_1 11 (96, .iconst 1, 1) rfl) (by decide) ?_
    refine mx_istore (pc := 97) (mx_dd dd_X6_redirection_1 12 (97, .istore 4, 2) rfl) (by decide) (lv' := [(4, _), (0, _), (1, _), (2, _), (3, _)]) rfl ?_
    refine mx_aload_n (pc := 99) 1 (mx_dd dd_X6_redirection_1 13 (99, .aload_n 0, 1) rfl) rfl rfl ?_
    obtain ⟨g1, P⟩ := P
    obtain ⟨b1, g2, P⟩ := P
    refine mx_getR (pc := 100) mx_fl_X6_28 g1 rfl g2 (mx_dd dd_X6_redirection_1 14 (100, .getfield 28, 3) rfl) ?_
    refine mx_iload_n (pc := 103) 2 (mx_dd dd_X6_redirection_1 15 (103, .iload_n 1, 1) rfl) rfl rfl ?_
    refine mx_iload_n (pc := 104) 4 (mx_dd dd_X6_redirection_1 16 (104, .iload_n 3, 1) rfl) rfl rfl ?_
    refine mx_bipush (pc := 105) (v := (60 : Int32)) (mx_dd dd_X6_redirection_1 17 (105, .bipush 60, 2) rfl) (by decide) ?_
    refine mx_icmp_ne (pc := 107) 114 (mx_dd dd_X6_redirection_1 18 (107, .if_icmp .ne 7, 3) rfl) rfl (fun c107 => ?_) (fun c107 => ?_)
    · have P := P.1 c107
      refine mx_iload (pc := 114) 0 (mx_dd dd_X6_redirection_1 21 (114, .iload 4, 2) rfl) rfl ?_
      refine mx_iload_n (pc := 116) 3 (mx_dd dd_X6_redirection_1 22 (116, .iload_n 2, 1) rfl) rfl rfl ?_
      refine mx_aload_n (pc := 117) 1 (mx_dd dd_X6_redirection_1 23 (117, .aload_n 0, 1) rfl) rfl rfl ?_
      refine mx_getL (pc := 118) mx_fl_X6_87 g1 rfl (mx_dd dd_X6_redirection_1 24 (118, .getfield 87, 3) rfl) ?_
      obtain ⟨g3, P⟩ := P
      obtain ⟨g4, P⟩ := P
      refine mx_cVV (pc := 121) (Y := mY_X7_addRedirection) (As := [.int x1, .int (1 : Int32), .int x2, .long (hpL h x0 6)]) mx_ml_X6_222 mx_y_X7_addRedirection rfl g4 (by decide) rfl (by decide) rfl (mx_dd dd_X6_redirection_1 25 (121, .invokevirtual 222, 3) rfl) g3 (by decide) P (fun h1 P => ?_)
      refine mx_aload_n (pc := 124) 1 (mx_dd dd_X6_redirection_1 26 (124, .aload_n 0, 1) rfl) rfl rfl ?_
      obtain ⟨g5, P⟩ := P
      refine mx_cVV (pc := 125) (Y := mY_X6_advance) (As := []) mx_ml_X6_43 mx_y_X6_advance rfl g5 (by decide) rfl (by decide) rfl (mx_dd dd_X6_redirection_1 27 (125, .invokevirtual 43, 3) rfl) g3 (by decide) P (fun h2 P => ?_)
      exact mx_return (pc := 128) (mx_dd dd_X6_redirection_1 28 (128, .return_, 1) rfl) rfl P
    · have P := P.2 c107
      refine mx_iconst (pc := 110) (v := (0 : Int32)) (mx_dd dd_X6_redirection_1 19 (110, .iconst 0, 1) rfl) (by decide) ?_
      refine mx_goto (pc := 111) 116 (mx_dd dd_X6_redirection_1 20 (111, .goto 5, 3) rfl) rfl ?_
      refine mx_iload_n (pc := 116) 3 (mx_dd dd_X6_redirection_1 22 (116, .iload_n 2, 1) rfl) rfl rfl ?_
      refine mx_aload_n (pc := 117) 1 (mx_dd dd_X6_redirection_1 23 (117, .aload_n 0, 1) rfl) rfl rfl ?_
      refine mx_getL (pc := 118) mx_fl_X6_87 g1 rfl (mx_dd dd_X6_redirection_1 24 (118, .getfield 87, 3) rfl) ?_
      obtain ⟨g6, P⟩ := P
      obtain ⟨g7, P⟩ := P
      refine mx_cVV (pc := 121) (Y := mY_X7_addRedirection) (As := [.int x1, .int (0 : Int32), .int x2, .long (hpL h x0 6)]) mx_ml_X6_222 mx_y_X7_addRedirection rfl g7 (by decide) rfl (by decide) rfl (mx_dd dd_X6_redirection_1 25 (121, .invokevirtual 222, 3) rfl) g6 (by decide) P (fun h3 P => ?_)
      refine mx_aload_n (pc := 124) 1 (mx_dd dd_X6_redirection_1 26 (124, .aload_n 0, 1) rfl) rfl rfl ?_
      obtain ⟨g8, P⟩ := P
      refine mx_cVV (pc := 125) (Y := mY_X6_advance) (As := []) mx_ml_X6_43 mx_y_X6_advance rfl g8 (by decide) rfl (by decide) rfl (mx_dd dd_X6_redirection_1 27 (125, .invokevirtual 43, 3) rfl) g6 (by decide) P (fun h4 P => ?_)
      exact mx_return (pc := 128) (mx_dd dd_X6_redirection_1 28 (128, .return_, 1) rfl) rfl P
  · have P := P.2 c89
    refine mx_iconst (pc := 92) (v := (2 : Int32)) (mx_dd dd_X6_redirection_1 9 (92, .iconst 2, 1) rfl) (by decide) ?_
    refine mx_goto (pc := 93) 97 (mx_dd dd_X6_redirection_1 10 (93, .goto 4, 3) rfl) rfl ?_
    refine mx_istore (pc := 97) (mx_dd dd_X6_redirection_1 12 (97, .istore 4, 2) rfl) (by decide) (lv' := [(4, _), (0, _), (1, _), (2, _), (3, _)]) rfl ?_
    refine mx_aload_n (pc := 99) 1 (mx_dd dd_X6_redirection_1 13 (99, .aload_n 0, 1) rfl) rfl rfl ?_
    obtain ⟨g9, P⟩ := P
    obtain ⟨b2, g10, P⟩ := P
    refine mx_getR (pc := 100) mx_fl_X6_28 g9 rfl g10 (mx_dd dd_X6_redirection_1 14 (100, .getfield 28, 3) rfl) ?_
    refine mx_iload_n (pc := 103) 2 (mx_dd dd_X6_redirection_1 15 (103, .iload_n 1, 1) rfl) rfl rfl ?_
    refine mx_iload_n (pc := 104) 4 (mx_dd dd_X6_redirection_1 16 (104, .iload_n 3, 1) rfl) rfl rfl ?_
    refine mx_bipush (pc := 105) (v := (60 : Int32)) (mx_dd dd_X6_redirection_1 17 (105, .bipush 60, 2) rfl) (by decide) ?_
    refine mx_icmp_ne (pc := 107) 114 (mx_dd dd_X6_redirection_1 18 (107, .if_icmp .ne 7, 3) rfl) rfl (fun c107 => ?_) (fun c107 => ?_)
    · have P := P.1 c107
      refine mx_iload (pc := 114) 0 (mx_dd dd_X6_redirection_1 21 (114, .iload 4, 2) rfl) rfl ?_
      refine mx_iload_n (pc := 116) 3 (mx_dd dd_X6_redirection_1 22 (116, .iload_n 2, 1) rfl) rfl rfl ?_
      refine mx_aload_n (pc := 117) 1 (mx_dd dd_X6_redirection_1 23 (117, .aload_n 0, 1) rfl) rfl rfl ?_
      refine mx_getL (pc := 118) mx_fl_X6_87 g9 rfl (mx_dd dd_X6_redirection_1 24 (118, .getfield 87, 3) rfl) ?_
      obtain ⟨g11, P⟩ := P
      obtain ⟨g12, P⟩ := P
      refine mx_cVV (pc := 121) (Y := mY_X7_addRedirection) (As := [.int x1, .int (2 : Int32), .int x2, .long (hpL h x0 6)]) mx_ml_X6_222 mx_y_X7_addRedirection rfl g12 (by decide) rfl (by decide) rfl (mx_dd dd_X6_redirection_1 25 (121, .invokevirtual 222, 3) rfl) g11 (by decide) P (fun h5 P => ?_)
      refine mx_aload_n (pc := 124) 1 (mx_dd dd_X6_redirection_1 26 (124, .aload_n 0, 1) rfl) rfl rfl ?_
      obtain ⟨g13, P⟩ := P
      refine mx_cVV (pc := 125) (Y := mY_X6_advance) (As := []) mx_ml_X6_43 mx_y_X6_advance rfl g13 (by decide) rfl (by decide) rfl (mx_dd dd_X6_redirection_1 27 (125, .invokevirtual 43, 3) rfl) g11 (by decide) P (fun h6 P => ?_)
      exact mx_return (pc := 128) (mx_dd dd_X6_redirection_1 28 (128, .return_, 1) rfl) rfl P
    · have P := P.2 c107
      refine mx_iconst (pc := 110) (v := (0 : Int32)) (mx_dd dd_X6_redirection_1 19 (110, .iconst 0, 1) rfl) (by decide) ?_
      refine mx_goto (pc := 111) 116 (mx_dd dd_X6_redirection_1 20 (111, .goto 5, 3) rfl) rfl ?_
      refine mx_iload_n (pc := 116) 3 (mx_dd dd_X6_redirection_1 22 (116, .iload_n 2, 1) rfl) rfl rfl ?_
      refine mx_aload_n (pc := 117) 1 (mx_dd dd_X6_redirection_1 23 (117, .aload_n 0, 1) rfl) rfl rfl ?_
      refine mx_getL (pc := 118) mx_fl_X6_87 g9 rfl (mx_dd dd_X6_redirection_1 24 (118, .getfield 87, 3) rfl) ?_
      obtain ⟨g14, P⟩ := P
      obtain ⟨g15, P⟩ := P
      refine mx_cVV (pc := 121) (Y := mY_X7_addRedirection) (As := [.int x1, .int (0 : Int32), .int x2, .long (hpL h x0 6)]) mx_ml_X6_222 mx_y_X7_addRedirection rfl g15 (by decide) rfl (by decide) rfl (mx_dd dd_X6_redirection_1 25 (121, .invokevirtual 222, 3) rfl) g14 (by decide) P (fun h7 P => ?_)
      refine mx_aload_n (pc := 124) 1 (mx_dd dd_X6_redirection_1 26 (124, .aload_n 0, 1) rfl) rfl rfl ?_
      obtain ⟨g16, P⟩ := P
      refine mx_cVV (pc := 125) (Y := mY_X6_advance) (As := []) mx_ml_X6_43 mx_y_X6_advance rfl g16 (by decide) rfl (by decide) rfl (mx_dd dd_X6_redirection_1 27 (125, .invokevirtual 43, 3) rfl) g14 (by decide) P (fun h8 P => ?_)
      exact mx_return (pc := 128) (mx_dd dd_X6_redirection_1 28 (128, .return_, 1) rfl) rfl P
theorem b_X6_target {d : Nat} {h : mxH} {Q : mxRes → mxH → Prop} (x0 : Nat) (x1 : Int32) (x2 : Int32)
    (P : hpK h x0 = 6 ∧ ((¬ (hpI h x0 3) = (45 : Int32) → 1 ≤ d ∧ mx_SM mY_X6_isDigit (d - 1) [.ref x0] h (mx_KI (fun v1 h1 => ((v1 = 0 → hpK h1 x0 = 6 ∧ mx_SM mY_X6_fail (d - 1) [.ref x0, .int (1 : Int32)] h1 (mx_KV (fun h2 => mx_SX mY_X6_target d 53 [(0, .ref x0)] [] h2 Q) (mx_XX mY_X6_target Q))) ∧ (¬ v1 = 0 → hpK h1 x0 = 6 ∧ ∃ b1 : Nat, hpR h1 x0 2 = some b1 ∧ mx_SM mY_X6_digit (d - 1) [.ref x0] h1 (mx_KI (fun v2 h3 => hpK h3 b1 = 7 ∧ mx_SM mY_X7_addRedirection (d - 1) [.ref b1, .int x1, .int (3 : Int32), .int x2, .long (v2.toInt64)] h3 (mx_KV (fun h4 => mx_SX mY_X6_target d 53 [(0, .ref x0)] [] h4 Q) (mx_XX mY_X6_target Q))) (mx_XX mY_X6_target Q))))) (mx_XX mY_X6_target Q))) ∧ ((hpI h x0 3) = (45 : Int32) → ∃ b2 : Nat, hpR h x0 2 = some b2 ∧ 1 ≤ d ∧ hpK h b2 = 7 ∧ mx_SM mY_X7_addRedirection (d - 1) [.ref b2, .int x1, .int (4 : Int32), .int x2, .long (0 : Int64)] h (mx_KV (fun h5 => mx_SX mY_X6_target d 53 [(0, .ref x0)] [] h5 Q) (mx_XX mY_X6_target Q))))) : mx_SM mY_X6_target d [.ref x0, .int x1, .int x2] h Q := by
  refine mx_SM_of (by decide) (Nat.le_of_ble_eq_true rfl) ?_
  show mx_SX mY_X6_target d 0 [(0, .ref x0), (1, .int x1), (2, .int x2)] [] h Q
  refine mx_aload_n (pc := 0) 0 (mx_dd dd_X6_target 0 (0, .aload_n 0, 1) rfl) rfl rfl ?_
  obtain ⟨g1, P⟩ := P
  refine mx_getI (pc := 1) mx_fl_X6_74 g1 rfl (mx_dd dd_X6_target 1 (1, .getfield 74, 3) rfl) ?_
  refine mx_bipush (pc := 4) (v := (45 : Int32)) (mx_dd dd_X6_target 2 (4, .bipush 45, 2) rfl) (by decide) ?_
  refine mx_icmp_ne (pc := 6) 23 (mx_dd dd_X6_target 3 (6, .if_icmp .ne 17, 3) rfl) rfl (fun c6 => ?_) (fun c6 => ?_)
  · have P := P.1 c6
    refine mx_aload_n (pc := 23) 0 (mx_dd dd_X6_target 12 (23, .aload_n 0, 1) rfl) rfl rfl ?_
    obtain ⟨g2, P⟩ := P
    refine mx_cVI (pc := 24) (Y := mY_X6_isDigit) (As := []) mx_ml_X6_212 mx_y_X6_isDigit rfl g1 (by decide) rfl (by decide) rfl (mx_dd dd_X6_target 13 (24, .invokevirtual 212, 3) rfl) g2 (by decide) P (fun v1 h1 P => ?_)
    refine mx_if_eq (pc := 27) 48 (mx_dd dd_X6_target 14 (27, .ifCond .eq 21, 3) rfl) rfl (fun c27 => ?_) (fun c27 => ?_)
    · have P := P.1 c27
      refine mx_aload_n (pc := 48) 0 (mx_dd dd_X6_target 25 (48, .aload_n 0, 1) rfl) rfl rfl ?_
      refine mx_iconst (pc := 49) (v := (1 : Int32)) (mx_dd dd_X6_target 26 (49, .iconst 1, 1) rfl) (by decide) ?_
      obtain ⟨g3, P⟩ := P
      refine mx_cVV (pc := 50) (Y := mY_X6_fail) (As := [.int (1 : Int32)]) mx_ml_X6_93 mx_y_X6_fail rfl g3 (by decide) rfl (by decide) rfl (mx_dd dd_X6_target 27 (50, .invokevirtual 93, 3) rfl) g2 (by decide) P (fun h2 P => ?_)
      refine mx_sel [0] rfl ?_
      exact P
    · have P := P.2 c27
      refine mx_aload_n (pc := 30) 0 (mx_dd dd_X6_target 15 (30, .aload_n 0, 1) rfl) rfl rfl ?_
      obtain ⟨g4, P⟩ := P
      obtain ⟨b1, g5, P⟩ := P
      refine mx_getR (pc := 31) mx_fl_X6_28 g4 rfl g5 (mx_dd dd_X6_target 16 (31, .getfield 28, 3) rfl) ?_
      refine mx_iload_n (pc := 34) 1 (mx_dd dd_X6_target 17 (34, .iload_n 1, 1) rfl) rfl rfl ?_
      refine mx_iconst (pc := 35) (v := (3 : Int32)) (mx_dd dd_X6_target 18 (35, .iconst 3, 1) rfl) (by decide) ?_
      refine mx_iload_n (pc := 36) 2 (mx_dd dd_X6_target 19 (36, .iload_n 2, 1) rfl) rfl rfl ?_
      refine mx_aload_n (pc := 37) 0 (mx_dd dd_X6_target 20 (37, .aload_n 0, 1) rfl) rfl rfl ?_
      refine mx_cVI (pc := 38) (Y := mY_X6_digit) (As := []) mx_ml_X6_215 mx_y_X6_digit rfl g4 (by decide) rfl (by simp [Value.category]) rfl (mx_dd dd_X6_target 21 (38, .invokevirtual 215, 3) rfl) g2 (by decide) P (fun v2 h3 P => ?_)
      refine mx_i2l (pc := 41) (mx_dd dd_X6_target 22 (41, .i2l, 1) rfl) ?_
      obtain ⟨g6, P⟩ := P
      refine mx_cVV (pc := 42) (Y := mY_X7_addRedirection) (As := [.int x1, .int (3 : Int32), .int x2, .long (v2.toInt64)]) mx_ml_X6_222 mx_y_X7_addRedirection rfl g6 (by decide) rfl (by decide) rfl (mx_dd dd_X6_target 23 (42, .invokevirtual 222, 3) rfl) g2 (by decide) P (fun h4 P => ?_)
      refine mx_goto (pc := 45) 53 (mx_dd dd_X6_target 24 (45, .goto 8, 3) rfl) rfl ?_
      refine mx_sel [0] rfl ?_
      exact P
  · have P := P.2 c6
    refine mx_aload_n (pc := 9) 0 (mx_dd dd_X6_target 4 (9, .aload_n 0, 1) rfl) rfl rfl ?_
    obtain ⟨b2, g7, P⟩ := P
    refine mx_getR (pc := 10) mx_fl_X6_28 g1 rfl g7 (mx_dd dd_X6_target 5 (10, .getfield 28, 3) rfl) ?_
    refine mx_iload_n (pc := 13) 1 (mx_dd dd_X6_target 6 (13, .iload_n 1, 1) rfl) rfl rfl ?_
    refine mx_iconst (pc := 14) (v := (4 : Int32)) (mx_dd dd_X6_target 7 (14, .iconst 4, 1) rfl) (by decide) ?_
    refine mx_iload_n (pc := 15) 2 (mx_dd dd_X6_target 8 (15, .iload_n 2, 1) rfl) rfl rfl ?_
    refine mx_lconst (pc := 16) (v := (0 : Int64)) (mx_dd dd_X6_target 9 (16, .lconst 0, 1) rfl) (by decide) ?_
    obtain ⟨g8, P⟩ := P
    obtain ⟨g9, P⟩ := P
    refine mx_cVV (pc := 17) (Y := mY_X7_addRedirection) (As := [.int x1, .int (4 : Int32), .int x2, .long (0 : Int64)]) mx_ml_X6_222 mx_y_X7_addRedirection rfl g9 (by decide) rfl (by decide) rfl (mx_dd dd_X6_target 10 (17, .invokevirtual 222, 3) rfl) g8 (by decide) P (fun h5 P => ?_)
    refine mx_goto (pc := 20) 53 (mx_dd dd_X6_target 11 (20, .goto 33, 3) rfl) rfl ?_
    refine mx_sel [0] rfl ?_
    exact P
theorem b_X6_target_53 {d : Nat} {h : mxH} {Q : mxRes → mxH → Prop} (x0 : Nat)
    (P : 1 ≤ d ∧ hpK h x0 = 6 ∧ mx_SM mY_X6_advance (d - 1) [.ref x0] h (mx_KV (fun h1 => Q (.inl none) h1) (mx_XX mY_X6_target Q))) : mx_SX mY_X6_target d 53 [(0, .ref x0)] [] h Q := by
  refine mx_aload_n (pc := 53) 0 (mx_dd dd_X6_target 28 (53, .aload_n 0, 1) rfl) rfl rfl ?_
  obtain ⟨g1, P⟩ := P
  obtain ⟨g2, P⟩ := P
  refine mx_cVV (pc := 54) (Y := mY_X6_advance) (As := []) mx_ml_X6_43 mx_y_X6_advance rfl g2 (by decide) rfl (by decide) rfl (mx_dd dd_X6_target 29 (54, .invokevirtual 43, 3) rfl) g1 (by decide) P (fun h1 P => ?_)
  exact mx_return (pc := 57) (mx_dd dd_X6_target 30 (57, .return_, 1) rfl) rfl P
