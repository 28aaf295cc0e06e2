/-! PRINTED by wip/whole/genblocks.py: the blocks of the methods of X7,X10,X1 -/
theorem b_X1_init {d : Nat} {h : mxH} {Q : mxRes → mxH → Prop} (x0 : Nat) (x1 : Nat) (x2 : Nat) (x3 : Nat)
    (P : 1 ≤ d ∧ hpK h x0 = 1 ∧ ∀ h1 : mxH, h1 = hsR h x0 0 (some x1) → ∀ h2 : mxH, h2 = hsR h1 x0 1 (some x2) → ∀ h3 : mxH, h3 = hsR h2 x0 2 (some x3) → ∀ (b1 : Nat) (h4 : mxH), b1 = hpN h3 → h4 = hnw h3 13 80 80 → hpK h4 x0 = 1 ∧ ∀ h5 : mxH, h5 = hsR h4 x0 3 (some b1) → Q (.inl none) h5) : mx_SM mY_X1_init d [.ref x0, .ref x1, .ref x2, .ref x3] h Q := by
  refine mx_SM_of (by decide) (Nat.le_of_ble_eq_true rfl) ?_
  show mx_SX mY_X1_init d 0 [(0, .ref x0), (1, .ref x1), (2, .ref x2), (3, .ref x3)] [] h Q
  refine mx_aload_n (pc := 0) 0 (mx_dd dd_X1_init 0 (0, .aload_n 0, 1) rfl) rfl rfl ?_
  obtain ⟨g1, P⟩ := P
  refine mx_objInit (pc := 1) mx_oi_X1_3 mx_oii mx_oic (by decide) (mx_dd dd_X1_init 1 (1, .invokespecial 3, 3) rfl) g1 ?_
  refine mx_aload_n (pc := 4) 0 (mx_dd dd_X1_init 2 (4, .aload_n 0, 1) rfl) rfl rfl ?_
  refine mx_aload_n (pc := 5) 1 (mx_dd dd_X1_init 3 (5, .aload_n 1, 1) rfl) rfl rfl ?_
  obtain ⟨g2, P⟩ := P
  refine mx_putR (pc := 6) mx_fl_X1_9 g2 rfl (.inr ⟨rfl, rfl, rfl⟩) (mx_dd dd_X1_init 4 (6, .putfield 9, 3) rfl) ?_
  have P := P _ rfl
  refine mx_aload_n (pc := 9) 0 (mx_dd dd_X1_init 5 (9, .aload_n 0, 1) rfl) rfl rfl ?_
  refine mx_aload_n (pc := 10) 2 (mx_dd dd_X1_init 6 (10, .aload_n 2, 1) rfl) rfl rfl ?_
  refine mx_putR (pc := 11) mx_fl_X1_15 g2 rfl (.inr ⟨rfl, rfl, rfl⟩) (mx_dd dd_X1_init 7 (11, .putfield 15, 3) rfl) ?_
  have P := P _ rfl
  refine mx_aload_n (pc := 14) 0 (mx_dd dd_X1_init 8 (14, .aload_n 0, 1) rfl) rfl rfl ?_
  refine mx_aload_n (pc := 15) 3 (mx_dd dd_X1_init 9 (15, .aload_n 3, 1) rfl) rfl rfl ?_
  refine mx_putR (pc := 16) mx_fl_X1_19 g2 rfl (.inr ⟨rfl, rfl, rfl⟩) (mx_dd dd_X1_init 10 (16, .putfield 19, 3) rfl) ?_
  have P := P _ rfl
  refine mx_aload_n (pc := 19) 0 (mx_dd dd_X1_init 11 (19, .aload_n 0, 1) rfl) rfl rfl ?_
  refine mx_bipush (pc := 20) (v := (80 : Int32)) (mx_dd dd_X1_init 12 (20, .bipush 80, 2) rfl) (by decide) ?_
  refine mx_newa (pc := 22) (N := 80) (kd := 13) (by decide) rfl mx_ac_13 (by decide) (by decide) (by decide) (mx_dd dd_X1_init 13 (22, .newarray .byte, 2) rfl) ?_
  have P := P _ _ rfl rfl
  obtain ⟨g3, P⟩ := P
  refine mx_putR (pc := 24) mx_fl_X1_23 g3 rfl (.inr ⟨rfl, rfl, rfl⟩) (mx_dd dd_X1_init 14 (24, .putfield 23, 3) rfl) ?_
  have P := P _ rfl
  exact mx_return (pc := 27) (mx_dd dd_X1_init 15 (27, .return_, 1) rfl) rfl P
theorem b_X1_kindOf {d : Nat} {h : mxH} {Q : mxRes → mxH → Prop} (x0 : Int64)
    (P : mx_SX mY_X1_kindOf d 2 [(0, .long x0), (2, .int (0 : Int32))] [] h Q) : mx_SM mY_X1_kindOf d [.long x0] h Q := by
  refine mx_SM_of (by decide) (Nat.le_of_ble_eq_true rfl) ?_
  show mx_SX mY_X1_kindOf d 0 [(0, .long x0)] [] h Q
  refine mx_iconst (pc := 0) (v := (0 : Int32)) (mx_dd dd_X1_kindOf 0 (0, .iconst 0, 1) rfl) (by decide) ?_
  refine mx_istore_n (pc := 1) (mx_dd dd_X1_kindOf 1 (1, .istore_n 2, 1) rfl) rfl (by decide) (lv' := [(2, _), (0, _)]) rfl ?_
  refine mx_sel [1, 0] rfl ?_
  exact P
theorem b_X1_kindOf_2 {d : Nat} {h : mxH} {Q : mxRes → mxH → Prop} (x0 : Int64) (x2 : Int32)
    (P : (((nI (hpZ h 1)) ≤ x2 → Q (.inl (some (.int (0 : Int32)))) h) ∧ (¬ (nI (hpZ h 1)) ≤ x2 → vp_in x2 (hpZ h 1) ∧ ((¬ (lg_cmp (hpL h 1 x2.toNatClampNeg) x0) = 0 → mx_SX mY_X1_kindOf d 2 [(0, .long x0), (2, .int (x2 + (1 : Int32)))] [] h Q) ∧ ((lg_cmp (hpL h 1 x2.toNatClampNeg) x0) = 0 → Q (.inl (some (.int (x2 + (1 : Int32))))) h))))) : mx_SX mY_X1_kindOf d 2 [(0, .long x0), (2, .int x2)] [] h Q := by
  refine mx_iload_n (pc := 2) 1 (mx_dd dd_X1_kindOf 2 (2, .iload_n 2, 1) rfl) rfl rfl ?_
  refine mx_getsN (pc := 3) mx_gs_X1_27 (mx_dd dd_X1_kindOf 3 (3, .getstatic 27, 3) rfl) ?_
  refine mx_xlen (pc := 6) (by decide) (mx_dd dd_X1_kindOf 4 (6, .arraylength, 1) rfl) ?_
  refine mx_icmp_ge (pc := 7) 30 (mx_dd dd_X1_kindOf 5 (7, .if_icmp .ge 23, 3) rfl) rfl (fun c7 => ?_) (fun c7 => ?_)
  · have P := P.1 c7
    refine mx_iconst (pc := 30) (v := (0 : Int32)) (mx_dd dd_X1_kindOf 18 (30, .iconst 0, 1) rfl) (by decide) ?_
    exact mx_ireturn (pc := 31) (mx_dd dd_X1_kindOf 19 (31, .ireturn, 1) rfl) rfl rfl P
  · have P := P.2 c7
    refine mx_getsN (pc := 10) mx_gs_X1_27 (mx_dd dd_X1_kindOf 6 (10, .getstatic 27, 3) rfl) ?_
    refine mx_iload_n (pc := 13) 1 (mx_dd dd_X1_kindOf 7 (13, .iload_n 2, 1) rfl) rfl rfl ?_
    obtain ⟨g1, P⟩ := P
    refine mx_xlald (pc := 14) (.inl rfl) g1 (mx_dd dd_X1_kindOf 8 (14, .laload, 1) rfl) ?_
    refine mx_lload_n (pc := 15) 0 (mx_dd dd_X1_kindOf 9 (15, .lload_n 0, 1) rfl) rfl rfl ?_
    refine mx_lcmp (pc := 16) (mx_dd dd_X1_kindOf 10 (16, .lcmp, 1) rfl) ?_
    refine mx_if_ne (pc := 17) 24 (mx_dd dd_X1_kindOf 11 (17, .ifCond .ne 7, 3) rfl) rfl (fun c17 => ?_) (fun c17 => ?_)
    · have P := P.1 c17
      refine mx_iinc (pc := 24) 1 (mx_dd dd_X1_kindOf 16 (24, .iinc 2 1, 3) rfl) rfl (mx_kadd (by decide : Int32.ofInt 1 = (1 : Int32))) (by decide) (lv' := [(2, _), (0, _)]) rfl ?_
      refine mx_goto (pc := 27) 2 (mx_dd dd_X1_kindOf 17 (27, .goto (-25), 3) rfl) rfl ?_
      refine mx_sel [1, 0] rfl ?_
      exact P
    · have P := P.2 c17
      refine mx_iload_n (pc := 20) 1 (mx_dd dd_X1_kindOf 12 (20, .iload_n 2, 1) rfl) rfl rfl ?_
      refine mx_iconst (pc := 21) (v := (1 : Int32)) (mx_dd dd_X1_kindOf 13 (21, .iconst 1, 1) rfl) (by decide) ?_
      refine mx_iadd (pc := 22) (mx_dd dd_X1_kindOf 14 (22, .iadd, 1) rfl) ?_
      exact mx_ireturn (pc := 23) (mx_dd dd_X1_kindOf 15 (23, .ireturn, 1) rfl) rfl rfl P
theorem b_X1_signalNamed {d : Nat} {h : mxH} {Q : mxRes → mxH → Prop} (x0 : Int64)
    (P : mx_SX mY_X1_signalNamed d 2 [(0, .long x0), (2, .int (0 : Int32))] [] h Q) : mx_SM mY_X1_signalNamed d [.long x0] h Q := by
  refine mx_SM_of (by decide) (Nat.le_of_ble_eq_true rfl) ?_
  show mx_SX mY_X1_signalNamed d 0 [(0, .long x0)] [] h Q
  refine mx_iconst (pc := 0) (v := (0 : Int32)) (mx_dd dd_X1_signalNamed 0 (0, .iconst 0, 1) rfl) (by decide) ?_
  refine mx_istore_n (pc := 1) (mx_dd dd_X1_signalNamed 1 (1, .istore_n 2, 1) rfl) rfl (by decide) (lv' := [(2, _), (0, _)]) rfl ?_
  refine mx_sel [1, 0] rfl ?_
  exact P
theorem b_X1_signalNamed_2 {d : Nat} {h : mxH} {Q : mxRes → mxH → Prop} (x0 : Int64) (x2 : Int32)
    (P : (((4 : Int32) ≤ x2 → Q (.inl (some (.int (-1 : Int32)))) h) ∧ (¬ (4 : Int32) ≤ x2 → vp_in x2 (hpZ h 2) ∧ ((¬ (lg_cmp (hpL h 2 x2.toNatClampNeg) x0) = 0 → mx_SX mY_X1_signalNamed d 2 [(0, .long x0), (2, .int (x2 + (1 : Int32)))] [] h Q) ∧ ((lg_cmp (hpL h 2 x2.toNatClampNeg) x0) = 0 → Q (.inl (some (.int x2))) h))))) : mx_SX mY_X1_signalNamed d 2 [(0, .long x0), (2, .int x2)] [] h Q := by
  refine mx_iload_n (pc := 2) 1 (mx_dd dd_X1_signalNamed 2 (2, .iload_n 2, 1) rfl) rfl rfl ?_
  refine mx_iconst (pc := 3) (v := (4 : Int32)) (mx_dd dd_X1_signalNamed 3 (3, .iconst 4, 1) rfl) (by decide) ?_
  refine mx_icmp_ge (pc := 4) 25 (mx_dd dd_X1_signalNamed 4 (4, .if_icmp .ge 21, 3) rfl) rfl (fun c4 => ?_) (fun c4 => ?_)
  · have P := P.1 c4
    refine mx_iconst (pc := 25) (v := (-1 : Int32)) (mx_dd dd_X1_signalNamed 15 (25, .iconst (-1), 1) rfl) (by decide) ?_
    exact mx_ireturn (pc := 26) (mx_dd dd_X1_signalNamed 16 (26, .ireturn, 1) rfl) rfl rfl P
  · have P := P.2 c4
    refine mx_getsS (pc := 7) mx_gs_X1_31 (mx_dd dd_X1_signalNamed 5 (7, .getstatic 31, 3) rfl) ?_
    refine mx_iload_n (pc := 10) 1 (mx_dd dd_X1_signalNamed 6 (10, .iload_n 2, 1) rfl) rfl rfl ?_
    obtain ⟨g1, P⟩ := P
    refine mx_xlald (pc := 11) (.inr rfl) g1 (mx_dd dd_X1_signalNamed 7 (11, .laload, 1) rfl) ?_
    refine mx_lload_n (pc := 12) 0 (mx_dd dd_X1_signalNamed 8 (12, .lload_n 0, 1) rfl) rfl rfl ?_
    refine mx_lcmp (pc := 13) (mx_dd dd_X1_signalNamed 9 (13, .lcmp, 1) rfl) ?_
    refine mx_if_ne (pc := 14) 19 (mx_dd dd_X1_signalNamed 10 (14, .ifCond .ne 5, 3) rfl) rfl (fun c14 => ?_) (fun c14 => ?_)
    · have P := P.1 c14
      refine mx_iinc (pc := 19) 1 (mx_dd dd_X1_signalNamed 13 (19, .iinc 2 1, 3) rfl) rfl (mx_kadd (by decide : Int32.ofInt 1 = (1 : Int32))) (by decide) (lv' := [(2, _), (0, _)]) rfl ?_
      refine mx_goto (pc := 22) 2 (mx_dd dd_X1_signalNamed 14 (22, .goto (-20), 3) rfl) rfl ?_
      refine mx_sel [1, 0] rfl ?_
      exact P
    · have P := P.2 c14
      refine mx_iload_n (pc := 17) 1 (mx_dd dd_X1_signalNamed 11 (17, .iload_n 2, 1) rfl) rfl rfl ?_
      exact mx_ireturn (pc := 18) (mx_dd dd_X1_signalNamed 12 (18, .ireturn, 1) rfl) rfl rfl P
theorem b_X1_addArgument {d : Nat} {h : mxH} {Q : mxRes → mxH → Prop} (x0 : Nat) (x1 : Nat) (x2 : Nat) (x3 : Int32)
    (P : ((0 ≤ x3 → 1 ≤ d ∧ hpK h x1 = 7 ∧ mx_SM mY_X7_argumentKind (d - 1) [.ref x1, .int x3] h (mx_KI (fun v1 h1 => hpK h1 x1 = 7 ∧ mx_SM mY_X7_argumentName (d - 1) [.ref x1, .int x3] h1 (mx_KL (fun v2 h2 => ((¬ v1 = 0 → ((¬ v1 = (2 : Int32) → hpK h2 x2 = 8 ∧ ∃ b1 : Nat, hpR h2 x2 0 = some b1 ∧ hpK h2 b1 = 9 ∧ mx_SM mY_X9_find (d - 1) [.ref b1, .long v2] h2 (mx_KI (fun v3 h3 => ((v3 < 0 → Q (.inl none) h3) ∧ (¬ v3 < 0 → hpK h3 x0 = 1 ∧ ∃ b2 : Nat, hpR h3 x0 2 = some b2 ∧ hpK h3 x2 = 8 ∧ ∃ b3 : Nat, hpR h3 x2 0 = some b3 ∧ hpK h3 b3 = 9 ∧ mx_SM mY_X9_valueAt (d - 1) [.ref b3, .int v3] h3 (mx_KI (fun v4 h4 => hpK h4 x0 = 1 ∧ ∃ b4 : Nat, hpR h4 x0 3 = some b4 ∧ hpK h4 b2 = 3 ∧ mx_SM mY_X3_copyTo (d - 1) [.ref b2, .int v4, .ref b4, .int (hpI h4 x0 4)] h4 (mx_KI (fun v5 h5 => hpK h5 x0 = 1 ∧ ∀ h6 : mxH, h6 = hsI h5 x0 4 v5 → Q (.inl none) h6) (mx_XX mY_X1_addArgument Q))) (mx_XX mY_X1_addArgument Q))))) (mx_XX mY_X1_addArgument Q))) ∧ (v1 = (2 : Int32) → hpK h2 x2 = 8 ∧ mx_SM mY_X1_nameOfNumber (d - 1) [.int (hpI h2 x2 6)] h2 (mx_KL (fun v6 h7 => hpK h7 x0 = 1 ∧ ∃ b5 : Nat, hpR h7 x0 3 = some b5 ∧ mx_SM mY_X11_spell (d - 1) [.long v6, .ref b5, .int (hpI h7 x0 4)] h7 (mx_KI (fun v7 h8 => hpK h8 x0 = 1 ∧ ∀ h9 : mxH, h9 = hsI h8 x0 4 v7 → Q (.inl none) h9) (fun _ _ => False))) (mx_XX mY_X1_addArgument Q))))) ∧ (v1 = 0 → hpK h2 x0 = 1 ∧ ∃ b6 : Nat, hpR h2 x0 3 = some b6 ∧ mx_SM mY_X11_spell (d - 1) [.long v2, .ref b6, .int (hpI h2 x0 4)] h2 (mx_KI (fun v8 h10 => hpK h10 x0 = 1 ∧ ∀ h11 : mxH, h11 = hsI h10 x0 4 v8 → Q (.inl none) h11) (fun _ _ => False))))) (mx_XX mY_X1_addArgument Q))) (mx_XX mY_X1_addArgument Q))) ∧ (¬ 0 ≤ x3 → Q (.inl none) h))) : mx_SM mY_X1_addArgument d [.ref x0, .ref x1, .ref x2, .int x3] h Q := by
  refine mx_SM_of (by decide) (Nat.le_of_ble_eq_true rfl) ?_
  show mx_SX mY_X1_addArgument d 0 [(0, .ref x0), (1, .ref x1), (2, .ref x2), (3, .int x3)] [] h Q
  refine mx_iload_n (pc := 0) 3 (mx_dd dd_X1_addArgument 0 (0, .iload_n 3, 1) rfl) rfl rfl ?_
  refine mx_if_ge (pc := 1) 5 (mx_dd dd_X1_addArgument 1 (1, .ifCond .ge 4, 3) rfl) rfl (fun c1 => ?_) (fun c1 => ?_)
  · have P := P.1 c1
    refine mx_aload_n (pc := 5) 1 (mx_dd dd_X1_addArgument 3 (5, .aload_n 1, 1) rfl) rfl rfl ?_
    refine mx_iload_n (pc := 6) 3 (mx_dd dd_X1_addArgument 4 (6, .iload_n 3, 1) rfl) rfl rfl ?_
    obtain ⟨g1, P⟩ := P
    obtain ⟨g2, P⟩ := P
    refine mx_cVI (pc := 7) (Y := mY_X7_argumentKind) (As := [.int x3]) mx_ml_X1_34 mx_y_X7_argumentKind rfl g2 (by decide) rfl (by decide) rfl (mx_dd dd_X1_addArgument 5 (7, .invokevirtual 34, 3) rfl) g1 (by decide) P (fun v1 h1 P => ?_)
    refine mx_istore (pc := 10) (mx_dd dd_X1_addArgument 6 (10, .istore 4, 2) rfl) (by decide) (lv' := [(4, _), (0, _), (1, _), (2, _), (3, _)]) rfl ?_
    refine mx_aload_n (pc := 12) 2 (mx_dd dd_X1_addArgument 7 (12, .aload_n 1, 1) rfl) rfl rfl ?_
    refine mx_iload_n (pc := 13) 4 (mx_dd dd_X1_addArgument 8 (13, .iload_n 3, 1) rfl) rfl rfl ?_
    obtain ⟨g3, P⟩ := P
    refine mx_cVL (pc := 14) (Y := mY_X7_argumentName) (As := [.int x3]) mx_ml_X1_40 mx_y_X7_argumentName rfl g3 (by decide) rfl (by decide) rfl (mx_dd dd_X1_addArgument 9 (14, .invokevirtual 40, 3) rfl) g1 (by decide) P (fun v2 h2 P => ?_)
    refine mx_lstore (pc := 17) (mx_dd dd_X1_addArgument 10 (17, .lstore 5, 2) rfl) (by decide) (lv' := [(5, _), (4, _), (0, _), (1, _), (2, _), (3, _)]) rfl ?_
    refine mx_iload (pc := 19) 1 (mx_dd dd_X1_addArgument 11 (19, .iload 4, 2) rfl) rfl ?_
    refine mx_if_ne (pc := 21) 44 (mx_dd dd_X1_addArgument 12 (21, .ifCond .ne 23, 3) rfl) rfl (fun c21 => ?_) (fun c21 => ?_)
    · have P := P.1 c21
      refine mx_iload (pc := 44) 1 (mx_dd dd_X1_addArgument 22 (44, .iload 4, 2) rfl) rfl ?_
      refine mx_iconst (pc := 46) (v := (2 : Int32)) (mx_dd dd_X1_addArgument 23 (46, .iconst 2, 1) rfl) (by decide) ?_
      refine mx_icmp_ne (pc := 47) 75 (mx_dd dd_X1_addArgument 24 (47, .if_icmp .ne 28, 3) rfl) rfl (fun c47 => ?_) (fun c47 => ?_)
      · have P := P.1 c47
        refine mx_aload_n (pc := 75) 4 (mx_dd dd_X1_addArgument 36 (75, .aload_n 2, 1) rfl) rfl rfl ?_
        obtain ⟨g4, P⟩ := P
        obtain ⟨b1, g5, P⟩ := P
        refine mx_getR (pc := 76) mx_fl_X1_60 g4 rfl g5 (mx_dd dd_X1_addArgument 37 (76, .getfield 60, 3) rfl) ?_
        refine mx_lload (pc := 79) 0 (mx_dd dd_X1_addArgument 38 (79, .lload 5, 2) rfl) rfl ?_
        obtain ⟨g6, P⟩ := P
        refine mx_cVI (pc := 81) (Y := mY_X9_find) (As := [.long v2]) mx_ml_X1_64 mx_y_X9_find rfl g6 (by decide) rfl (by decide) rfl (mx_dd dd_X1_addArgument 39 (81, .invokevirtual 64, 3) rfl) g1 (by decide) P (fun v3 h3 P => ?_)
        refine mx_istore (pc := 84) (mx_dd dd_X1_addArgument 40 (84, .istore 7, 2) rfl) (by decide) (lv' := [(7, _), (5, _), (4, _), (0, _), (1, _), (2, _), (3, _)]) rfl ?_
        refine mx_iload (pc := 86) 0 (mx_dd dd_X1_addArgument 41 (86, .iload 7, 2) rfl) rfl ?_
        refine mx_if_lt (pc := 88) 119 (mx_dd dd_X1_addArgument 42 (88, .ifCond .lt 31, 3) rfl) rfl (fun c88 => ?_) (fun c88 => ?_)
        · have P := P.1 c88
          exact mx_return (pc := 119) (mx_dd dd_X1_addArgument 56 (119, .return_, 1) rfl) rfl P
        · have P := P.2 c88
          refine mx_aload_n (pc := 91) 3 (mx_dd dd_X1_addArgument 43 (91, .aload_n 0, 1) rfl) rfl rfl ?_
          refine mx_aload_n (pc := 92) 3 (mx_dd dd_X1_addArgument 44 (92, .aload_n 0, 1) rfl) rfl rfl ?_
          obtain ⟨g7, P⟩ := P
          obtain ⟨b2, g8, P⟩ := P
          refine mx_getR (pc := 93) mx_fl_X1_19 g7 rfl g8 (mx_dd dd_X1_addArgument 45 (93, .getfield 19, 3) rfl) ?_
          refine mx_aload_n (pc := 96) 5 (mx_dd dd_X1_addArgument 46 (96, .aload_n 2, 1) rfl) rfl rfl ?_
          obtain ⟨g9, P⟩ := P
          obtain ⟨b3, g10, P⟩ := P
          refine mx_getR (pc := 97) mx_fl_X1_60 g9 rfl g10 (mx_dd dd_X1_addArgument 47 (97, .getfield 60, 3) rfl) ?_
          refine mx_iload (pc := 100) 0 (mx_dd dd_X1_addArgument 48 (100, .iload 7, 2) rfl) rfl ?_
          obtain ⟨g11, P⟩ := P
          refine mx_cVI (pc := 102) (Y := mY_X9_valueAt) (As := [.int v3]) mx_ml_X1_70 mx_y_X9_valueAt rfl g11 (by decide) rfl (by simp [Value.category]) rfl (mx_dd dd_X1_addArgument 49 (102, .invokevirtual 70, 3) rfl) g1 (by decide) P (fun v4 h4 P => ?_)
          refine mx_aload_n (pc := 105) 3 (mx_dd dd_X1_addArgument 50 (105, .aload_n 0, 1) rfl) rfl rfl ?_
          obtain ⟨g12, P⟩ := P
          obtain ⟨b4, g13, P⟩ := P
          refine mx_getR (pc := 106) mx_fl_X1_23 g12 rfl g13 (mx_dd dd_X1_addArgument 51 (106, .getfield 23, 3) rfl) ?_
          refine mx_aload_n (pc := 109) 3 (mx_dd dd_X1_addArgument 52 (109, .aload_n 0, 1) rfl) rfl rfl ?_
          refine mx_getI (pc := 110) mx_fl_X1_44 g12 rfl (mx_dd dd_X1_addArgument 53 (110, .getfield 44, 3) rfl) ?_
          obtain ⟨g14, P⟩ := P
          refine mx_cVI (pc := 113) (Y := mY_X3_copyTo) (As := [.int v4, .ref b4, .int (hpI h4 x0 4)]) mx_ml_X1_73 mx_y_X3_copyTo rfl g14 (by decide) rfl (by simp [Value.category]) rfl (mx_dd dd_X1_addArgument 54 (113, .invokevirtual 73, 3) rfl) g1 (by decide) P (fun v5 h5 P => ?_)
          obtain ⟨g15, P⟩ := P
          refine mx_putI (pc := 116) mx_fl_X1_44 g15 rfl (.inl rfl) rfl rfl (mx_dd dd_X1_addArgument 55 (116, .putfield 44, 3) rfl) ?_
          have P := P _ rfl
          exact mx_return (pc := 119) (mx_dd dd_X1_addArgument 56 (119, .return_, 1) rfl) rfl P
      · have P := P.2 c47
        refine mx_aload_n (pc := 50) 2 (mx_dd dd_X1_addArgument 25 (50, .aload_n 0, 1) rfl) rfl rfl ?_
        refine mx_aload_n (pc := 51) 4 (mx_dd dd_X1_addArgument 26 (51, .aload_n 2, 1) rfl) rfl rfl ?_
        obtain ⟨g16, P⟩ := P
        refine mx_getI (pc := 52) mx_fl_X1_52 g16 rfl (mx_dd dd_X1_addArgument 27 (52, .getfield 52, 3) rfl) ?_
        refine mx_cSL (pc := 55) (Y := mY_X1_nameOfNumber) (As := [.int (hpI h2 x2 6)]) mx_ml_X1_57 mx_y_X1_nameOfNumber rfl rfl (by simp [Value.category]) rfl (mx_dd dd_X1_addArgument 28 (55, .invokestatic 57, 3) rfl) g1 (by decide) P (fun v6 h7 P => ?_)
        refine mx_aload_n (pc := 58) 2 (mx_dd dd_X1_addArgument 29 (58, .aload_n 0, 1) rfl) rfl rfl ?_
        obtain ⟨g17, P⟩ := P
        obtain ⟨b5, g18, P⟩ := P
        refine mx_getR (pc := 59) mx_fl_X1_23 g17 rfl g18 (mx_dd dd_X1_addArgument 30 (59, .getfield 23, 3) rfl) ?_
        refine mx_aload_n (pc := 62) 2 (mx_dd dd_X1_addArgument 31 (62, .aload_n 0, 1) rfl) rfl rfl ?_
        refine mx_getI (pc := 63) mx_fl_X1_44 g17 rfl (mx_dd dd_X1_addArgument 32 (63, .getfield 44, 3) rfl) ?_
        refine mx_cSNI (pc := 66) (Y := mY_X11_spell) (As := [.long v6, .ref b5, .int (hpI h7 x0 4)]) mx_nn_X1_48 mx_y_X11_spell rfl rfl (by simp [Value.category]) rfl (mx_dd dd_X1_addArgument 33 (66, .invokestatic 48, 3) rfl) g1 (by decide) P (fun v7 h8 P => ?_)
        obtain ⟨g19, P⟩ := P
        refine mx_putI (pc := 69) mx_fl_X1_44 g19 rfl (.inl rfl) rfl rfl (mx_dd dd_X1_addArgument 34 (69, .putfield 44, 3) rfl) ?_
        have P := P _ rfl
        refine mx_goto (pc := 72) 119 (mx_dd dd_X1_addArgument 35 (72, .goto 47, 3) rfl) rfl ?_
        exact mx_return (pc := 119) (mx_dd dd_X1_addArgument 56 (119, .return_, 1) rfl) rfl P
    · have P := P.2 c21
      refine mx_aload_n (pc := 24) 2 (mx_dd dd_X1_addArgument 13 (24, .aload_n 0, 1) rfl) rfl rfl ?_
      refine mx_lload (pc := 25) 0 (mx_dd dd_X1_addArgument 14 (25, .lload 5, 2) rfl) rfl ?_
      refine mx_aload_n (pc := 27) 2 (mx_dd dd_X1_addArgument 15 (27, .aload_n 0, 1) rfl) rfl rfl ?_
      obtain ⟨g20, P⟩ := P
      obtain ⟨b6, g21, P⟩ := P
      refine mx_getR (pc := 28) mx_fl_X1_23 g20 rfl g21 (mx_dd dd_X1_addArgument 16 (28, .getfield 23, 3) rfl) ?_
      refine mx_aload_n (pc := 31) 2 (mx_dd dd_X1_addArgument 17 (31, .aload_n 0, 1) rfl) rfl rfl ?_
      refine mx_getI (pc := 32) mx_fl_X1_44 g20 rfl (mx_dd dd_X1_addArgument 18 (32, .getfield 44, 3) rfl) ?_
      refine mx_cSNI (pc := 35) (Y := mY_X11_spell) (As := [.long v2, .ref b6, .int (hpI h2 x0 4)]) mx_nn_X1_48 mx_y_X11_spell rfl rfl (by simp [Value.category]) rfl (mx_dd dd_X1_addArgument 19 (35, .invokestatic 48, 3) rfl) g1 (by decide) P (fun v8 h10 P => ?_)
      obtain ⟨g22, P⟩ := P
      refine mx_putI (pc := 38) mx_fl_X1_44 g22 rfl (.inl rfl) rfl rfl (mx_dd dd_X1_addArgument 20 (38, .putfield 44, 3) rfl) ?_
      have P := P _ rfl
      refine mx_goto (pc := 41) 119 (mx_dd dd_X1_addArgument 21 (41, .goto 78, 3) rfl) rfl ?_
      exact mx_return (pc := 119) (mx_dd dd_X1_addArgument 56 (119, .return_, 1) rfl) rfl P
  · have P := P.2 c1
    exact mx_return (pc := 4) (mx_dd dd_X1_addArgument 2 (4, .return_, 1) rfl) rfl P
theorem b_X1_nameOfNumber {d : Nat} {h : mxH} {Q : mxRes → mxH → Prop} (x0 : Int32)
    (P : ((x0 < (100 : Int32) → mx_SX mY_X1_nameOfNumber d 21 [(0, .int x0), (1, .long (0 : Int64))] [] h Q) ∧ (¬ x0 < (100 : Int32) → mx_SX mY_X1_nameOfNumber d 21 [(0, .int x0), (1, .long ((27 : Int64) + (((x0 / (100 : Int32)) - (x0 / (100 : Int32)) / (10 : Int32) * (10 : Int32)).toInt64)))] [] h Q))) : mx_SM mY_X1_nameOfNumber d [.int x0] h Q := by
  refine mx_SM_of (by decide) (Nat.le_of_ble_eq_true rfl) ?_
  show mx_SX mY_X1_nameOfNumber d 0 [(0, .int x0)] [] h Q
  refine mx_lconst (pc := 0) (v := (0 : Int64)) (mx_dd dd_X1_nameOfNumber 0 (0, .lconst 0, 1) rfl) (by decide) ?_
  refine mx_lstore_n (pc := 1) (mx_dd dd_X1_nameOfNumber 1 (1, .lstore_n 1, 1) rfl) rfl (by decide) (lv' := [(1, _), (0, _)]) rfl ?_
  refine mx_iload_n (pc := 2) 1 (mx_dd dd_X1_nameOfNumber 2 (2, .iload_n 0, 1) rfl) rfl rfl ?_
  refine mx_bipush (pc := 3) (v := (100 : Int32)) (mx_dd dd_X1_nameOfNumber 3 (3, .bipush 100, 2) rfl) (by decide) ?_
  refine mx_icmp_lt (pc := 5) 21 (mx_dd dd_X1_nameOfNumber 4 (5, .if_icmp .lt 16, 3) rfl) rfl (fun c5 => ?_) (fun c5 => ?_)
  · have P := P.1 c5
    refine mx_sel [1, 0] rfl ?_
    exact P
  · have P := P.2 c5
    refine mx_ldc2 (pc := 8) mx_cL_X1_79 (mx_dd dd_X1_nameOfNumber 5 (8, .ldc2_w 79, 3) rfl) ?_
    refine mx_iload_n (pc := 11) 1 (mx_dd dd_X1_nameOfNumber 6 (11, .iload_n 0, 1) rfl) rfl rfl ?_
    refine mx_bipush (pc := 12) (v := (100 : Int32)) (mx_dd dd_X1_nameOfNumber 7 (12, .bipush 100, 2) rfl) (by decide) ?_
    refine mx_idiv (pc := 14) (mx_dd dd_X1_nameOfNumber 8 (14, .idiv, 1) rfl) (by decide) ?_
    refine mx_bipush (pc := 15) (v := (10 : Int32)) (mx_dd dd_X1_nameOfNumber 9 (15, .bipush 10, 2) rfl) (by decide) ?_
    refine mx_irem (pc := 17) (mx_dd dd_X1_nameOfNumber 10 (17, .irem, 1) rfl) (by decide) ?_
    refine mx_i2l (pc := 18) (mx_dd dd_X1_nameOfNumber 11 (18, .i2l, 1) rfl) ?_
    refine mx_ladd (pc := 19) (mx_dd dd_X1_nameOfNumber 12 (19, .ladd, 1) rfl) ?_
    refine mx_lstore_n (pc := 20) (mx_dd dd_X1_nameOfNumber 13 (20, .lstore_n 1, 1) rfl) rfl (by decide) (lv' := [(1, _), (0, _)]) rfl ?_
    refine mx_sel [1, 0] rfl ?_
    exact P
theorem b_X1_nameOfNumber_21 {d : Nat} {h : mxH} {Q : mxRes → mxH → Prop} (x0 : Int32) (x1 : Int64)
    (P : ((x0 < (10 : Int32) → mx_SX mY_X1_nameOfNumber d 46 [(0, .int x0), (1, .long x1)] [] h Q) ∧ (¬ x0 < (10 : Int32) → mx_SX mY_X1_nameOfNumber d 46 [(0, .int x0), (1, .long ((((37 : Int64) * x1) + (27 : Int64)) + (((x0 / (10 : Int32)) - (x0 / (10 : Int32)) / (10 : Int32) * (10 : Int32)).toInt64)))] [] h Q))) : mx_SX mY_X1_nameOfNumber d 21 [(0, .int x0), (1, .long x1)] [] h Q := by
  refine mx_iload_n (pc := 21) 0 (mx_dd dd_X1_nameOfNumber 14 (21, .iload_n 0, 1) rfl) rfl rfl ?_
  refine mx_bipush (pc := 22) (v := (10 : Int32)) (mx_dd dd_X1_nameOfNumber 15 (22, .bipush 10, 2) rfl) (by decide) ?_
  refine mx_icmp_lt (pc := 24) 46 (mx_dd dd_X1_nameOfNumber 16 (24, .if_icmp .lt 22, 3) rfl) rfl (fun c24 => ?_) (fun c24 => ?_)
  · have P := P.1 c24
    exact P
  · have P := P.2 c24
    refine mx_ldc2 (pc := 27) mx_cL_X1_81 (mx_dd dd_X1_nameOfNumber 17 (27, .ldc2_w 81, 3) rfl) ?_
    refine mx_lload_n (pc := 30) 1 (mx_dd dd_X1_nameOfNumber 18 (30, .lload_n 1, 1) rfl) rfl rfl ?_
    refine mx_lmul (pc := 31) (mx_dd dd_X1_nameOfNumber 19 (31, .lmul, 1) rfl) ?_
    refine mx_ldc2 (pc := 32) mx_cL_X1_79 (mx_dd dd_X1_nameOfNumber 20 (32, .ldc2_w 79, 3) rfl) ?_
    refine mx_ladd (pc := 35) (mx_dd dd_X1_nameOfNumber 21 (35, .ladd, 1) rfl) ?_
    refine mx_iload_n (pc := 36) 0 (mx_dd dd_X1_nameOfNumber 22 (36, .iload_n 0, 1) rfl) rfl rfl ?_
    refine mx_bipush (pc := 37) (v := (10 : Int32)) (mx_dd dd_X1_nameOfNumber 23 (37, .bipush 10, 2) rfl) (by decide) ?_
    refine mx_idiv (pc := 39) (mx_dd dd_X1_nameOfNumber 24 (39, .idiv, 1) rfl) (by decide) ?_
    refine mx_bipush (pc := 40) (v := (10 : Int32)) (mx_dd dd_X1_nameOfNumber 25 (40, .bipush 10, 2) rfl) (by decide) ?_
    refine mx_irem (pc := 42) (mx_dd dd_X1_nameOfNumber 26 (42, .irem, 1) rfl) (by decide) ?_
    refine mx_i2l (pc := 43) (mx_dd dd_X1_nameOfNumber 27 (43, .i2l, 1) rfl) ?_
    refine mx_ladd (pc := 44) (mx_dd dd_X1_nameOfNumber 28 (44, .ladd, 1) rfl) ?_
    refine mx_lstore_n (pc := 45) (mx_dd dd_X1_nameOfNumber 29 (45, .lstore_n 1, 1) rfl) rfl (by decide) (lv' := [(1, _), (0, _)]) rfl ?_
    refine mx_sel [1, 0] rfl ?_
    exact P
theorem b_X1_nameOfNumber_46 {d : Nat} {h : mxH} {Q : mxRes → mxH → Prop} (x0 : Int32) (x1 : Int64)
    (P : Q (.inl (some (.long ((((37 : Int64) * x1) + (27 : Int64)) + ((x0 - x0 / (10 : Int32) * (10 : Int32)).toInt64))))) h) : mx_SX mY_X1_nameOfNumber d 46 [(0, .int x0), (1, .long x1)] [] h Q := by
  refine mx_ldc2 (pc := 46) mx_cL_X1_81 (mx_dd dd_X1_nameOfNumber 30 (46, .ldc2_w 81, 3) rfl) ?_
  refine mx_lload_n (pc := 49) 1 (mx_dd dd_X1_nameOfNumber 31 (49, .lload_n 1, 1) rfl) rfl rfl ?_
  refine mx_lmul (pc := 50) (mx_dd dd_X1_nameOfNumber 32 (50, .lmul, 1) rfl) ?_
  refine mx_ldc2 (pc := 51) mx_cL_X1_79 (mx_dd dd_X1_nameOfNumber 33 (51, .ldc2_w 79, 3) rfl) ?_
  refine mx_ladd (pc := 54) (mx_dd dd_X1_nameOfNumber 34 (54, .ladd, 1) rfl) ?_
  refine mx_iload_n (pc := 55) 0 (mx_dd dd_X1_nameOfNumber 35 (55, .iload_n 0, 1) rfl) rfl rfl ?_
  refine mx_bipush (pc := 56) (v := (10 : Int32)) (mx_dd dd_X1_nameOfNumber 36 (56, .bipush 10, 2) rfl) (by decide) ?_
  refine mx_irem (pc := 58) (mx_dd dd_X1_nameOfNumber 37 (58, .irem, 1) rfl) (by decide) ?_
  refine mx_i2l (pc := 59) (mx_dd dd_X1_nameOfNumber 38 (59, .i2l, 1) rfl) ?_
  refine mx_ladd (pc := 60) (mx_dd dd_X1_nameOfNumber 39 (60, .ladd, 1) rfl) ?_
  exact mx_lreturn (pc := 61) (mx_dd dd_X1_nameOfNumber 40 (61, .lreturn, 1) rfl) rfl P
theorem b_X1_nameArgument {d : Nat} {h : mxH} {Q : mxRes → mxH → Prop} (x0 : Nat) (x1 : Nat) (x2 : Nat) (x3 : Int32) (x4 : Int32)
    (P : hpK h x0 = 1 ∧ ∀ h1 : mxH, h1 = hsI h x0 4 (0 : Int32) → 1 ≤ d ∧ hpK h1 x1 = 7 ∧ mx_SM mY_X7_argumentAt (d - 1) [.ref x1, .int x3, .int x4] h1 (mx_KI (fun v1 h2 => hpK h2 x0 = 1 ∧ mx_SM mY_X1_addArgument (d - 1) [.ref x0, .ref x1, .ref x2, .int v1] h2 (mx_KV (fun h3 => hpK h3 x0 = 1 ∧ ∃ b1 : Nat, hpR h3 x0 3 = some b1 ∧ mx_SM mY_X11_nameIn (d - 1) [.ref b1, .int (hpI h3 x0 4)] h3 (mx_KL (fun v2 h4 => Q (.inl (some (.long v2))) h4) (fun _ _ => False))) (mx_XX mY_X1_nameArgument Q))) (mx_XX mY_X1_nameArgument Q))) : mx_SM mY_X1_nameArgument d [.ref x0, .ref x1, .ref x2, .int x3, .int x4] h Q := by
  refine mx_SM_of (by decide) (Nat.le_of_ble_eq_true rfl) ?_
  show mx_SX mY_X1_nameArgument d 0 [(0, .ref x0), (1, .ref x1), (2, .ref x2), (3, .int x3), (4, .int x4)] [] h Q
  refine mx_aload_n (pc := 0) 0 (mx_dd dd_X1_nameArgument 0 (0, .aload_n 0, 1) rfl) rfl rfl ?_
  refine mx_iconst (pc := 1) (v := (0 : Int32)) (mx_dd dd_X1_nameArgument 1 (1, .iconst 0, 1) rfl) (by decide) ?_
  obtain ⟨g1, P⟩ := P
  refine mx_putI (pc := 2) mx_fl_X1_44 g1 rfl (.inl rfl) rfl rfl (mx_dd dd_X1_nameArgument 2 (2, .putfield 44, 3) rfl) ?_
  have P := P _ rfl
  refine mx_aload_n (pc := 5) 0 (mx_dd dd_X1_nameArgument 3 (5, .aload_n 0, 1) rfl) rfl rfl ?_
  refine mx_aload_n (pc := 6) 1 (mx_dd dd_X1_nameArgument 4 (6, .aload_n 1, 1) rfl) rfl rfl ?_
  refine mx_aload_n (pc := 7) 2 (mx_dd dd_X1_nameArgument 5 (7, .aload_n 2, 1) rfl) rfl rfl ?_
  refine mx_aload_n (pc := 8) 1 (mx_dd dd_X1_nameArgument 6 (8, .aload_n 1, 1) rfl) rfl rfl ?_
  refine mx_iload_n (pc := 9) 3 (mx_dd dd_X1_nameArgument 7 (9, .iload_n 3, 1) rfl) rfl rfl ?_
  refine mx_iload (pc := 10) 4 (mx_dd dd_X1_nameArgument 8 (10, .iload 4, 2) rfl) rfl ?_
  obtain ⟨g2, P⟩ := P
  obtain ⟨g3, P⟩ := P
  refine mx_cVI (pc := 12) (Y := mY_X7_argumentAt) (As := [.int x3, .int x4]) mx_ml_X1_83 mx_y_X7_argumentAt rfl g3 (by decide) rfl (by simp [Value.category]) rfl (mx_dd dd_X1_nameArgument 9 (12, .invokevirtual 83, 3) rfl) g2 (by decide) P (fun v1 h2 P => ?_)
  obtain ⟨g4, P⟩ := P
  refine mx_cVV (pc := 15) (Y := mY_X1_addArgument) (As := [.ref x1, .ref x2, .int v1]) mx_ml_X1_87 mx_y_X1_addArgument rfl g4 (by decide) rfl (by decide) rfl (mx_dd dd_X1_nameArgument 10 (15, .invokevirtual 87, 3) rfl) g2 (by decide) P (fun h3 P => ?_)
  refine mx_aload_n (pc := 18) 0 (mx_dd dd_X1_nameArgument 11 (18, .aload_n 0, 1) rfl) rfl rfl ?_
  obtain ⟨g5, P⟩ := P
  obtain ⟨b1, g6, P⟩ := P
  refine mx_getR (pc := 19) mx_fl_X1_23 g5 rfl g6 (mx_dd dd_X1_nameArgument 12 (19, .getfield 23, 3) rfl) ?_
  refine mx_aload_n (pc := 22) 0 (mx_dd dd_X1_nameArgument 13 (22, .aload_n 0, 1) rfl) rfl rfl ?_
  refine mx_getI (pc := 23) mx_fl_X1_44 g5 rfl (mx_dd dd_X1_nameArgument 14 (23, .getfield 44, 3) rfl) ?_
  refine mx_cSNL (pc := 26) (Y := mY_X11_nameIn) (As := [.ref b1, .int (hpI h3 x0 4)]) mx_nn_X1_91 mx_y_X11_nameIn rfl rfl (by decide) rfl (mx_dd dd_X1_nameArgument 15 (26, .invokestatic 91, 3) rfl) g2 (by decide) P (fun v2 h4 P => ?_)
  exact mx_lreturn (pc := 29) (mx_dd dd_X1_nameArgument 16 (29, .lreturn, 1) rfl) rfl P
theorem b_X1_numberArgument {d : Nat} {h : mxH} {Q : mxRes → mxH → Prop} (x0 : Nat) (x1 : Nat) (x2 : Nat) (x3 : Int32) (x4 : Int32)
    (P : hpK h x0 = 1 ∧ ∀ h1 : mxH, h1 = hsI h x0 4 (0 : Int32) → 1 ≤ d ∧ hpK h1 x1 = 7 ∧ mx_SM mY_X7_argumentAt (d - 1) [.ref x1, .int x3, .int x4] h1 (mx_KI (fun v1 h2 => hpK h2 x0 = 1 ∧ mx_SM mY_X1_addArgument (d - 1) [.ref x0, .ref x1, .ref x2, .int v1] h2 (mx_KV (fun h3 => hpK h3 x0 = 1 ∧ ∃ b1 : Nat, hpR h3 x0 3 = some b1 ∧ mx_SM mY_X11_numberIn (d - 1) [.ref b1, .int (hpI h3 x0 4)] h3 (mx_KI (fun v2 h4 => Q (.inl (some (.int v2))) h4) (fun _ _ => False))) (mx_XX mY_X1_numberArgument Q))) (mx_XX mY_X1_numberArgument Q))) : mx_SM mY_X1_numberArgument d [.ref x0, .ref x1, .ref x2, .int x3, .int x4] h Q := by
  refine mx_SM_of (by decide) (Nat.le_of_ble_eq_true rfl) ?_
  show mx_SX mY_X1_numberArgument d 0 [(0, .ref x0), (1, .ref x1), (2, .ref x2), (3, .int x3), (4, .int x4)] [] h Q
  refine mx_aload_n (pc := 0) 0 (mx_dd dd_X1_numberArgument 0 (0, .aload_n 0, 1) rfl) rfl rfl ?_
  refine mx_iconst (pc := 1) (v := (0 : Int32)) (mx_dd dd_X1_numberArgument 1 (1, .iconst 0, 1) rfl) (by decide) ?_
  obtain ⟨g1, P⟩ := P
  refine mx_putI (pc := 2) mx_fl_X1_44 g1 rfl (.inl rfl) rfl rfl (mx_dd dd_X1_numberArgument 2 (2, .putfield 44, 3) rfl) ?_
  have P := P _ rfl
  refine mx_aload_n (pc := 5) 0 (mx_dd dd_X1_numberArgument 3 (5, .aload_n 0, 1) rfl) rfl rfl ?_
  refine mx_aload_n (pc := 6) 1 (mx_dd dd_X1_numberArgument 4 (6, .aload_n 1, 1) rfl) rfl rfl ?_
  refine mx_aload_n (pc := 7) 2 (mx_dd dd_X1_numberArgument 5 (7, .aload_n 2, 1) rfl) rfl rfl ?_
  refine mx_aload_n (pc := 8) 1 (mx_dd dd_X1_numberArgument 6 (8, .aload_n 1, 1) rfl) rfl rfl ?_
  refine mx_iload_n (pc := 9) 3 (mx_dd dd_X1_numberArgument 7 (9, .iload_n 3, 1) rfl) rfl rfl ?_
  refine mx_iload (pc := 10) 4 (mx_dd dd_X1_numberArgument 8 (10, .iload 4, 2) rfl) rfl ?_
  obtain ⟨g2, P⟩ := P
  obtain ⟨g3, P⟩ := P
  refine mx_cVI (pc := 12) (Y := mY_X7_argumentAt) (As := [.int x3, .int x4]) mx_ml_X1_83 mx_y_X7_argumentAt rfl g3 (by decide) rfl (by simp [Value.category]) rfl (mx_dd dd_X1_numberArgument 9 (12, .invokevirtual 83, 3) rfl) g2 (by decide) P (fun v1 h2 P => ?_)
  obtain ⟨g4, P⟩ := P
  refine mx_cVV (pc := 15) (Y := mY_X1_addArgument) (As := [.ref x1, .ref x2, .int v1]) mx_ml_X1_87 mx_y_X1_addArgument rfl g4 (by decide) rfl (by decide) rfl (mx_dd dd_X1_numberArgument 10 (15, .invokevirtual 87, 3) rfl) g2 (by decide) P (fun h3 P => ?_)
  refine mx_aload_n (pc := 18) 0 (mx_dd dd_X1_numberArgument 11 (18, .aload_n 0, 1) rfl) rfl rfl ?_
  obtain ⟨g5, P⟩ := P
  obtain ⟨b1, g6, P⟩ := P
  refine mx_getR (pc := 19) mx_fl_X1_23 g5 rfl g6 (mx_dd dd_X1_numberArgument 12 (19, .getfield 23, 3) rfl) ?_
  refine mx_aload_n (pc := 22) 0 (mx_dd dd_X1_numberArgument 13 (22, .aload_n 0, 1) rfl) rfl rfl ?_
  refine mx_getI (pc := 23) mx_fl_X1_44 g5 rfl (mx_dd dd_X1_numberArgument 14 (23, .getfield 44, 3) rfl) ?_
  refine mx_cSNI (pc := 26) (Y := mY_X11_numberIn) (As := [.ref b1, .int (hpI h3 x0 4)]) mx_nn_X1_95 mx_y_X11_numberIn rfl rfl (by decide) rfl (mx_dd dd_X1_numberArgument 15 (26, .invokestatic 95, 3) rfl) g2 (by decide) P (fun v2 h4 P => ?_)
  exact mx_ireturn (pc := 29) (mx_dd dd_X1_numberArgument 16 (29, .ireturn, 1) rfl) rfl rfl P
theorem b_X1_assign {d : Nat} {h : mxH} {Q : mxRes → mxH → Prop} (x0 : Nat) (x1 : Nat) (x2 : Nat) (x3 : Int32)
    (P : hpK h x0 = 1 ∧ ∀ h1 : mxH, h1 = hsI h x0 4 (0 : Int32) → 1 ≤ d ∧ hpK h1 x1 = 7 ∧ mx_SM mY_X7_argumentAt (d - 1) [.ref x1, .int x3, .int (0 : Int32)] h1 (mx_KI (fun v1 h2 => hpK h2 x0 = 1 ∧ mx_SM mY_X1_addArgument (d - 1) [.ref x0, .ref x1, .ref x2, .int v1] h2 (mx_KV (fun h3 => hpK h3 x2 = 8 ∧ ∃ b1 : Nat, hpR h3 x2 0 = some b1 ∧ hpK h3 x1 = 7 ∧ mx_SM mY_X7_nameOf (d - 1) [.ref x1, .int x3] h3 (mx_KL (fun v2 h4 => hpK h4 x0 = 1 ∧ ∃ b2 : Nat, hpR h4 x0 2 = some b2 ∧ ∃ b3 : Nat, hpR h4 x0 3 = some b3 ∧ hpK h4 b2 = 3 ∧ mx_SM mY_X3_make (d - 1) [.ref b2, .ref b3, .int (0 : Int32), .int (hpI h4 x0 4)] h4 (mx_KI (fun v3 h5 => hpK h5 b1 = 9 ∧ mx_SM mY_X9_put (d - 1) [.ref b1, .long v2, .int v3] h5 (mx_KI (fun v4 h6 => ((v4 = 0 → Q (.inl (some (.int (1 : Int32)))) h6) ∧ (¬ v4 = 0 → Q (.inl (some (.int (0 : Int32)))) h6))) (mx_XX mY_X1_assign Q))) (mx_XX mY_X1_assign Q))) (mx_XX mY_X1_assign Q))) (mx_XX mY_X1_assign Q))) (mx_XX mY_X1_assign Q))) : mx_SM mY_X1_assign d [.ref x0, .ref x1, .ref x2, .int x3] h Q := by
  refine mx_SM_of (by decide) (Nat.le_of_ble_eq_true rfl) ?_
  show mx_SX mY_X1_assign d 0 [(0, .ref x0), (1, .ref x1), (2, .ref x2), (3, .int x3)] [] h Q
  refine mx_aload_n (pc := 0) 0 (mx_dd dd_X1_assign 0 (0, .aload_n 0, 1) rfl) rfl rfl ?_
  refine mx_iconst (pc := 1) (v := (0 : Int32)) (mx_dd dd_X1_assign 1 (1, .iconst 0, 1) rfl) (by decide) ?_
  obtain ⟨g1, P⟩ := P
  refine mx_putI (pc := 2) mx_fl_X1_44 g1 rfl (.inl rfl) rfl rfl (mx_dd dd_X1_assign 2 (2, .putfield 44, 3) rfl) ?_
  have P := P _ rfl
  refine mx_aload_n (pc := 5) 0 (mx_dd dd_X1_assign 3 (5, .aload_n 0, 1) rfl) rfl rfl ?_
  refine mx_aload_n (pc := 6) 1 (mx_dd dd_X1_assign 4 (6, .aload_n 1, 1) rfl) rfl rfl ?_
  refine mx_aload_n (pc := 7) 2 (mx_dd dd_X1_assign 5 (7, .aload_n 2, 1) rfl) rfl rfl ?_
  refine mx_aload_n (pc := 8) 1 (mx_dd dd_X1_assign 6 (8, .aload_n 1, 1) rfl) rfl rfl ?_
  refine mx_iload_n (pc := 9) 3 (mx_dd dd_X1_assign 7 (9, .iload_n 3, 1) rfl) rfl rfl ?_
  refine mx_iconst (pc := 10) (v := (0 : Int32)) (mx_dd dd_X1_assign 8 (10, .iconst 0, 1) rfl) (by decide) ?_
  obtain ⟨g2, P⟩ := P
  obtain ⟨g3, P⟩ := P
  refine mx_cVI (pc := 11) (Y := mY_X7_argumentAt) (As := [.int x3, .int (0 : Int32)]) mx_ml_X1_83 mx_y_X7_argumentAt rfl g3 (by decide) rfl (by simp [Value.category]) rfl (mx_dd dd_X1_assign 9 (11, .invokevirtual 83, 3) rfl) g2 (by decide) P (fun v1 h2 P => ?_)
  obtain ⟨g4, P⟩ := P
  refine mx_cVV (pc := 14) (Y := mY_X1_addArgument) (As := [.ref x1, .ref x2, .int v1]) mx_ml_X1_87 mx_y_X1_addArgument rfl g4 (by decide) rfl (by decide) rfl (mx_dd dd_X1_assign 10 (14, .invokevirtual 87, 3) rfl) g2 (by decide) P (fun h3 P => ?_)
  refine mx_aload_n (pc := 17) 2 (mx_dd dd_X1_assign 11 (17, .aload_n 2, 1) rfl) rfl rfl ?_
  obtain ⟨g5, P⟩ := P
  obtain ⟨b1, g6, P⟩ := P
  refine mx_getR (pc := 18) mx_fl_X1_60 g5 rfl g6 (mx_dd dd_X1_assign 12 (18, .getfield 60, 3) rfl) ?_
  refine mx_aload_n (pc := 21) 1 (mx_dd dd_X1_assign 13 (21, .aload_n 1, 1) rfl) rfl rfl ?_
  refine mx_iload_n (pc := 22) 3 (mx_dd dd_X1_assign 14 (22, .iload_n 3, 1) rfl) rfl rfl ?_
  obtain ⟨g7, P⟩ := P
  refine mx_cVL (pc := 23) (Y := mY_X7_nameOf) (As := [.int x3]) mx_ml_X1_99 mx_y_X7_nameOf rfl g7 (by decide) rfl (by simp [Value.category]) rfl (mx_dd dd_X1_assign 15 (23, .invokevirtual 99, 3) rfl) g2 (by decide) P (fun v2 h4 P => ?_)
  refine mx_aload_n (pc := 26) 0 (mx_dd dd_X1_assign 16 (26, .aload_n 0, 1) rfl) rfl rfl ?_
  obtain ⟨g8, P⟩ := P
  obtain ⟨b2, g9, P⟩ := P
  refine mx_getR (pc := 27) mx_fl_X1_19 g8 rfl g9 (mx_dd dd_X1_assign 17 (27, .getfield 19, 3) rfl) ?_
  refine mx_aload_n (pc := 30) 0 (mx_dd dd_X1_assign 18 (30, .aload_n 0, 1) rfl) rfl rfl ?_
  obtain ⟨b3, g10, P⟩ := P
  refine mx_getR (pc := 31) mx_fl_X1_23 g8 rfl g10 (mx_dd dd_X1_assign 19 (31, .getfield 23, 3) rfl) ?_
  refine mx_iconst (pc := 34) (v := (0 : Int32)) (mx_dd dd_X1_assign 20 (34, .iconst 0, 1) rfl) (by decide) ?_
  refine mx_aload_n (pc := 35) 0 (mx_dd dd_X1_assign 21 (35, .aload_n 0, 1) rfl) rfl rfl ?_
  refine mx_getI (pc := 36) mx_fl_X1_44 g8 rfl (mx_dd dd_X1_assign 22 (36, .getfield 44, 3) rfl) ?_
  obtain ⟨g11, P⟩ := P
  refine mx_cVI (pc := 39) (Y := mY_X3_make) (As := [.ref b3, .int (0 : Int32), .int (hpI h4 x0 4)]) mx_ml_X1_102 mx_y_X3_make rfl g11 (by decide) rfl (by simp [Value.category]) rfl (mx_dd dd_X1_assign 23 (39, .invokevirtual 102, 3) rfl) g2 (by decide) P (fun v3 h5 P => ?_)
  obtain ⟨g12, P⟩ := P
  refine mx_cVI (pc := 42) (Y := mY_X9_put) (As := [.long v2, .int v3]) mx_ml_X1_106 mx_y_X9_put rfl g12 (by decide) rfl (by decide) rfl (mx_dd dd_X1_assign 24 (42, .invokevirtual 106, 3) rfl) g2 (by decide) P (fun v4 h6 P => ?_)
  refine mx_if_eq (pc := 45) 52 (mx_dd dd_X1_assign 25 (45, .ifCond .eq 7, 3) rfl) rfl (fun c45 => ?_) (fun c45 => ?_)
  · have P := P.1 c45
    refine mx_iconst (pc := 52) (v := (1 : Int32)) (mx_dd dd_X1_assign 28 (52, .iconst 1, 1) rfl) (by decide) ?_
    exact mx_ireturn (pc := 53) (mx_dd dd_X1_assign 29 (53, .ireturn, 1) rfl) rfl rfl P
  · have P := P.2 c45
    refine mx_iconst (pc := 48) (v := (0 : Int32)) (mx_dd dd_X1_assign 26 (48, .iconst 0, 1) rfl) (by decide) ?_
    refine mx_goto (pc := 49) 53 (mx_dd dd_X1_assign 27 (49, .goto 4, 3) rfl) rfl ?_
    exact mx_ireturn (pc := 53) (mx_dd dd_X1_assign 29 (53, .ireturn, 1) rfl) rfl rfl P
theorem b_X1_echo {d : Nat} {h : mxH} {Q : mxRes → mxH → Prop} (x0 : Nat) (x1 : Nat) (x2 : Nat) (x3 : Int32)
    (P : hpK h x0 = 1 ∧ ∀ h1 : mxH, h1 = hsI h x0 4 (0 : Int32) → 1 ≤ d ∧ hpK h1 x1 = 7 ∧ mx_SM mY_X7_argumentsOf (d - 1) [.ref x1, .int x3] h1 (mx_KI (fun v1 h2 => mx_SX mY_X1_echo d 15 [(0, .ref x0), (1, .ref x1), (2, .ref x2), (3, .int x3), (4, .int v1), (5, .int (0 : Int32))] [] h2 Q) (mx_XX mY_X1_echo Q))) : mx_SM mY_X1_echo d [.ref x0, .ref x1, .ref x2, .int x3] h Q := by
  refine mx_SM_of (by decide) (Nat.le_of_ble_eq_true rfl) ?_
  show mx_SX mY_X1_echo d 0 [(0, .ref x0), (1, .ref x1), (2, .ref x2), (3, .int x3)] [] h Q
  refine mx_aload_n (pc := 0) 0 (mx_dd dd_X1_echo 0 (0, .aload_n 0, 1) rfl) rfl rfl ?_
  refine mx_iconst (pc := 1) (v := (0 : Int32)) (mx_dd dd_X1_echo 1 (1, .iconst 0, 1) rfl) (by decide) ?_
  obtain ⟨g1, P⟩ := P
  refine mx_putI (pc := 2) mx_fl_X1_44 g1 rfl (.inl rfl) rfl rfl (mx_dd dd_X1_echo 2 (2, .putfield 44, 3) rfl) ?_
  have P := P _ rfl
  refine mx_aload_n (pc := 5) 1 (mx_dd dd_X1_echo 3 (5, .aload_n 1, 1) rfl) rfl rfl ?_
  refine mx_iload_n (pc := 6) 3 (mx_dd dd_X1_echo 4 (6, .iload_n 3, 1) rfl) rfl rfl ?_
  obtain ⟨g2, P⟩ := P
  obtain ⟨g3, P⟩ := P
  refine mx_cVI (pc := 7) (Y := mY_X7_argumentsOf) (As := [.int x3]) mx_ml_X1_110 mx_y_X7_argumentsOf rfl g3 (by decide) rfl (by decide) rfl (mx_dd dd_X1_echo 5 (7, .invokevirtual 110, 3) rfl) g2 (by decide) P (fun v1 h2 P => ?_)
  refine mx_istore (pc := 10) (mx_dd dd_X1_echo 6 (10, .istore 4, 2) rfl) (by decide) (lv' := [(4, _), (0, _), (1, _), (2, _), (3, _)]) rfl ?_
  refine mx_iconst (pc := 12) (v := (0 : Int32)) (mx_dd dd_X1_echo 7 (12, .iconst 0, 1) rfl) (by decide) ?_
  refine mx_istore (pc := 13) (mx_dd dd_X1_echo 8 (13, .istore 5, 2) rfl) (by decide) (lv' := [(5, _), (4, _), (0, _), (1, _), (2, _), (3, _)]) rfl ?_
  refine mx_sel [2, 3, 4, 5, 1, 0] rfl ?_
  exact P
theorem b_X1_echo_15 {d : Nat} {h : mxH} {Q : mxRes → mxH → Prop} (x0 : Nat) (x1 : Nat) (x2 : Nat) (x3 : Int32) (x4 : Int32) (x5 : Int32)
    (P : ((x4 ≤ x5 → hpK h x0 = 1 ∧ ∃ b1 : Nat, hpR h x0 2 = some b1 ∧ ∃ b2 : Nat, hpR h x0 3 = some b2 ∧ 1 ≤ d ∧ hpK h b1 = 3 ∧ mx_SM mY_X3_make (d - 1) [.ref b1, .ref b2, .int (0 : Int32), .int (hpI h x0 4)] h (mx_KI (fun v1 h1 => hpK h1 x0 = 1 ∧ mx_SM mY_X1_writeLine (d - 1) [.ref x0, .ref x2, .int v1] h1 (mx_KI (fun v2 h2 => ((v2 = 0 → Q (.inl (some (.int (1 : Int32)))) h2) ∧ (¬ v2 = 0 → Q (.inl (some (.int (0 : Int32)))) h2))) (mx_XX mY_X1_echo Q))) (mx_XX mY_X1_echo Q))) ∧ (¬ x4 ≤ x5 → ((x5 ≤ 0 → mx_SX mY_X1_echo d 64 [(0, .ref x0), (1, .ref x1), (2, .ref x2), (3, .int x3), (4, .int x4), (5, .int x5)] [] h Q) ∧ (¬ x5 ≤ 0 → hpK h x0 = 1 ∧ (((hpI h x0 4) < 0 → mx_SX mY_X1_echo d 64 [(0, .ref x0), (1, .ref x1), (2, .ref x2), (3, .int x3), (4, .int x4), (5, .int x5)] [] h Q) ∧ (¬ (hpI h x0 4) < 0 → (((80 : Int32) ≤ (hpI h x0 4) → mx_SX mY_X1_echo d 64 [(0, .ref x0), (1, .ref x1), (2, .ref x2), (3, .int x3), (4, .int x4), (5, .int x5)] [] h Q) ∧ (¬ (80 : Int32) ≤ (hpI h x0 4) → ∃ b3 : Nat, hpR h x0 3 = some b3 ∧ hpK h b3 = 13 ∧ vp_in (hpI h x0 4) (hpZ h b3) ∧ ∀ h3 : mxH, h3 = hsI h b3 (hpI h x0 4).toNatClampNeg (32 : Int32).toInt8.toInt32 → ∀ h4 : mxH, h4 = hsI h3 x0 4 ((hpI h3 x0 4) + (1 : Int32)) → mx_SX mY_X1_echo d 64 [(0, .ref x0), (1, .ref x1), (2, .ref x2), (3, .int x3), (4, .int x4), (5, .int x5)] [] h4 Q))))))))) : mx_SX mY_X1_echo d 15 [(0, .ref x0), (1, .ref x1), (2, .ref x2), (3, .int x3), (4, .int x4), (5, .int x5)] [] h Q := by
  refine mx_iload (pc := 15) 5 (mx_dd dd_X1_echo 9 (15, .iload 5, 2) rfl) rfl ?_
  refine mx_iload (pc := 17) 4 (mx_dd dd_X1_echo 10 (17, .iload 4, 2) rfl) rfl ?_
  refine mx_icmp_ge (pc := 19) 83 (mx_dd dd_X1_echo 11 (19, .if_icmp .ge 64, 3) rfl) rfl (fun c19 => ?_) (fun c19 => ?_)
  · have P := P.1 c19
    refine mx_aload_n (pc := 83) 0 (mx_dd dd_X1_echo 43 (83, .aload_n 0, 1) rfl) rfl rfl ?_
    refine mx_aload_n (pc := 84) 2 (mx_dd dd_X1_echo 44 (84, .aload_n 2, 1) rfl) rfl rfl ?_
    refine mx_aload_n (pc := 85) 0 (mx_dd dd_X1_echo 45 (85, .aload_n 0, 1) rfl) rfl rfl ?_
    obtain ⟨g1, P⟩ := P
    obtain ⟨b1, g2, P⟩ := P
    refine mx_getR (pc := 86) mx_fl_X1_19 g1 rfl g2 (mx_dd dd_X1_echo 46 (86, .getfield 19, 3) rfl) ?_
    refine mx_aload_n (pc := 89) 0 (mx_dd dd_X1_echo 47 (89, .aload_n 0, 1) rfl) rfl rfl ?_
    obtain ⟨b2, g3, P⟩ := P
    refine mx_getR (pc := 90) mx_fl_X1_23 g1 rfl g3 (mx_dd dd_X1_echo 48 (90, .getfield 23, 3) rfl) ?_
    refine mx_iconst (pc := 93) (v := (0 : Int32)) (mx_dd dd_X1_echo 49 (93, .iconst 0, 1) rfl) (by decide) ?_
    refine mx_aload_n (pc := 94) 0 (mx_dd dd_X1_echo 50 (94, .aload_n 0, 1) rfl) rfl rfl ?_
    refine mx_getI (pc := 95) mx_fl_X1_44 g1 rfl (mx_dd dd_X1_echo 51 (95, .getfield 44, 3) rfl) ?_
    obtain ⟨g4, P⟩ := P
    obtain ⟨g5, P⟩ := P
    refine mx_cVI (pc := 98) (Y := mY_X3_make) (As := [.ref b2, .int (0 : Int32), .int (hpI h x0 4)]) mx_ml_X1_102 mx_y_X3_make rfl g5 (by decide) rfl (by simp [Value.category]) rfl (mx_dd dd_X1_echo 52 (98, .invokevirtual 102, 3) rfl) g4 (by decide) P (fun v1 h1 P => ?_)
    obtain ⟨g6, P⟩ := P
    refine mx_cVI (pc := 101) (Y := mY_X1_writeLine) (As := [.ref x2, .int v1]) mx_ml_X1_113 mx_y_X1_writeLine rfl g6 (by decide) rfl (by decide) rfl (mx_dd dd_X1_echo 53 (101, .invokevirtual 113, 3) rfl) g4 (by decide) P (fun v2 h2 P => ?_)
    refine mx_if_eq (pc := 104) 111 (mx_dd dd_X1_echo 54 (104, .ifCond .eq 7, 3) rfl) rfl (fun c104 => ?_) (fun c104 => ?_)
    · have P := P.1 c104
      refine mx_iconst (pc := 111) (v := (1 : Int32)) (mx_dd dd_X1_echo 57 (111, .iconst 1, 1) rfl) (by decide) ?_
      exact mx_ireturn (pc := 112) (mx_dd dd_X1_echo 58 (112, .ireturn, 1) rfl) rfl rfl P
    · have P := P.2 c104
      refine mx_iconst (pc := 107) (v := (0 : Int32)) (mx_dd dd_X1_echo 55 (107, .iconst 0, 1) rfl) (by decide) ?_
      refine mx_goto (pc := 108) 112 (mx_dd dd_X1_echo 56 (108, .goto 4, 3) rfl) rfl ?_
      exact mx_ireturn (pc := 112) (mx_dd dd_X1_echo 58 (112, .ireturn, 1) rfl) rfl rfl P
  · have P := P.2 c19
    refine mx_iload (pc := 22) 5 (mx_dd dd_X1_echo 12 (22, .iload 5, 2) rfl) rfl ?_
    refine mx_if_le (pc := 24) 64 (mx_dd dd_X1_echo 13 (24, .ifCond .le 40, 3) rfl) rfl (fun c24 => ?_) (fun c24 => ?_)
    · have P := P.1 c24
      exact P
    · have P := P.2 c24
      refine mx_aload_n (pc := 27) 0 (mx_dd dd_X1_echo 14 (27, .aload_n 0, 1) rfl) rfl rfl ?_
      obtain ⟨g7, P⟩ := P
      refine mx_getI (pc := 28) mx_fl_X1_44 g7 rfl (mx_dd dd_X1_echo 15 (28, .getfield 44, 3) rfl) ?_
      refine mx_if_lt (pc := 31) 64 (mx_dd dd_X1_echo 16 (31, .ifCond .lt 33, 3) rfl) rfl (fun c31 => ?_) (fun c31 => ?_)
      · have P := P.1 c31
        exact P
      · have P := P.2 c31
        refine mx_aload_n (pc := 34) 0 (mx_dd dd_X1_echo 17 (34, .aload_n 0, 1) rfl) rfl rfl ?_
        refine mx_getI (pc := 35) mx_fl_X1_44 g7 rfl (mx_dd dd_X1_echo 18 (35, .getfield 44, 3) rfl) ?_
        refine mx_bipush (pc := 38) (v := (80 : Int32)) (mx_dd dd_X1_echo 19 (38, .bipush 80, 2) rfl) (by decide) ?_
        refine mx_icmp_ge (pc := 40) 64 (mx_dd dd_X1_echo 20 (40, .if_icmp .ge 24, 3) rfl) rfl (fun c40 => ?_) (fun c40 => ?_)
        · have P := P.1 c40
          exact P
        · have P := P.2 c40
          refine mx_aload_n (pc := 43) 0 (mx_dd dd_X1_echo 21 (43, .aload_n 0, 1) rfl) rfl rfl ?_
          obtain ⟨b3, g8, P⟩ := P
          refine mx_getR (pc := 44) mx_fl_X1_23 g7 rfl g8 (mx_dd dd_X1_echo 22 (44, .getfield 23, 3) rfl) ?_
          refine mx_aload_n (pc := 47) 0 (mx_dd dd_X1_echo 23 (47, .aload_n 0, 1) rfl) rfl rfl ?_
          refine mx_getI (pc := 48) mx_fl_X1_44 g7 rfl (mx_dd dd_X1_echo 24 (48, .getfield 44, 3) rfl) ?_
          refine mx_bipush (pc := 51) (v := (32 : Int32)) (mx_dd dd_X1_echo 25 (51, .bipush 32, 2) rfl) (by decide) ?_
          obtain ⟨g9, P⟩ := P
          obtain ⟨g10, P⟩ := P
          refine mx_bast (pc := 53) g9 g10 (mx_dd dd_X1_echo 26 (53, .bastore, 1) rfl) ?_
          have P := P _ rfl
          refine mx_aload_n (pc := 54) 0 (mx_dd dd_X1_echo 27 (54, .aload_n 0, 1) rfl) rfl rfl ?_
          refine mx_dup (pc := 55) (mx_dd dd_X1_echo 28 (55, .dup, 1) rfl) rfl ?_
          refine mx_getI (pc := 56) mx_fl_X1_44 g7 rfl (mx_dd dd_X1_echo 29 (56, .getfield 44, 3) rfl) ?_
          refine mx_iconst (pc := 59) (v := (1 : Int32)) (mx_dd dd_X1_echo 30 (59, .iconst 1, 1) rfl) (by decide) ?_
          refine mx_iadd (pc := 60) (mx_dd dd_X1_echo 31 (60, .iadd, 1) rfl) ?_
          refine mx_putI (pc := 61) mx_fl_X1_44 g7 rfl (.inl rfl) rfl rfl (mx_dd dd_X1_echo 32 (61, .putfield 44, 3) rfl) ?_
          have P := P _ rfl
          exact P
theorem b_X1_echo_64 {d : Nat} {h : mxH} {Q : mxRes → mxH → Prop} (x0 : Nat) (x1 : Nat) (x2 : Nat) (x3 : Int32) (x4 : Int32) (x5 : Int32)
    (P : 1 ≤ d ∧ hpK h x1 = 7 ∧ mx_SM mY_X7_argumentAt (d - 1) [.ref x1, .int x3, .int x5] h (mx_KI (fun v1 h1 => hpK h1 x0 = 1 ∧ mx_SM mY_X1_addArgument (d - 1) [.ref x0, .ref x1, .ref x2, .int v1] h1 (mx_KV (fun h2 => mx_SX mY_X1_echo d 15 [(0, .ref x0), (1, .ref x1), (2, .ref x2), (3, .int x3), (4, .int x4), (5, .int (x5 + (1 : Int32)))] [] h2 Q) (mx_XX mY_X1_echo Q))) (mx_XX mY_X1_echo Q))) : mx_SX mY_X1_echo d 64 [(0, .ref x0), (1, .ref x1), (2, .ref x2), (3, .int x3), (4, .int x4), (5, .int x5)] [] h Q := by
  refine mx_aload_n (pc := 64) 0 (mx_dd dd_X1_echo 33 (64, .aload_n 0, 1) rfl) rfl rfl ?_
  refine mx_aload_n (pc := 65) 1 (mx_dd dd_X1_echo 34 (65, .aload_n 1, 1) rfl) rfl rfl ?_
  refine mx_aload_n (pc := 66) 2 (mx_dd dd_X1_echo 35 (66, .aload_n 2, 1) rfl) rfl rfl ?_
  refine mx_aload_n (pc := 67) 1 (mx_dd dd_X1_echo 36 (67, .aload_n 1, 1) rfl) rfl rfl ?_
  refine mx_iload_n (pc := 68) 3 (mx_dd dd_X1_echo 37 (68, .iload_n 3, 1) rfl) rfl rfl ?_
  refine mx_iload (pc := 69) 5 (mx_dd dd_X1_echo 38 (69, .iload 5, 2) rfl) rfl ?_
  obtain ⟨g1, P⟩ := P
  obtain ⟨g2, P⟩ := P
  refine mx_cVI (pc := 71) (Y := mY_X7_argumentAt) (As := [.int x3, .int x5]) mx_ml_X1_83 mx_y_X7_argumentAt rfl g2 (by decide) rfl (by simp [Value.category]) rfl (mx_dd dd_X1_echo 39 (71, .invokevirtual 83, 3) rfl) g1 (by decide) P (fun v1 h1 P => ?_)
  obtain ⟨g3, P⟩ := P
  refine mx_cVV (pc := 74) (Y := mY_X1_addArgument) (As := [.ref x1, .ref x2, .int v1]) mx_ml_X1_87 mx_y_X1_addArgument rfl g3 (by decide) rfl (by decide) rfl (mx_dd dd_X1_echo 40 (74, .invokevirtual 87, 3) rfl) g1 (by decide) P (fun h2 P => ?_)
  refine mx_iinc (pc := 77) 5 (mx_dd dd_X1_echo 41 (77, .iinc 5 1, 3) rfl) rfl (mx_kadd (by decide : Int32.ofInt 1 = (1 : Int32))) (by decide) (lv' := [(5, _), (0, _), (1, _), (2, _), (3, _), (4, _)]) rfl ?_
  refine mx_goto (pc := 80) 15 (mx_dd dd_X1_echo 42 (80, .goto (-65), 3) rfl) rfl ?_
  refine mx_sel [1, 2, 3, 4, 5, 0] rfl ?_
  exact P
theorem b_X1_read {d : Nat} {h : mxH} {Q : mxRes → mxH → Prop} (x0 : Nat) (x1 : Nat) (x2 : Nat) (x3 : Int32)
    (P : 1 ≤ d ∧ hpK h x0 = 1 ∧ mx_SM mY_X1_nameArgument (d - 1) [.ref x0, .ref x1, .ref x2, .int x3, .int (0 : Int32)] h (mx_KL (fun v1 h1 => hpK h1 x1 = 7 ∧ mx_SM mY_X7_argumentsOf (d - 1) [.ref x1, .int x3] h1 (mx_KI (fun v2 h2 => ((¬ v2 = (1 : Int32) → Q (.inl (some (.int (2 : Int32)))) h2) ∧ (v2 = (1 : Int32) → ((¬ (lg_cmp v1 (0 : Int64)) = 0 → hpK h2 x0 = 1 ∧ mx_SM mY_X1_readLine (d - 1) [.ref x0, .ref x2] h2 (mx_KI (fun v3 h3 => ((¬ v3 = (-3 : Int32) → ((¬ v3 = (-1 : Int32) → ((v3 < 0 → Q (.inl (some (.int (1 : Int32)))) h3) ∧ (¬ v3 < 0 → hpK h3 x2 = 8 ∧ ∃ b1 : Nat, hpR h3 x2 0 = some b1 ∧ hpK h3 b1 = 9 ∧ mx_SM mY_X9_put (d - 1) [.ref b1, .long v1, .int v3] h3 (mx_KI (fun v4 h4 => ((v4 = 0 → Q (.inl (some (.int (1 : Int32)))) h4) ∧ (¬ v4 = 0 → Q (.inl (some (.int (0 : Int32)))) h4))) (mx_XX mY_X1_read Q))))) ∧ (v3 = (-1 : Int32) → hpK h3 x2 = 8 ∧ ∃ b2 : Nat, hpR h3 x2 0 = some b2 ∧ hpK h3 b2 = 9 ∧ mx_SM mY_X9_put (d - 1) [.ref b2, .long v1, .int (0 : Int32)] h3 (mx_KI (fun v5 h5 => Q (.inl (some (.int (1 : Int32)))) h5) (mx_XX mY_X1_read Q))))) ∧ (v3 = (-3 : Int32) → Q (.inl (some (.int (-2 : Int32)))) h3))) (mx_XX mY_X1_read Q))) ∧ ((lg_cmp v1 (0 : Int64)) = 0 → Q (.inl (some (.int (2 : Int32)))) h2))))) (mx_XX mY_X1_read Q))) (mx_XX mY_X1_read Q))) : mx_SM mY_X1_read d [.ref x0, .ref x1, .ref x2, .int x3] h Q := by
  refine mx_SM_of (by decide) (Nat.le_of_ble_eq_true rfl) ?_
  show mx_SX mY_X1_read d 0 [(0, .ref x0), (1, .ref x1), (2, .ref x2), (3, .int x3)] [] h Q
  refine mx_aload_n (pc := 0) 0 (mx_dd dd_X1_read 0 (0, .aload_n 0, 1) rfl) rfl rfl ?_
  refine mx_aload_n (pc := 1) 1 (mx_dd dd_X1_read 1 (1, .aload_n 1, 1) rfl) rfl rfl ?_
  refine mx_aload_n (pc := 2) 2 (mx_dd dd_X1_read 2 (2, .aload_n 2, 1) rfl) rfl rfl ?_
  refine mx_iload_n (pc := 3) 3 (mx_dd dd_X1_read 3 (3, .iload_n 3, 1) rfl) rfl rfl ?_
  refine mx_iconst (pc := 4) (v := (0 : Int32)) (mx_dd dd_X1_read 4 (4, .iconst 0, 1) rfl) (by decide) ?_
  obtain ⟨g1, P⟩ := P
  obtain ⟨g2, P⟩ := P
  refine mx_cVL (pc := 5) (Y := mY_X1_nameArgument) (As := [.ref x1, .ref x2, .int x3, .int (0 : Int32)]) mx_ml_X1_117 mx_y_X1_nameArgument rfl g2 (by decide) rfl (by decide) rfl (mx_dd dd_X1_read 5 (5, .invokevirtual 117, 3) rfl) g1 (by decide) P (fun v1 h1 P => ?_)
  refine mx_lstore (pc := 8) (mx_dd dd_X1_read 6 (8, .lstore 4, 2) rfl) (by decide) (lv' := [(4, _), (0, _), (1, _), (2, _), (3, _)]) rfl ?_
  refine mx_aload_n (pc := 10) 2 (mx_dd dd_X1_read 7 (10, .aload_n 1, 1) rfl) rfl rfl ?_
  refine mx_iload_n (pc := 11) 4 (mx_dd dd_X1_read 8 (11, .iload_n 3, 1) rfl) rfl rfl ?_
  obtain ⟨g3, P⟩ := P
  refine mx_cVI (pc := 12) (Y := mY_X7_argumentsOf) (As := [.int x3]) mx_ml_X1_110 mx_y_X7_argumentsOf rfl g3 (by decide) rfl (by decide) rfl (mx_dd dd_X1_read 9 (12, .invokevirtual 110, 3) rfl) g1 (by decide) P (fun v2 h2 P => ?_)
  refine mx_iconst (pc := 15) (v := (1 : Int32)) (mx_dd dd_X1_read 10 (15, .iconst 1, 1) rfl) (by decide) ?_
  refine mx_icmp_ne (pc := 16) 26 (mx_dd dd_X1_read 11 (16, .if_icmp .ne 10, 3) rfl) rfl (fun c16 => ?_) (fun c16 => ?_)
  · have P := P.1 c16
    refine mx_iconst (pc := 26) (v := (2 : Int32)) (mx_dd dd_X1_read 16 (26, .iconst 2, 1) rfl) (by decide) ?_
    exact mx_ireturn (pc := 27) (mx_dd dd_X1_read 17 (27, .ireturn, 1) rfl) rfl rfl P
  · have P := P.2 c16
    refine mx_lload (pc := 19) 0 (mx_dd dd_X1_read 12 (19, .lload 4, 2) rfl) rfl ?_
    refine mx_lconst (pc := 21) (v := (0 : Int64)) (mx_dd dd_X1_read 13 (21, .lconst 0, 1) rfl) (by decide) ?_
    refine mx_lcmp (pc := 22) (mx_dd dd_X1_read 14 (22, .lcmp, 1) rfl) ?_
    refine mx_if_ne (pc := 23) 28 (mx_dd dd_X1_read 15 (23, .ifCond .ne 5, 3) rfl) rfl (fun c23 => ?_) (fun c23 => ?_)
    · have P := P.1 c23
      refine mx_aload_n (pc := 28) 1 (mx_dd dd_X1_read 18 (28, .aload_n 0, 1) rfl) rfl rfl ?_
      refine mx_aload_n (pc := 29) 3 (mx_dd dd_X1_read 19 (29, .aload_n 2, 1) rfl) rfl rfl ?_
      obtain ⟨g4, P⟩ := P
      refine mx_cVI (pc := 30) (Y := mY_X1_readLine) (As := [.ref x2]) mx_ml_X1_121 mx_y_X1_readLine rfl g4 (by decide) rfl (by decide) rfl (mx_dd dd_X1_read 20 (30, .invokevirtual 121, 3) rfl) g1 (by decide) P (fun v3 h3 P => ?_)
      refine mx_istore (pc := 33) (mx_dd dd_X1_read 21 (33, .istore 6, 2) rfl) (by decide) (lv' := [(6, _), (4, _), (0, _), (1, _), (2, _), (3, _)]) rfl ?_
      refine mx_iload (pc := 35) 0 (mx_dd dd_X1_read 22 (35, .iload 6, 2) rfl) rfl ?_
      refine mx_bipush (pc := 37) (v := (-3 : Int32)) (mx_dd dd_X1_read 23 (37, .bipush (-3), 2) rfl) (by decide) ?_
      refine mx_icmp_ne (pc := 39) 45 (mx_dd dd_X1_read 24 (39, .if_icmp .ne 6, 3) rfl) rfl (fun c39 => ?_) (fun c39 => ?_)
      · have P := P.1 c39
        refine mx_iload (pc := 45) 0 (mx_dd dd_X1_read 27 (45, .iload 6, 2) rfl) rfl ?_
        refine mx_iconst (pc := 47) (v := (-1 : Int32)) (mx_dd dd_X1_read 28 (47, .iconst (-1), 1) rfl) (by decide) ?_
        refine mx_icmp_ne (pc := 48) 64 (mx_dd dd_X1_read 29 (48, .if_icmp .ne 16, 3) rfl) rfl (fun c48 => ?_) (fun c48 => ?_)
        · have P := P.1 c48
          refine mx_iload (pc := 64) 0 (mx_dd dd_X1_read 38 (64, .iload 6, 2) rfl) rfl ?_
          refine mx_if_lt (pc := 66) 87 (mx_dd dd_X1_read 39 (66, .ifCond .lt 21, 3) rfl) rfl (fun c66 => ?_) (fun c66 => ?_)
          · have P := P.1 c66
            refine mx_iconst (pc := 87) (v := (1 : Int32)) (mx_dd dd_X1_read 48 (87, .iconst 1, 1) rfl) (by decide) ?_
            exact mx_ireturn (pc := 88) (mx_dd dd_X1_read 49 (88, .ireturn, 1) rfl) rfl rfl P
          · have P := P.2 c66
            refine mx_aload_n (pc := 69) 4 (mx_dd dd_X1_read 40 (69, .aload_n 2, 1) rfl) rfl rfl ?_
            obtain ⟨g5, P⟩ := P
            obtain ⟨b1, g6, P⟩ := P
            refine mx_getR (pc := 70) mx_fl_X1_60 g5 rfl g6 (mx_dd dd_X1_read 41 (70, .getfield 60, 3) rfl) ?_
            refine mx_lload (pc := 73) 1 (mx_dd dd_X1_read 42 (73, .lload 4, 2) rfl) rfl ?_
            refine mx_iload (pc := 75) 0 (mx_dd dd_X1_read 43 (75, .iload 6, 2) rfl) rfl ?_
            obtain ⟨g7, P⟩ := P
            refine mx_cVI (pc := 77) (Y := mY_X9_put) (As := [.long v1, .int v3]) mx_ml_X1_106 mx_y_X9_put rfl g7 (by decide) rfl (by decide) rfl (mx_dd dd_X1_read 44 (77, .invokevirtual 106, 3) rfl) g1 (by decide) P (fun v4 h4 P => ?_)
            refine mx_if_eq (pc := 80) 87 (mx_dd dd_X1_read 45 (80, .ifCond .eq 7, 3) rfl) rfl (fun c80 => ?_) (fun c80 => ?_)
            · have P := P.1 c80
              refine mx_iconst (pc := 87) (v := (1 : Int32)) (mx_dd dd_X1_read 48 (87, .iconst 1, 1) rfl) (by decide) ?_
              exact mx_ireturn (pc := 88) (mx_dd dd_X1_read 49 (88, .ireturn, 1) rfl) rfl rfl P
            · have P := P.2 c80
              refine mx_iconst (pc := 83) (v := (0 : Int32)) (mx_dd dd_X1_read 46 (83, .iconst 0, 1) rfl) (by decide) ?_
              refine mx_goto (pc := 84) 88 (mx_dd dd_X1_read 47 (84, .goto 4, 3) rfl) rfl ?_
              exact mx_ireturn (pc := 88) (mx_dd dd_X1_read 49 (88, .ireturn, 1) rfl) rfl rfl P
        · have P := P.2 c48
          refine mx_aload_n (pc := 51) 4 (mx_dd dd_X1_read 30 (51, .aload_n 2, 1) rfl) rfl rfl ?_
          obtain ⟨g8, P⟩ := P
          obtain ⟨b2, g9, P⟩ := P
          refine mx_getR (pc := 52) mx_fl_X1_60 g8 rfl g9 (mx_dd dd_X1_read 31 (52, .getfield 60, 3) rfl) ?_
          refine mx_lload (pc := 55) 1 (mx_dd dd_X1_read 32 (55, .lload 4, 2) rfl) rfl ?_
          refine mx_iconst (pc := 57) (v := (0 : Int32)) (mx_dd dd_X1_read 33 (57, .iconst 0, 1) rfl) (by decide) ?_
          obtain ⟨g10, P⟩ := P
          refine mx_cVI (pc := 58) (Y := mY_X9_put) (As := [.long v1, .int (0 : Int32)]) mx_ml_X1_106 mx_y_X9_put rfl g10 (by decide) rfl (by decide) rfl (mx_dd dd_X1_read 34 (58, .invokevirtual 106, 3) rfl) g1 (by decide) P (fun v5 h5 P => ?_)
          refine mx_pop (pc := 61) (mx_dd dd_X1_read 35 (61, .pop, 1) rfl) rfl ?_
          refine mx_iconst (pc := 62) (v := (1 : Int32)) (mx_dd dd_X1_read 36 (62, .iconst 1, 1) rfl) (by decide) ?_
          exact mx_ireturn (pc := 63) (mx_dd dd_X1_read 37 (63, .ireturn, 1) rfl) rfl rfl P
      · have P := P.2 c39
        refine mx_bipush (pc := 42) (v := (-2 : Int32)) (mx_dd dd_X1_read 25 (42, .bipush (-2), 2) rfl) (by decide) ?_
        exact mx_ireturn (pc := 44) (mx_dd dd_X1_read 26 (44, .ireturn, 1) rfl) rfl rfl P
    · have P := P.2 c23
      refine mx_iconst (pc := 26) (v := (2 : Int32)) (mx_dd dd_X1_read 16 (26, .iconst 2, 1) rfl) (by decide) ?_
      exact mx_ireturn (pc := 27) (mx_dd dd_X1_read 17 (27, .ireturn, 1) rfl) rfl rfl P
theorem b_X1_cat {d : Nat} {h : mxH} {Q : mxRes → mxH → Prop} (x0 : Nat) (x1 : Nat) (x2 : Nat) (x3 : Int32)
    (P : 1 ≤ d ∧ hpK h x1 = 7 ∧ mx_SM mY_X7_argumentsOf (d - 1) [.ref x1, .int x3] h (mx_KI (fun v1 h1 => ((v1 = 0 → hpK h1 x0 = 1 ∧ mx_SM mY_X1_readLine (d - 1) [.ref x0, .ref x2] h1 (mx_KI (fun v2 h2 => mx_SX mY_X1_cat d 20 [(0, .ref x0), (2, .ref x2), (4, .int v2), (5, .int (0 : Int32))] [] h2 Q) (mx_XX mY_X1_cat Q))) ∧ (¬ v1 = 0 → Q (.inl (some (.int (2 : Int32)))) h1))) (mx_XX mY_X1_cat Q))) : mx_SM mY_X1_cat d [.ref x0, .ref x1, .ref x2, .int x3] h Q := by
  refine mx_SM_of (by decide) (Nat.le_of_ble_eq_true rfl) ?_
  show mx_SX mY_X1_cat d 0 [(0, .ref x0), (1, .ref x1), (2, .ref x2), (3, .int x3)] [] h Q
  refine mx_aload_n (pc := 0) 1 (mx_dd dd_X1_cat 0 (0, .aload_n 1, 1) rfl) rfl rfl ?_
  refine mx_iload_n (pc := 1) 3 (mx_dd dd_X1_cat 1 (1, .iload_n 3, 1) rfl) rfl rfl ?_
  obtain ⟨g1, P⟩ := P
  obtain ⟨g2, P⟩ := P
  refine mx_cVI (pc := 2) (Y := mY_X7_argumentsOf) (As := [.int x3]) mx_ml_X1_110 mx_y_X7_argumentsOf rfl g2 (by decide) rfl (by decide) rfl (mx_dd dd_X1_cat 2 (2, .invokevirtual 110, 3) rfl) g1 (by decide) P (fun v1 h1 P => ?_)
  refine mx_if_eq (pc := 5) 10 (mx_dd dd_X1_cat 3 (5, .ifCond .eq 5, 3) rfl) rfl (fun c5 => ?_) (fun c5 => ?_)
  · have P := P.1 c5
    refine mx_aload_n (pc := 10) 0 (mx_dd dd_X1_cat 6 (10, .aload_n 0, 1) rfl) rfl rfl ?_
    refine mx_aload_n (pc := 11) 2 (mx_dd dd_X1_cat 7 (11, .aload_n 2, 1) rfl) rfl rfl ?_
    obtain ⟨g3, P⟩ := P
    refine mx_cVI (pc := 12) (Y := mY_X1_readLine) (As := [.ref x2]) mx_ml_X1_121 mx_y_X1_readLine rfl g3 (by decide) rfl (by decide) rfl (mx_dd dd_X1_cat 8 (12, .invokevirtual 121, 3) rfl) g1 (by decide) P (fun v2 h2 P => ?_)
    refine mx_istore (pc := 15) (mx_dd dd_X1_cat 9 (15, .istore 4, 2) rfl) (by decide) (lv' := [(4, _), (0, _), (1, _), (2, _), (3, _)]) rfl ?_
    refine mx_iconst (pc := 17) (v := (0 : Int32)) (mx_dd dd_X1_cat 10 (17, .iconst 0, 1) rfl) (by decide) ?_
    refine mx_istore (pc := 18) (mx_dd dd_X1_cat 11 (18, .istore 5, 2) rfl) (by decide) (lv' := [(5, _), (4, _), (0, _), (1, _), (2, _), (3, _)]) rfl ?_
    refine mx_sel [2, 4, 1, 0] rfl ?_
    exact P
  · have P := P.2 c5
    refine mx_iconst (pc := 8) (v := (2 : Int32)) (mx_dd dd_X1_cat 4 (8, .iconst 2, 1) rfl) (by decide) ?_
    exact mx_ireturn (pc := 9) (mx_dd dd_X1_cat 5 (9, .ireturn, 1) rfl) rfl rfl P
theorem b_X1_cat_20 {d : Nat} {h : mxH} {Q : mxRes → mxH → Prop} (x0 : Nat) (x2 : Nat) (x4 : Int32) (x5 : Int32)
    (P : (((12040 : Int32) ≤ x5 → mx_SX mY_X1_cat d 58 [(4, .int x4)] [] h Q) ∧ (¬ (12040 : Int32) ≤ x5 → ((x4 < 0 → mx_SX mY_X1_cat d 58 [(4, .int x4)] [] h Q) ∧ (¬ x4 < 0 → 1 ≤ d ∧ hpK h x0 = 1 ∧ mx_SM mY_X1_writeLine (d - 1) [.ref x0, .ref x2, .int x4] h (mx_KI (fun v1 h1 => ((¬ v1 = 0 → hpK h1 x0 = 1 ∧ mx_SM mY_X1_readLine (d - 1) [.ref x0, .ref x2] h1 (mx_KI (fun v2 h2 => mx_SX mY_X1_cat d 20 [(0, .ref x0), (2, .ref x2), (4, .int v2), (5, .int (x5 + (1 : Int32)))] [] h2 Q) (mx_XX mY_X1_cat Q))) ∧ (v1 = 0 → Q (.inl (some (.int (1 : Int32)))) h1))) (mx_XX mY_X1_cat Q))))))) : mx_SX mY_X1_cat d 20 [(0, .ref x0), (2, .ref x2), (4, .int x4), (5, .int x5)] [] h Q := by
  refine mx_iload (pc := 20) 3 (mx_dd dd_X1_cat 12 (20, .iload 5, 2) rfl) rfl ?_
  refine mx_sipush (pc := 22) (v := (12040 : Int32)) (mx_dd dd_X1_cat 13 (22, .sipush 12040, 3) rfl) (by decide) ?_
  refine mx_icmp_ge (pc := 25) 58 (mx_dd dd_X1_cat 14 (25, .if_icmp .ge 33, 3) rfl) rfl (fun c25 => ?_) (fun c25 => ?_)
  · have P := P.1 c25
    refine mx_sel [2] rfl ?_
    exact P
  · have P := P.2 c25
    refine mx_iload (pc := 28) 2 (mx_dd dd_X1_cat 15 (28, .iload 4, 2) rfl) rfl ?_
    refine mx_if_lt (pc := 30) 58 (mx_dd dd_X1_cat 16 (30, .ifCond .lt 28, 3) rfl) rfl (fun c30 => ?_) (fun c30 => ?_)
    · have P := P.1 c30
      refine mx_sel [2] rfl ?_
      exact P
    · have P := P.2 c30
      refine mx_aload_n (pc := 33) 0 (mx_dd dd_X1_cat 17 (33, .aload_n 0, 1) rfl) rfl rfl ?_
      refine mx_aload_n (pc := 34) 1 (mx_dd dd_X1_cat 18 (34, .aload_n 2, 1) rfl) rfl rfl ?_
      refine mx_iload (pc := 35) 2 (mx_dd dd_X1_cat 19 (35, .iload 4, 2) rfl) rfl ?_
      obtain ⟨g1, P⟩ := P
      obtain ⟨g2, P⟩ := P
      refine mx_cVI (pc := 37) (Y := mY_X1_writeLine) (As := [.ref x2, .int x4]) mx_ml_X1_113 mx_y_X1_writeLine rfl g2 (by decide) rfl (by decide) rfl (mx_dd dd_X1_cat 20 (37, .invokevirtual 113, 3) rfl) g1 (by decide) P (fun v1 h1 P => ?_)
      refine mx_if_ne (pc := 40) 45 (mx_dd dd_X1_cat 21 (40, .ifCond .ne 5, 3) rfl) rfl (fun c40 => ?_) (fun c40 => ?_)
      · have P := P.1 c40
        refine mx_aload_n (pc := 45) 0 (mx_dd dd_X1_cat 24 (45, .aload_n 0, 1) rfl) rfl rfl ?_
        refine mx_aload_n (pc := 46) 1 (mx_dd dd_X1_cat 25 (46, .aload_n 2, 1) rfl) rfl rfl ?_
        obtain ⟨g3, P⟩ := P
        refine mx_cVI (pc := 47) (Y := mY_X1_readLine) (As := [.ref x2]) mx_ml_X1_121 mx_y_X1_readLine rfl g3 (by decide) rfl (by decide) rfl (mx_dd dd_X1_cat 26 (47, .invokevirtual 121, 3) rfl) g1 (by decide) P (fun v2 h2 P => ?_)
        refine mx_istore (pc := 50) (mx_dd dd_X1_cat 27 (50, .istore 4, 2) rfl) (by decide) (lv' := [(4, _), (0, _), (2, _), (5, _)]) rfl ?_
        refine mx_iinc (pc := 52) 3 (mx_dd dd_X1_cat 28 (52, .iinc 5 1, 3) rfl) rfl (mx_kadd (by decide : Int32.ofInt 1 = (1 : Int32))) (by decide) (lv' := [(5, _), (4, _), (0, _), (2, _)]) rfl ?_
        refine mx_goto (pc := 55) 20 (mx_dd dd_X1_cat 29 (55, .goto (-35), 3) rfl) rfl ?_
        refine mx_sel [2, 3, 1, 0] rfl ?_
        exact P
      · have P := P.2 c40
        refine mx_iconst (pc := 43) (v := (1 : Int32)) (mx_dd dd_X1_cat 22 (43, .iconst 1, 1) rfl) (by decide) ?_
        exact mx_ireturn (pc := 44) (mx_dd dd_X1_cat 23 (44, .ireturn, 1) rfl) rfl rfl P
theorem b_X1_cat_58 {d : Nat} {h : mxH} {Q : mxRes → mxH → Prop} (x4 : Int32)
    (P : ((¬ x4 = (-3 : Int32) → ((¬ x4 = (-1 : Int32) → Q (.inl (some (.int (1 : Int32)))) h) ∧ (x4 = (-1 : Int32) → Q (.inl (some (.int (0 : Int32)))) h))) ∧ (x4 = (-3 : Int32) → Q (.inl (some (.int (-2 : Int32)))) h))) : mx_SX mY_X1_cat d 58 [(4, .int x4)] [] h Q := by
  refine mx_iload (pc := 58) 0 (mx_dd dd_X1_cat 30 (58, .iload 4, 2) rfl) rfl ?_
  refine mx_bipush (pc := 60) (v := (-3 : Int32)) (mx_dd dd_X1_cat 31 (60, .bipush (-3), 2) rfl) (by decide) ?_
  refine mx_icmp_ne (pc := 62) 68 (mx_dd dd_X1_cat 32 (62, .if_icmp .ne 6, 3) rfl) rfl (fun c62 => ?_) (fun c62 => ?_)
  · have P := P.1 c62
    refine mx_iload (pc := 68) 0 (mx_dd dd_X1_cat 35 (68, .iload 4, 2) rfl) rfl ?_
    refine mx_iconst (pc := 70) (v := (-1 : Int32)) (mx_dd dd_X1_cat 36 (70, .iconst (-1), 1) rfl) (by decide) ?_
    refine mx_icmp_ne (pc := 71) 78 (mx_dd dd_X1_cat 37 (71, .if_icmp .ne 7, 3) rfl) rfl (fun c71 => ?_) (fun c71 => ?_)
    · have P := P.1 c71
      refine mx_iconst (pc := 78) (v := (1 : Int32)) (mx_dd dd_X1_cat 40 (78, .iconst 1, 1) rfl) (by decide) ?_
      exact mx_ireturn (pc := 79) (mx_dd dd_X1_cat 41 (79, .ireturn, 1) rfl) rfl rfl P
    · have P := P.2 c71
      refine mx_iconst (pc := 74) (v := (0 : Int32)) (mx_dd dd_X1_cat 38 (74, .iconst 0, 1) rfl) (by decide) ?_
      refine mx_goto (pc := 75) 79 (mx_dd dd_X1_cat 39 (75, .goto 4, 3) rfl) rfl ?_
      exact mx_ireturn (pc := 79) (mx_dd dd_X1_cat 41 (79, .ireturn, 1) rfl) rfl rfl P
  · have P := P.2 c62
    refine mx_bipush (pc := 65) (v := (-2 : Int32)) (mx_dd dd_X1_cat 33 (65, .bipush (-2), 2) rfl) (by decide) ?_
    exact mx_ireturn (pc := 67) (mx_dd dd_X1_cat 34 (67, .ireturn, 1) rfl) rfl rfl P
theorem b_X1_trap {d : Nat} {h : mxH} {Q : mxRes → mxH → Prop} (x0 : Nat) (x1 : Nat) (x2 : Nat) (x3 : Int32)
    (P : 1 ≤ d ∧ hpK h x0 = 1 ∧ mx_SM mY_X1_nameArgument (d - 1) [.ref x0, .ref x1, .ref x2, .int x3, .int (0 : Int32)] h (mx_KL (fun v1 h1 => hpK h1 x0 = 1 ∧ mx_SM mY_X1_nameArgument (d - 1) [.ref x0, .ref x1, .ref x2, .int x3, .int (1 : Int32)] h1 (mx_KL (fun v2 h2 => mx_SM mY_X1_signalNamed (d - 1) [.long v2] h2 (mx_KI (fun v3 h3 => hpK h3 x1 = 7 ∧ mx_SM mY_X7_argumentsOf (d - 1) [.ref x1, .int x3] h3 (mx_KI (fun v4 h4 => ((¬ v4 = (2 : Int32) → Q (.inl (some (.int (2 : Int32)))) h4) ∧ (v4 = (2 : Int32) → (((lg_cmp v1 (0 : Int64)) = 0 → Q (.inl (some (.int (2 : Int32)))) h4) ∧ (¬ (lg_cmp v1 (0 : Int64)) = 0 → ((v3 < 0 → Q (.inl (some (.int (2 : Int32)))) h4) ∧ (¬ v3 < 0 → ((v3 < (4 : Int32) → ((¬ (lg_cmp v1 (10620950253 : Int64)) = 0 → hpK h4 x2 = 8 ∧ ∃ b1 : Nat, hpR h4 x2 2 = some b1 ∧ ((¬ (lg_cmp v1 (637945088 : Int64)) = 0 → hpK h4 b1 = 15 ∧ vp_in v3 (hpZ h4 b1) ∧ ∀ h5 : mxH, h5 = hsL h4 b1 v3.toNatClampNeg v1 → Q (.inl (some (.int (0 : Int32)))) h5) ∧ ((lg_cmp v1 (637945088 : Int64)) = 0 → hpK h4 b1 = 15 ∧ vp_in v3 (hpZ h4 b1) ∧ ∀ h6 : mxH, h6 = hsL h4 b1 v3.toNatClampNeg (-2 : Int64) → Q (.inl (some (.int (0 : Int32)))) h6))) ∧ ((lg_cmp v1 (10620950253 : Int64)) = 0 → hpK h4 x2 = 8 ∧ ∃ b2 : Nat, hpR h4 x2 2 = some b2 ∧ hpK h4 b2 = 15 ∧ vp_in v3 (hpZ h4 b2) ∧ ∀ h7 : mxH, h7 = hsL h4 b2 v3.toNatClampNeg (0 : Int64) → Q (.inl (some (.int (0 : Int32)))) h7))) ∧ (¬ v3 < (4 : Int32) → Q (.inl (some (.int (2 : Int32)))) h4))))))))) (mx_XX mY_X1_trap Q))) (mx_XX mY_X1_trap Q))) (mx_XX mY_X1_trap Q))) (mx_XX mY_X1_trap Q))) : mx_SM mY_X1_trap d [.ref x0, .ref x1, .ref x2, .int x3] h Q := by
  refine mx_SM_of (by decide) (Nat.le_of_ble_eq_true rfl) ?_
  show mx_SX mY_X1_trap d 0 [(0, .ref x0), (1, .ref x1), (2, .ref x2), (3, .int x3)] [] h Q
  refine mx_aload_n (pc := 0) 0 (mx_dd dd_X1_trap 0 (0, .aload_n 0, 1) rfl) rfl rfl ?_
  refine mx_aload_n (pc := 1) 1 (mx_dd dd_X1_trap 1 (1, .aload_n 1, 1) rfl) rfl rfl ?_
  refine mx_aload_n (pc := 2) 2 (mx_dd dd_X1_trap 2 (2, .aload_n 2, 1) rfl) rfl rfl ?_
  refine mx_iload_n (pc := 3) 3 (mx_dd dd_X1_trap 3 (3, .iload_n 3, 1) rfl) rfl rfl ?_
  refine mx_iconst (pc := 4) (v := (0 : Int32)) (mx_dd dd_X1_trap 4 (4, .iconst 0, 1) rfl) (by decide) ?_
  obtain ⟨g1, P⟩ := P
  obtain ⟨g2, P⟩ := P
  refine mx_cVL (pc := 5) (Y := mY_X1_nameArgument) (As := [.ref x1, .ref x2, .int x3, .int (0 : Int32)]) mx_ml_X1_117 mx_y_X1_nameArgument rfl g2 (by decide) rfl (by decide) rfl (mx_dd dd_X1_trap 5 (5, .invokevirtual 117, 3) rfl) g1 (by decide) P (fun v1 h1 P => ?_)
  refine mx_lstore (pc := 8) (mx_dd dd_X1_trap 6 (8, .lstore 4, 2) rfl) (by decide) (lv' := [(4, _), (0, _), (1, _), (2, _), (3, _)]) rfl ?_
  refine mx_aload_n (pc := 10) 1 (mx_dd dd_X1_trap 7 (10, .aload_n 0, 1) rfl) rfl rfl ?_
  refine mx_aload_n (pc := 11) 2 (mx_dd dd_X1_trap 8 (11, .aload_n 1, 1) rfl) rfl rfl ?_
  refine mx_aload_n (pc := 12) 3 (mx_dd dd_X1_trap 9 (12, .aload_n 2, 1) rfl) rfl rfl ?_
  refine mx_iload_n (pc := 13) 4 (mx_dd dd_X1_trap 10 (13, .iload_n 3, 1) rfl) rfl rfl ?_
  refine mx_iconst (pc := 14) (v := (1 : Int32)) (mx_dd dd_X1_trap 11 (14, .iconst 1, 1) rfl) (by decide) ?_
  obtain ⟨g3, P⟩ := P
  refine mx_cVL (pc := 15) (Y := mY_X1_nameArgument) (As := [.ref x1, .ref x2, .int x3, .int (1 : Int32)]) mx_ml_X1_117 mx_y_X1_nameArgument rfl g3 (by decide) rfl (by decide) rfl (mx_dd dd_X1_trap 12 (15, .invokevirtual 117, 3) rfl) g1 (by decide) P (fun v2 h2 P => ?_)
  refine mx_cSI (pc := 18) (Y := mY_X1_signalNamed) (As := [.long v2]) mx_ml_X1_127 mx_y_X1_signalNamed rfl rfl (by decide) rfl (mx_dd dd_X1_trap 13 (18, .invokestatic 127, 3) rfl) g1 (by decide) P (fun v3 h3 P => ?_)
  refine mx_istore (pc := 21) (mx_dd dd_X1_trap 14 (21, .istore 6, 2) rfl) (by decide) (lv' := [(6, _), (4, _), (0, _), (1, _), (2, _), (3, _)]) rfl ?_
  refine mx_aload_n (pc := 23) 3 (mx_dd dd_X1_trap 15 (23, .aload_n 1, 1) rfl) rfl rfl ?_
  refine mx_iload_n (pc := 24) 5 (mx_dd dd_X1_trap 16 (24, .iload_n 3, 1) rfl) rfl rfl ?_
  obtain ⟨g4, P⟩ := P
  refine mx_cVI (pc := 25) (Y := mY_X7_argumentsOf) (As := [.int x3]) mx_ml_X1_110 mx_y_X7_argumentsOf rfl g4 (by decide) rfl (by decide) rfl (mx_dd dd_X1_trap 17 (25, .invokevirtual 110, 3) rfl) g1 (by decide) P (fun v4 h4 P => ?_)
  refine mx_iconst (pc := 28) (v := (2 : Int32)) (mx_dd dd_X1_trap 18 (28, .iconst 2, 1) rfl) (by decide) ?_
  refine mx_icmp_ne (pc := 29) 50 (mx_dd dd_X1_trap 19 (29, .if_icmp .ne 21, 3) rfl) rfl (fun c29 => ?_) (fun c29 => ?_)
  · have P := P.1 c29
    refine mx_iconst (pc := 50) (v := (2 : Int32)) (mx_dd dd_X1_trap 29 (50, .iconst 2, 1) rfl) (by decide) ?_
    exact mx_ireturn (pc := 51) (mx_dd dd_X1_trap 30 (51, .ireturn, 1) rfl) rfl rfl P
  · have P := P.2 c29
    refine mx_lload (pc := 32) 1 (mx_dd dd_X1_trap 20 (32, .lload 4, 2) rfl) rfl ?_
    refine mx_lconst (pc := 34) (v := (0 : Int64)) (mx_dd dd_X1_trap 21 (34, .lconst 0, 1) rfl) (by decide) ?_
    refine mx_lcmp (pc := 35) (mx_dd dd_X1_trap 22 (35, .lcmp, 1) rfl) ?_
    refine mx_if_eq (pc := 36) 50 (mx_dd dd_X1_trap 23 (36, .ifCond .eq 14, 3) rfl) rfl (fun c36 => ?_) (fun c36 => ?_)
    · have P := P.1 c36
      refine mx_iconst (pc := 50) (v := (2 : Int32)) (mx_dd dd_X1_trap 29 (50, .iconst 2, 1) rfl) (by decide) ?_
      exact mx_ireturn (pc := 51) (mx_dd dd_X1_trap 30 (51, .ireturn, 1) rfl) rfl rfl P
    · have P := P.2 c36
      refine mx_iload (pc := 39) 0 (mx_dd dd_X1_trap 24 (39, .iload 6, 2) rfl) rfl ?_
      refine mx_if_lt (pc := 41) 50 (mx_dd dd_X1_trap 25 (41, .ifCond .lt 9, 3) rfl) rfl (fun c41 => ?_) (fun c41 => ?_)
      · have P := P.1 c41
        refine mx_iconst (pc := 50) (v := (2 : Int32)) (mx_dd dd_X1_trap 29 (50, .iconst 2, 1) rfl) (by decide) ?_
        exact mx_ireturn (pc := 51) (mx_dd dd_X1_trap 30 (51, .ireturn, 1) rfl) rfl rfl P
      · have P := P.2 c41
        refine mx_iload (pc := 44) 0 (mx_dd dd_X1_trap 26 (44, .iload 6, 2) rfl) rfl ?_
        refine mx_iconst (pc := 46) (v := (4 : Int32)) (mx_dd dd_X1_trap 27 (46, .iconst 4, 1) rfl) (by decide) ?_
        refine mx_icmp_lt (pc := 47) 52 (mx_dd dd_X1_trap 28 (47, .if_icmp .lt 5, 3) rfl) rfl (fun c47 => ?_) (fun c47 => ?_)
        · have P := P.1 c47
          refine mx_lload (pc := 52) 1 (mx_dd dd_X1_trap 31 (52, .lload 4, 2) rfl) rfl ?_
          refine mx_ldc2 (pc := 54) mx_cL_X1_130 (mx_dd dd_X1_trap 32 (54, .ldc2_w 130, 3) rfl) ?_
          refine mx_lcmp (pc := 57) (mx_dd dd_X1_trap 33 (57, .lcmp, 1) rfl) ?_
          refine mx_if_ne (pc := 58) 72 (mx_dd dd_X1_trap 34 (58, .ifCond .ne 14, 3) rfl) rfl (fun c58 => ?_) (fun c58 => ?_)
          · have P := P.1 c58
            refine mx_aload_n (pc := 72) 4 (mx_dd dd_X1_trap 41 (72, .aload_n 2, 1) rfl) rfl rfl ?_
            obtain ⟨g5, P⟩ := P
            obtain ⟨b1, g6, P⟩ := P
            refine mx_getR (pc := 73) mx_fl_X1_132 g5 rfl g6 (mx_dd dd_X1_trap 42 (73, .getfield 132, 3) rfl) ?_
            refine mx_iload (pc := 76) 0 (mx_dd dd_X1_trap 43 (76, .iload 6, 2) rfl) rfl ?_
            refine mx_lload (pc := 78) 1 (mx_dd dd_X1_trap 44 (78, .lload 4, 2) rfl) rfl ?_
            refine mx_ldc2 (pc := 80) mx_cL_X1_135 (mx_dd dd_X1_trap 45 (80, .ldc2_w 135, 3) rfl) ?_
            refine mx_lcmp (pc := 83) (mx_dd dd_X1_trap 46 (83, .lcmp, 1) rfl) ?_
            refine mx_if_ne (pc := 84) 93 (mx_dd dd_X1_trap 47 (84, .ifCond .ne 9, 3) rfl) rfl (fun c84 => ?_) (fun c84 => ?_)
            · have P := P.1 c84
              refine mx_lload (pc := 93) 1 (mx_dd dd_X1_trap 50 (93, .lload 4, 2) rfl) rfl ?_
              obtain ⟨g7, P⟩ := P
              obtain ⟨g8, P⟩ := P
              refine mx_last (pc := 95) g7 g8 (mx_dd dd_X1_trap 51 (95, .lastore, 1) rfl) ?_
              have P := P _ rfl
              refine mx_iconst (pc := 96) (v := (0 : Int32)) (mx_dd dd_X1_trap 52 (96, .iconst 0, 1) rfl) (by decide) ?_
              exact mx_ireturn (pc := 97) (mx_dd dd_X1_trap 53 (97, .ireturn, 1) rfl) rfl rfl P
            · have P := P.2 c84
              refine mx_ldc2 (pc := 87) mx_cL_X1_137 (mx_dd dd_X1_trap 48 (87, .ldc2_w 137, 3) rfl) ?_
              refine mx_goto (pc := 90) 95 (mx_dd dd_X1_trap 49 (90, .goto 5, 3) rfl) rfl ?_
              obtain ⟨g9, P⟩ := P
              obtain ⟨g10, P⟩ := P
              refine mx_last (pc := 95) g9 g10 (mx_dd dd_X1_trap 51 (95, .lastore, 1) rfl) ?_
              have P := P _ rfl
              refine mx_iconst (pc := 96) (v := (0 : Int32)) (mx_dd dd_X1_trap 52 (96, .iconst 0, 1) rfl) (by decide) ?_
              exact mx_ireturn (pc := 97) (mx_dd dd_X1_trap 53 (97, .ireturn, 1) rfl) rfl rfl P
          · have P := P.2 c58
            refine mx_aload_n (pc := 61) 4 (mx_dd dd_X1_trap 35 (61, .aload_n 2, 1) rfl) rfl rfl ?_
            obtain ⟨g11, P⟩ := P
            obtain ⟨b2, g12, P⟩ := P
            refine mx_getR (pc := 62) mx_fl_X1_132 g11 rfl g12 (mx_dd dd_X1_trap 36 (62, .getfield 132, 3) rfl) ?_
            refine mx_iload (pc := 65) 0 (mx_dd dd_X1_trap 37 (65, .iload 6, 2) rfl) rfl ?_
            refine mx_lconst (pc := 67) (v := (0 : Int64)) (mx_dd dd_X1_trap 38 (67, .lconst 0, 1) rfl) (by decide) ?_
            obtain ⟨g13, P⟩ := P
            obtain ⟨g14, P⟩ := P
            refine mx_last (pc := 68) g13 g14 (mx_dd dd_X1_trap 39 (68, .lastore, 1) rfl) ?_
            have P := P _ rfl
            refine mx_goto (pc := 69) 96 (mx_dd dd_X1_trap 40 (69, .goto 27, 3) rfl) rfl ?_
            refine mx_iconst (pc := 96) (v := (0 : Int32)) (mx_dd dd_X1_trap 52 (96, .iconst 0, 1) rfl) (by decide) ?_
            exact mx_ireturn (pc := 97) (mx_dd dd_X1_trap 53 (97, .ireturn, 1) rfl) rfl rfl P
        · have P := P.2 c47
          refine mx_iconst (pc := 50) (v := (2 : Int32)) (mx_dd dd_X1_trap 29 (50, .iconst 2, 1) rfl) (by decide) ?_
          exact mx_ireturn (pc := 51) (mx_dd dd_X1_trap 30 (51, .ireturn, 1) rfl) rfl rfl P
theorem b_X1_set {d : Nat} {h : mxH} {Q : mxRes → mxH → Prop} (x0 : Nat) (x1 : Nat) (x2 : Nat) (x3 : Int32)
    (P : 1 ≤ d ∧ hpK h x0 = 1 ∧ mx_SM mY_X1_nameArgument (d - 1) [.ref x0, .ref x1, .ref x2, .int x3, .int (0 : Int32)] h (mx_KL (fun v1 h1 => hpK h1 x0 = 1 ∧ mx_SM mY_X1_nameArgument (d - 1) [.ref x0, .ref x1, .ref x2, .int x3, .int (1 : Int32)] h1 (mx_KL (fun v2 h2 => hpK h2 x1 = 7 ∧ mx_SM mY_X7_argumentsOf (d - 1) [.ref x1, .int x3] h2 (mx_KI (fun v3 h3 => ((¬ v3 = (2 : Int32) → Q (.inl (some (.int (2 : Int32)))) h3) ∧ (v3 = (2 : Int32) → ((¬ (lg_cmp v1 (1543120751558 : Int64)) = 0 → Q (.inl (some (.int (2 : Int32)))) h3) ∧ ((lg_cmp v1 (1543120751558 : Int64)) = 0 → (((lg_cmp v2 (569 : Int64)) = 0 → mx_SX mY_X1_set d 58 [(2, .ref x2), (6, .long v2)] [] h3 Q) ∧ (¬ (lg_cmp v2 (569 : Int64)) = 0 → (((lg_cmp v2 (20763 : Int64)) = 0 → mx_SX mY_X1_set d 58 [(2, .ref x2), (6, .long v2)] [] h3 Q) ∧ (¬ (lg_cmp v2 (20763 : Int64)) = 0 → Q (.inl (some (.int (2 : Int32)))) h3))))))))) (mx_XX mY_X1_set Q))) (mx_XX mY_X1_set Q))) (mx_XX mY_X1_set Q))) : mx_SM mY_X1_set d [.ref x0, .ref x1, .ref x2, .int x3] h Q := by
  refine mx_SM_of (by decide) (Nat.le_of_ble_eq_true rfl) ?_
  show mx_SX mY_X1_set d 0 [(0, .ref x0), (1, .ref x1), (2, .ref x2), (3, .int x3)] [] h Q
  refine mx_aload_n (pc := 0) 0 (mx_dd dd_X1_set 0 (0, .aload_n 0, 1) rfl) rfl rfl ?_
  refine mx_aload_n (pc := 1) 1 (mx_dd dd_X1_set 1 (1, .aload_n 1, 1) rfl) rfl rfl ?_
  refine mx_aload_n (pc := 2) 2 (mx_dd dd_X1_set 2 (2, .aload_n 2, 1) rfl) rfl rfl ?_
  refine mx_iload_n (pc := 3) 3 (mx_dd dd_X1_set 3 (3, .iload_n 3, 1) rfl) rfl rfl ?_
  refine mx_iconst (pc := 4) (v := (0 : Int32)) (mx_dd dd_X1_set 4 (4, .iconst 0, 1) rfl) (by decide) ?_
  obtain ⟨g1, P⟩ := P
  obtain ⟨g2, P⟩ := P
  refine mx_cVL (pc := 5) (Y := mY_X1_nameArgument) (As := [.ref x1, .ref x2, .int x3, .int (0 : Int32)]) mx_ml_X1_117 mx_y_X1_nameArgument rfl g2 (by decide) rfl (by decide) rfl (mx_dd dd_X1_set 5 (5, .invokevirtual 117, 3) rfl) g1 (by decide) P (fun v1 h1 P => ?_)
  refine mx_lstore (pc := 8) (mx_dd dd_X1_set 6 (8, .lstore 4, 2) rfl) (by decide) (lv' := [(4, _), (0, _), (1, _), (2, _), (3, _)]) rfl ?_
  refine mx_aload_n (pc := 10) 1 (mx_dd dd_X1_set 7 (10, .aload_n 0, 1) rfl) rfl rfl ?_
  refine mx_aload_n (pc := 11) 2 (mx_dd dd_X1_set 8 (11, .aload_n 1, 1) rfl) rfl rfl ?_
  refine mx_aload_n (pc := 12) 3 (mx_dd dd_X1_set 9 (12, .aload_n 2, 1) rfl) rfl rfl ?_
  refine mx_iload_n (pc := 13) 4 (mx_dd dd_X1_set 10 (13, .iload_n 3, 1) rfl) rfl rfl ?_
  refine mx_iconst (pc := 14) (v := (1 : Int32)) (mx_dd dd_X1_set 11 (14, .iconst 1, 1) rfl) (by decide) ?_
  obtain ⟨g3, P⟩ := P
  refine mx_cVL (pc := 15) (Y := mY_X1_nameArgument) (As := [.ref x1, .ref x2, .int x3, .int (1 : Int32)]) mx_ml_X1_117 mx_y_X1_nameArgument rfl g3 (by decide) rfl (by decide) rfl (mx_dd dd_X1_set 12 (15, .invokevirtual 117, 3) rfl) g1 (by decide) P (fun v2 h2 P => ?_)
  refine mx_lstore (pc := 18) (mx_dd dd_X1_set 13 (18, .lstore 6, 2) rfl) (by decide) (lv' := [(6, _), (4, _), (0, _), (1, _), (2, _), (3, _)]) rfl ?_
  refine mx_aload_n (pc := 20) 3 (mx_dd dd_X1_set 14 (20, .aload_n 1, 1) rfl) rfl rfl ?_
  refine mx_iload_n (pc := 21) 5 (mx_dd dd_X1_set 15 (21, .iload_n 3, 1) rfl) rfl rfl ?_
  obtain ⟨g4, P⟩ := P
  refine mx_cVI (pc := 22) (Y := mY_X7_argumentsOf) (As := [.int x3]) mx_ml_X1_110 mx_y_X7_argumentsOf rfl g4 (by decide) rfl (by decide) rfl (mx_dd dd_X1_set 16 (22, .invokevirtual 110, 3) rfl) g1 (by decide) P (fun v3 h3 P => ?_)
  refine mx_iconst (pc := 25) (v := (2 : Int32)) (mx_dd dd_X1_set 17 (25, .iconst 2, 1) rfl) (by decide) ?_
  refine mx_icmp_ne (pc := 26) 56 (mx_dd dd_X1_set 18 (26, .if_icmp .ne 30, 3) rfl) rfl (fun c26 => ?_) (fun c26 => ?_)
  · have P := P.1 c26
    refine mx_iconst (pc := 56) (v := (2 : Int32)) (mx_dd dd_X1_set 31 (56, .iconst 2, 1) rfl) (by decide) ?_
    exact mx_ireturn (pc := 57) (mx_dd dd_X1_set 32 (57, .ireturn, 1) rfl) rfl rfl P
  · have P := P.2 c26
    refine mx_lload (pc := 29) 1 (mx_dd dd_X1_set 19 (29, .lload 4, 2) rfl) rfl ?_
    refine mx_ldc2 (pc := 31) mx_cL_X1_139 (mx_dd dd_X1_set 20 (31, .ldc2_w 139, 3) rfl) ?_
    refine mx_lcmp (pc := 34) (mx_dd dd_X1_set 21 (34, .lcmp, 1) rfl) ?_
    refine mx_if_ne (pc := 35) 56 (mx_dd dd_X1_set 22 (35, .ifCond .ne 21, 3) rfl) rfl (fun c35 => ?_) (fun c35 => ?_)
    · have P := P.1 c35
      refine mx_iconst (pc := 56) (v := (2 : Int32)) (mx_dd dd_X1_set 31 (56, .iconst 2, 1) rfl) (by decide) ?_
      exact mx_ireturn (pc := 57) (mx_dd dd_X1_set 32 (57, .ireturn, 1) rfl) rfl rfl P
    · have P := P.2 c35
      refine mx_lload (pc := 38) 0 (mx_dd dd_X1_set 23 (38, .lload 6, 2) rfl) rfl ?_
      refine mx_ldc2 (pc := 40) mx_cL_X1_141 (mx_dd dd_X1_set 24 (40, .ldc2_w 141, 3) rfl) ?_
      refine mx_lcmp (pc := 43) (mx_dd dd_X1_set 25 (43, .lcmp, 1) rfl) ?_
      refine mx_if_eq (pc := 44) 58 (mx_dd dd_X1_set 26 (44, .ifCond .eq 14, 3) rfl) rfl (fun c44 => ?_) (fun c44 => ?_)
      · have P := P.1 c44
        refine mx_sel [4, 0] rfl ?_
        exact P
      · have P := P.2 c44
        refine mx_lload (pc := 47) 0 (mx_dd dd_X1_set 27 (47, .lload 6, 2) rfl) rfl ?_
        refine mx_ldc2 (pc := 49) mx_cL_X1_143 (mx_dd dd_X1_set 28 (49, .ldc2_w 143, 3) rfl) ?_
        refine mx_lcmp (pc := 52) (mx_dd dd_X1_set 29 (52, .lcmp, 1) rfl) ?_
        refine mx_if_eq (pc := 53) 58 (mx_dd dd_X1_set 30 (53, .ifCond .eq 5, 3) rfl) rfl (fun c53 => ?_) (fun c53 => ?_)
        · have P := P.1 c53
          refine mx_sel [4, 0] rfl ?_
          exact P
        · have P := P.2 c53
          refine mx_iconst (pc := 56) (v := (2 : Int32)) (mx_dd dd_X1_set 31 (56, .iconst 2, 1) rfl) (by decide) ?_
          exact mx_ireturn (pc := 57) (mx_dd dd_X1_set 32 (57, .ireturn, 1) rfl) rfl rfl P
theorem b_X1_set_58 {d : Nat} {h : mxH} {Q : mxRes → mxH → Prop} (x2 : Nat) (x6 : Int64)
    (P : ((¬ (lg_cmp x6 (569 : Int64)) = 0 → hpK h x2 = 8 ∧ ∀ h1 : mxH, h1 = hsI h x2 4 (0 : Int32) → Q (.inl (some (.int (0 : Int32)))) h1) ∧ ((lg_cmp x6 (569 : Int64)) = 0 → hpK h x2 = 8 ∧ ∀ h2 : mxH, h2 = hsI h x2 4 (1 : Int32) → Q (.inl (some (.int (0 : Int32)))) h2))) : mx_SX mY_X1_set d 58 [(2, .ref x2), (6, .long x6)] [] h Q := by
  refine mx_aload_n (pc := 58) 0 (mx_dd dd_X1_set 33 (58, .aload_n 2, 1) rfl) rfl rfl ?_
  refine mx_lload (pc := 59) 1 (mx_dd dd_X1_set 34 (59, .lload 6, 2) rfl) rfl ?_
  refine mx_ldc2 (pc := 61) mx_cL_X1_141 (mx_dd dd_X1_set 35 (61, .ldc2_w 141, 3) rfl) ?_
  refine mx_lcmp (pc := 64) (mx_dd dd_X1_set 36 (64, .lcmp, 1) rfl) ?_
  refine mx_if_ne (pc := 65) 72 (mx_dd dd_X1_set 37 (65, .ifCond .ne 7, 3) rfl) rfl (fun c65 => ?_) (fun c65 => ?_)
  · have P := P.1 c65
    refine mx_iconst (pc := 72) (v := (0 : Int32)) (mx_dd dd_X1_set 40 (72, .iconst 0, 1) rfl) (by decide) ?_
    obtain ⟨g1, P⟩ := P
    refine mx_putI (pc := 73) mx_fl_X1_145 g1 rfl (.inl rfl) rfl rfl (mx_dd dd_X1_set 41 (73, .putfield 145, 3) rfl) ?_
    have P := P _ rfl
    refine mx_iconst (pc := 76) (v := (0 : Int32)) (mx_dd dd_X1_set 42 (76, .iconst 0, 1) rfl) (by decide) ?_
    exact mx_ireturn (pc := 77) (mx_dd dd_X1_set 43 (77, .ireturn, 1) rfl) rfl rfl P
  · have P := P.2 c65
    refine mx_iconst (pc := 68) (v := (1 : Int32)) (mx_dd dd_X1_set 38 (68, .iconst 1, 1) rfl) (by decide) ?_
    refine mx_goto (pc := 69) 73 (mx_dd dd_X1_set 39 (69, .goto 4, 3) rfl) rfl ?_
    obtain ⟨g2, P⟩ := P
    refine mx_putI (pc := 73) mx_fl_X1_145 g2 rfl (.inl rfl) rfl rfl (mx_dd dd_X1_set 41 (73, .putfield 145, 3) rfl) ?_
    have P := P _ rfl
    refine mx_iconst (pc := 76) (v := (0 : Int32)) (mx_dd dd_X1_set 42 (76, .iconst 0, 1) rfl) (by decide) ?_
    exact mx_ireturn (pc := 77) (mx_dd dd_X1_set 43 (77, .ireturn, 1) rfl) rfl rfl P
theorem b_X1_readLine {d : Nat} {h : mxH} {Q : mxRes → mxH → Prop} (x0 : Nat) (x1 : Nat)
    (P : hpK h x1 = 8 ∧ ∃ b1 : Nat, hpR h x1 3 = some b1 ∧ 1 ≤ d ∧ hpK h b1 = 2 ∧ mx_SM mY_X2_at (d - 1) [.ref b1, .int (0 : Int32)] h (mx_KR (fun v1 h1 => ((v1 = none → Q (.inl (some (.int (-2 : Int32)))) h1) ∧ (∀ b2 : Nat, v1 = some b2 → hpK h1 b2 = 5 ∧ (((hpI h1 b2 0).toInt < 1 ∨ 5 < (hpI h1 b2 0).toInt → mx_SX mY_X1_readLine d 133 [] [] h1 Q) ∧ ((hpI h1 b2 0).toInt = 1 → mx_SX mY_X1_readLine d 56 [(0, .ref x0), (1, .ref x1)] [] h1 Q) ∧ ((hpI h1 b2 0).toInt = 2 → mx_SX mY_X1_readLine d 79 [(0, .ref x0), (2, va_rf v1)] [] h1 Q) ∧ ((hpI h1 b2 0).toInt = 3 → mx_SX mY_X1_readLine d 133 [] [] h1 Q) ∧ ((hpI h1 b2 0).toInt = 4 → mx_SX mY_X1_readLine d 133 [] [] h1 Q) ∧ ((hpI h1 b2 0).toInt = 5 → mx_SX mY_X1_readLine d 118 [(0, .ref x0), (2, va_rf v1)] [] h1 Q))))) (mx_XX mY_X1_readLine Q))) : mx_SM mY_X1_readLine d [.ref x0, .ref x1] h Q := by
  refine mx_SM_of (by decide) (Nat.le_of_ble_eq_true rfl) ?_
  show mx_SX mY_X1_readLine d 0 [(0, .ref x0), (1, .ref x1)] [] h Q
  refine mx_aload_n (pc := 0) 1 (mx_dd dd_X1_readLine 0 (0, .aload_n 1, 1) rfl) rfl rfl ?_
  obtain ⟨g1, P⟩ := P
  obtain ⟨b1, g2, P⟩ := P
  refine mx_getR (pc := 1) mx_fl_X1_149 g1 rfl g2 (mx_dd dd_X1_readLine 1 (1, .getfield 149, 3) rfl) ?_
  refine mx_iconst (pc := 4) (v := (0 : Int32)) (mx_dd dd_X1_readLine 2 (4, .iconst 0, 1) rfl) (by decide) ?_
  obtain ⟨g3, P⟩ := P
  obtain ⟨g4, P⟩ := P
  refine mx_cVR (pc := 5) (Y := mY_X2_at) (As := [.int (0 : Int32)]) mx_ml_X1_153 mx_y_X2_at rfl g4 (by decide) rfl (by decide) rfl (mx_dd dd_X1_readLine 3 (5, .invokevirtual 153, 3) rfl) g3 (by decide) P (fun v1 h1 P => ?_)
  refine mx_astore_nO (pc := 8) (mx_dd dd_X1_readLine 4 (8, .astore_n 2, 1) rfl) rfl (by decide) (lv' := [(2, _), (0, _), (1, _)]) rfl ?_
  refine mx_aload_nO (pc := 9) 0 (mx_dd dd_X1_readLine 5 (9, .aload_n 2, 1) rfl) rfl rfl ?_
  refine mx_ifnonnullO (pc := 10) 16 (mx_dd dd_X1_readLine 6 (10, .ifnonnull 6, 3) rfl) rfl (fun b2 g5 => ?_) (fun c10 => ?_)
  · have P := P.2 b2 g5
    refine mx_aload_nO (pc := 16) 0 (mx_dd dd_X1_readLine 9 (16, .aload_n 2, 1) rfl) rfl rfl ?_
    refine mx_deref0 g5 ?_
    obtain ⟨g6, P⟩ := P
    refine mx_getI (pc := 17) mx_fl_X1_159 g6 rfl (mx_dd dd_X1_readLine 10 (17, .getfield 159, 3) rfl) ?_
    refine mx_tsw (pc := 20) 133 (mx_dd dd_X1_readLine 11 (20, .tableswitch 113 1 5 #[36, 59, 113, 113, 98], 36) rfl) rfl [56, 79, 133, 133, 118] rfl rfl (fun c20 => ?_) ?_
    · have P := P.1 c20
      refine mx_sel [] rfl ?_
      exact P
    · intro j t hj hx
      have hj9 : j < 5 := (List.getElem?_eq_some_iff.mp hj).1
      have hj8 : j = 0 ∨ j = 1 ∨ j = 2 ∨ j = 3 ∨ j = 4 := by omega
      rcases hj8 with rfl | rfl | rfl | rfl | rfl
      · cases hj
        have P := P.2.1 (by omega)
        refine mx_sel [1, 2] rfl ?_
        exact P
      · cases hj
        have P := P.2.2.1 (by omega)
        refine mx_sel [1, 0] rfl ?_
        exact P
      · cases hj
        have P := P.2.2.2.1 (by omega)
        refine mx_sel [] rfl ?_
        exact P
      · cases hj
        have P := P.2.2.2.2.1 (by omega)
        refine mx_sel [] rfl ?_
        exact P
      · cases hj
        have P := P.2.2.2.2.2 (by omega)
        refine mx_sel [1, 0] rfl ?_
        exact P
  · have P := P.1 c10
    refine mx_bipush (pc := 13) (v := (-2 : Int32)) (mx_dd dd_X1_readLine 7 (13, .bipush (-2), 2) rfl) (by decide) ?_
    exact mx_ireturn (pc := 15) (mx_dd dd_X1_readLine 8 (15, .ireturn, 1) rfl) rfl rfl P
theorem b_X1_readLine_56 {d : Nat} {h : mxH} {Q : mxRes → mxH → Prop} (x0 : Nat) (x1 : Nat)
    (P : hpK h x1 = 8 ∧ (((hpI h x1 5) = 0 → hpK h x0 = 1 ∧ ∃ b1 : Nat, hpR h x0 0 = some b1 ∧ 1 ≤ d ∧ hpK h b1 = 10 ∧ mx_SM mY_X10_takeInput (d - 1) [.ref b1] h (mx_KI (fun v1 h1 => mx_SM mY_X1_lineOrEnd (d - 1) [.int v1] h1 (mx_KI (fun v2 h2 => Q (.inl (some (.int v2))) h2) (mx_XX mY_X1_readLine Q))) (mx_XX mY_X1_readLine Q))) ∧ (¬ (hpI h x1 5) = 0 → Q (.inl (some (.int (-3 : Int32)))) h))) : mx_SX mY_X1_readLine d 56 [(0, .ref x0), (1, .ref x1)] [] h Q := by
  refine mx_aload_n (pc := 56) 1 (mx_dd dd_X1_readLine 12 (56, .aload_n 1, 1) rfl) rfl rfl ?_
  obtain ⟨g1, P⟩ := P
  refine mx_getI (pc := 57) mx_fl_X1_164 g1 rfl (mx_dd dd_X1_readLine 13 (57, .getfield 164, 3) rfl) ?_
  refine mx_if_eq (pc := 60) 68 (mx_dd dd_X1_readLine 14 (60, .ifCond .eq 8, 3) rfl) rfl (fun c60 => ?_) (fun c60 => ?_)
  · have P := P.1 c60
    refine mx_aload_n (pc := 68) 0 (mx_dd dd_X1_readLine 17 (68, .aload_n 0, 1) rfl) rfl rfl ?_
    obtain ⟨g2, P⟩ := P
    obtain ⟨b1, g3, P⟩ := P
    refine mx_getR (pc := 69) mx_fl_X1_9 g2 rfl g3 (mx_dd dd_X1_readLine 18 (69, .getfield 9, 3) rfl) ?_
    obtain ⟨g4, P⟩ := P
    obtain ⟨g5, P⟩ := P
    refine mx_cVI (pc := 72) (Y := mY_X10_takeInput) (As := []) mx_ml_X1_167 mx_y_X10_takeInput rfl g5 (by decide) rfl (by decide) rfl (mx_dd dd_X1_readLine 19 (72, .invokevirtual 167, 3) rfl) g4 (by decide) P (fun v1 h1 P => ?_)
    refine mx_cSI (pc := 75) (Y := mY_X1_lineOrEnd) (As := [.int v1]) mx_ml_X1_173 mx_y_X1_lineOrEnd rfl rfl (by decide) rfl (mx_dd dd_X1_readLine 20 (75, .invokestatic 173, 3) rfl) g4 (by decide) P (fun v2 h2 P => ?_)
    exact mx_ireturn (pc := 78) (mx_dd dd_X1_readLine 21 (78, .ireturn, 1) rfl) rfl rfl P
  · have P := P.2 c60
    refine mx_bipush (pc := 63) (v := (-3 : Int32)) (mx_dd dd_X1_readLine 15 (63, .bipush (-3), 2) rfl) (by decide) ?_
    refine mx_goto (pc := 65) 78 (mx_dd dd_X1_readLine 16 (65, .goto 13, 3) rfl) rfl ?_
    exact mx_ireturn (pc := 78) (mx_dd dd_X1_readLine 21 (78, .ireturn, 1) rfl) rfl rfl P
theorem b_X1_readLine_79 {d : Nat} {h : mxH} {Q : mxRes → mxH → Prop} (x0 : Nat) (x2 : Option Nat)
    (P : hpK h x0 = 1 ∧ ∃ b1 : Nat, hpR h x0 0 = some b1 ∧ ∃ b2 : Nat, x2 = some b2 ∧ hpK h b2 = 5 ∧ 1 ≤ d ∧ hpK h b1 = 10 ∧ mx_SM mY_X10_lineAt (d - 1) [.ref b1, .int (hpI h b2 1), .int (hpI h b2 3)] h (mx_KI (fun v1 h1 => hpK h1 b2 = 5 ∧ ((0 ≤ v1 → ∀ h2 : mxH, h2 = hsI h1 b2 3 ((hpI h1 b2 3) + (1 : Int32)) → mx_SM mY_X1_lineOrEnd (d - 1) [.int v1] h2 (mx_KI (fun v2 h3 => Q (.inl (some (.int v2))) h3) (mx_XX mY_X1_readLine Q))) ∧ (¬ 0 ≤ v1 → ∀ h4 : mxH, h4 = hsI h1 b2 3 ((hpI h1 b2 3) + (0 : Int32)) → mx_SM mY_X1_lineOrEnd (d - 1) [.int v1] h4 (mx_KI (fun v3 h5 => Q (.inl (some (.int v3))) h5) (mx_XX mY_X1_readLine Q))))) (mx_XX mY_X1_readLine Q))) : mx_SX mY_X1_readLine d 79 [(0, .ref x0), (2, va_rf x2)] [] h Q := by
  refine mx_aload_n (pc := 79) 0 (mx_dd dd_X1_readLine 22 (79, .aload_n 0, 1) rfl) rfl rfl ?_
  obtain ⟨g1, P⟩ := P
  obtain ⟨b1, g2, P⟩ := P
  refine mx_getR (pc := 80) mx_fl_X1_9 g1 rfl g2 (mx_dd dd_X1_readLine 23 (80, .getfield 9, 3) rfl) ?_
  refine mx_aload_nO (pc := 83) 1 (mx_dd dd_X1_readLine 24 (83, .aload_n 2, 1) rfl) rfl rfl ?_
  obtain ⟨b2, g3, P⟩ := P
  refine mx_deref0 g3 ?_
  obtain ⟨g4, P⟩ := P
  refine mx_getI (pc := 84) mx_fl_X1_176 g4 rfl (mx_dd dd_X1_readLine 25 (84, .getfield 176, 3) rfl) ?_
  refine mx_aload_nO (pc := 87) 1 (mx_dd dd_X1_readLine 26 (87, .aload_n 2, 1) rfl) rfl rfl ?_
  refine mx_deref0 g3 ?_
  refine mx_getI (pc := 88) mx_fl_X1_179 g4 rfl (mx_dd dd_X1_readLine 27 (88, .getfield 179, 3) rfl) ?_
  obtain ⟨g5, P⟩ := P
  obtain ⟨g6, P⟩ := P
  refine mx_cVI (pc := 91) (Y := mY_X10_lineAt) (As := [.int (hpI h b2 1), .int (hpI h b2 3)]) mx_ml_X1_182 mx_y_X10_lineAt rfl g6 (by decide) rfl (by decide) rfl (mx_dd dd_X1_readLine 28 (91, .invokevirtual 182, 3) rfl) g5 (by decide) P (fun v1 h1 P => ?_)
  refine mx_istore_n (pc := 94) (mx_dd dd_X1_readLine 29 (94, .istore_n 3, 1) rfl) rfl (by decide) rfl ?_
  refine mx_stoK [0, 1] (lv2 := [(0, _), (2, _)]) rfl ⟨⟨rfl, .inl rfl⟩, ⟨⟨rfl, .inr mx_catO⟩, trivial⟩⟩ ?_
  refine mx_aload_nO (pc := 95) 2 (mx_dd dd_X1_readLine 30 (95, .aload_n 2, 1) rfl) rfl rfl ?_
  refine mx_dupO (pc := 96) (mx_dd dd_X1_readLine 31 (96, .dup, 1) rfl) ?_
  refine mx_deref0 g3 ?_
  obtain ⟨g7, P⟩ := P
  refine mx_getI (pc := 97) mx_fl_X1_179 g7 rfl (mx_dd dd_X1_readLine 32 (97, .getfield 179, 3) rfl) ?_
  refine mx_iload_n (pc := 100) 0 (mx_dd dd_X1_readLine 33 (100, .iload_n 3, 1) rfl) rfl rfl ?_
  refine mx_if_ge (pc := 101) 108 (mx_dd dd_X1_readLine 34 (101, .ifCond .ge 7, 3) rfl) rfl (fun c101 => ?_) (fun c101 => ?_)
  · have P := P.1 c101
    refine mx_iconst (pc := 108) (v := (1 : Int32)) (mx_dd dd_X1_readLine 37 (108, .iconst 1, 1) rfl) (by decide) ?_
    refine mx_iadd (pc := 109) (mx_dd dd_X1_readLine 38 (109, .iadd, 1) rfl) ?_
    refine mx_deref1 g3 ?_
    refine mx_putI (pc := 110) mx_fl_X1_179 g7 rfl (.inl rfl) rfl rfl (mx_dd dd_X1_readLine 39 (110, .putfield 179, 3) rfl) ?_
    have P := P _ rfl
    refine mx_iload_n (pc := 113) 0 (mx_dd dd_X1_readLine 40 (113, .iload_n 3, 1) rfl) rfl rfl ?_
    refine mx_cSI (pc := 114) (Y := mY_X1_lineOrEnd) (As := [.int v1]) mx_ml_X1_173 mx_y_X1_lineOrEnd rfl rfl (by decide) rfl (mx_dd dd_X1_readLine 41 (114, .invokestatic 173, 3) rfl) g5 (by decide) P (fun v2 h3 P => ?_)
    exact mx_ireturn (pc := 117) (mx_dd dd_X1_readLine 42 (117, .ireturn, 1) rfl) rfl rfl P
  · have P := P.2 c101
    refine mx_iconst (pc := 104) (v := (0 : Int32)) (mx_dd dd_X1_readLine 35 (104, .iconst 0, 1) rfl) (by decide) ?_
    refine mx_goto (pc := 105) 109 (mx_dd dd_X1_readLine 36 (105, .goto 4, 3) rfl) rfl ?_
    refine mx_iadd (pc := 109) (mx_dd dd_X1_readLine 38 (109, .iadd, 1) rfl) ?_
    refine mx_deref1 g3 ?_
    refine mx_putI (pc := 110) mx_fl_X1_179 g7 rfl (.inl rfl) rfl rfl (mx_dd dd_X1_readLine 39 (110, .putfield 179, 3) rfl) ?_
    have P := P _ rfl
    refine mx_iload_n (pc := 113) 0 (mx_dd dd_X1_readLine 40 (113, .iload_n 3, 1) rfl) rfl rfl ?_
    refine mx_cSI (pc := 114) (Y := mY_X1_lineOrEnd) (As := [.int v1]) mx_ml_X1_173 mx_y_X1_lineOrEnd rfl rfl (by decide) rfl (mx_dd dd_X1_readLine 41 (114, .invokestatic 173, 3) rfl) g5 (by decide) P (fun v3 h5 P => ?_)
    exact mx_ireturn (pc := 117) (mx_dd dd_X1_readLine 42 (117, .ireturn, 1) rfl) rfl rfl P
theorem b_X1_readLine_118 {d : Nat} {h : mxH} {Q : mxRes → mxH → Prop} (x0 : Nat) (x2 : Option Nat)
    (P : hpK h x0 = 1 ∧ ∃ b1 : Nat, hpR h x0 1 = some b1 ∧ ∃ b2 : Nat, x2 = some b2 ∧ hpK h b2 = 5 ∧ 1 ≤ d ∧ hpK h b1 = 0 ∧ mx_SM mY_X0_takeFrom (d - 1) [.ref b1, .int (hpI h b2 2)] h (mx_KI (fun v1 h1 => mx_SM mY_X1_lineOrEnd (d - 1) [.int v1] h1 (mx_KI (fun v2 h2 => Q (.inl (some (.int v2))) h2) (mx_XX mY_X1_readLine Q))) (mx_XX mY_X1_readLine Q))) : mx_SX mY_X1_readLine d 118 [(0, .ref x0), (2, va_rf x2)] [] h Q := by
  refine mx_aload_n (pc := 118) 0 (mx_dd dd_X1_readLine 43 (118, .aload_n 0, 1) rfl) rfl rfl ?_
  obtain ⟨g1, P⟩ := P
  obtain ⟨b1, g2, P⟩ := P
  refine mx_getR (pc := 119) mx_fl_X1_15 g1 rfl g2 (mx_dd dd_X1_readLine 44 (119, .getfield 15, 3) rfl) ?_
  refine mx_aload_nO (pc := 122) 1 (mx_dd dd_X1_readLine 45 (122, .aload_n 2, 1) rfl) rfl rfl ?_
  obtain ⟨b2, g3, P⟩ := P
  refine mx_deref0 g3 ?_
  obtain ⟨g4, P⟩ := P
  refine mx_getI (pc := 123) mx_fl_X1_185 g4 rfl (mx_dd dd_X1_readLine 46 (123, .getfield 185, 3) rfl) ?_
  obtain ⟨g5, P⟩ := P
  obtain ⟨g6, P⟩ := P
  refine mx_cVI (pc := 126) (Y := mY_X0_takeFrom) (As := [.int (hpI h b2 2)]) mx_ml_X1_188 mx_y_X0_takeFrom rfl g6 (by decide) rfl (by decide) rfl (mx_dd dd_X1_readLine 47 (126, .invokevirtual 188, 3) rfl) g5 (by decide) P (fun v1 h1 P => ?_)
  refine mx_cSI (pc := 129) (Y := mY_X1_lineOrEnd) (As := [.int v1]) mx_ml_X1_173 mx_y_X1_lineOrEnd rfl rfl (by decide) rfl (mx_dd dd_X1_readLine 48 (129, .invokestatic 173, 3) rfl) g5 (by decide) P (fun v2 h2 P => ?_)
  exact mx_ireturn (pc := 132) (mx_dd dd_X1_readLine 49 (132, .ireturn, 1) rfl) rfl rfl P
theorem b_X1_readLine_133 {d : Nat} {h : mxH} {Q : mxRes → mxH → Prop} 
    (P : Q (.inl (some (.int (-2 : Int32)))) h) : mx_SX mY_X1_readLine d 133 [] [] h Q := by
  refine mx_bipush (pc := 133) (v := (-2 : Int32)) (mx_dd dd_X1_readLine 50 (133, .bipush (-2), 2) rfl) (by decide) ?_
  exact mx_ireturn (pc := 135) (mx_dd dd_X1_readLine 51 (135, .ireturn, 1) rfl) rfl rfl P
theorem b_X1_lineOrEnd {d : Nat} {h : mxH} {Q : mxRes → mxH → Prop} (x0 : Int32)
    (P : ((0 ≤ x0 → Q (.inl (some (.int x0))) h) ∧ (¬ 0 ≤ x0 → Q (.inl (some (.int (-1 : Int32)))) h))) : mx_SM mY_X1_lineOrEnd d [.int x0] h Q := by
  refine mx_SM_of (by decide) (Nat.le_of_ble_eq_true rfl) ?_
  show mx_SX mY_X1_lineOrEnd d 0 [(0, .int x0)] [] h Q
  refine mx_iload_n (pc := 0) 0 (mx_dd dd_X1_lineOrEnd 0 (0, .iload_n 0, 1) rfl) rfl rfl ?_
  refine mx_if_ge (pc := 1) 8 (mx_dd dd_X1_lineOrEnd 1 (1, .ifCond .ge 7, 3) rfl) rfl (fun c1 => ?_) (fun c1 => ?_)
  · have P := P.1 c1
    refine mx_iload_n (pc := 8) 0 (mx_dd dd_X1_lineOrEnd 4 (8, .iload_n 0, 1) rfl) rfl rfl ?_
    exact mx_ireturn (pc := 9) (mx_dd dd_X1_lineOrEnd 5 (9, .ireturn, 1) rfl) rfl rfl P
  · have P := P.2 c1
    refine mx_iconst (pc := 4) (v := (-1 : Int32)) (mx_dd dd_X1_lineOrEnd 2 (4, .iconst (-1), 1) rfl) (by decide) ?_
    refine mx_goto (pc := 5) 9 (mx_dd dd_X1_lineOrEnd 3 (5, .goto 4, 3) rfl) rfl ?_
    exact mx_ireturn (pc := 9) (mx_dd dd_X1_lineOrEnd 5 (9, .ireturn, 1) rfl) rfl rfl P
theorem b_X1_writeLine {d : Nat} {h : mxH} {Q : mxRes → mxH → Prop} (x0 : Nat) (x1 : Nat) (x2 : Int32)
    (P : hpK h x1 = 8 ∧ ∃ b1 : Nat, hpR h x1 3 = some b1 ∧ 1 ≤ d ∧ hpK h b1 = 2 ∧ mx_SM mY_X2_at (d - 1) [.ref b1, .int (1 : Int32)] h (mx_KR (fun v1 h1 => ((v1 = none → Q (.inl (some (.int (0 : Int32)))) h1) ∧ (∀ b2 : Nat, v1 = some b2 → hpK h1 b2 = 5 ∧ (((hpI h1 b2 0).toInt < 1 ∨ 6 < (hpI h1 b2 0).toInt → mx_SX mY_X1_writeLine d 142 [] [] h1 Q) ∧ ((hpI h1 b2 0).toInt = 1 → mx_SX mY_X1_writeLine d 56 [(0, .ref x0), (2, .int x2)] [] h1 Q) ∧ ((hpI h1 b2 0).toInt = 2 → mx_SX mY_X1_writeLine d 142 [] [] h1 Q) ∧ ((hpI h1 b2 0).toInt = 3 → mx_SX mY_X1_writeLine d 65 [(0, .ref x0), (2, .int x2), (3, va_rf v1)] [] h1 Q) ∧ ((hpI h1 b2 0).toInt = 4 → mx_SX mY_X1_writeLine d 105 [(0, .ref x0), (2, .int x2), (3, va_rf v1)] [] h1 Q) ∧ ((hpI h1 b2 0).toInt = 5 → mx_SX mY_X1_writeLine d 142 [] [] h1 Q) ∧ ((hpI h1 b2 0).toInt = 6 → mx_SX mY_X1_writeLine d 129 [(0, .ref x0), (2, .int x2), (3, va_rf v1)] [] h1 Q))))) (mx_XX mY_X1_writeLine Q))) : mx_SM mY_X1_writeLine d [.ref x0, .ref x1, .int x2] h Q := by
  refine mx_SM_of (by decide) (Nat.le_of_ble_eq_true rfl) ?_
  show mx_SX mY_X1_writeLine d 0 [(0, .ref x0), (1, .ref x1), (2, .int x2)] [] h Q
  refine mx_aload_n (pc := 0) 1 (mx_dd dd_X1_writeLine 0 (0, .aload_n 1, 1) rfl) rfl rfl ?_
  obtain ⟨g1, P⟩ := P
  obtain ⟨b1, g2, P⟩ := P
  refine mx_getR (pc := 1) mx_fl_X1_149 g1 rfl g2 (mx_dd dd_X1_writeLine 1 (1, .getfield 149, 3) rfl) ?_
  refine mx_iconst (pc := 4) (v := (1 : Int32)) (mx_dd dd_X1_writeLine 2 (4, .iconst 1, 1) rfl) (by decide) ?_
  obtain ⟨g3, P⟩ := P
  obtain ⟨g4, P⟩ := P
  refine mx_cVR (pc := 5) (Y := mY_X2_at) (As := [.int (1 : Int32)]) mx_ml_X1_153 mx_y_X2_at rfl g4 (by decide) rfl (by decide) rfl (mx_dd dd_X1_writeLine 3 (5, .invokevirtual 153, 3) rfl) g3 (by decide) P (fun v1 h1 P => ?_)
  refine mx_astore_nO (pc := 8) (mx_dd dd_X1_writeLine 4 (8, .astore_n 3, 1) rfl) rfl (by decide) (lv' := [(3, _), (0, _), (1, _), (2, _)]) rfl ?_
  refine mx_aload_nO (pc := 9) 0 (mx_dd dd_X1_writeLine 5 (9, .aload_n 3, 1) rfl) rfl rfl ?_
  refine mx_ifnonnullO (pc := 10) 15 (mx_dd dd_X1_writeLine 6 (10, .ifnonnull 5, 3) rfl) rfl (fun b2 g5 => ?_) (fun c10 => ?_)
  · have P := P.2 b2 g5
    refine mx_aload_nO (pc := 15) 0 (mx_dd dd_X1_writeLine 9 (15, .aload_n 3, 1) rfl) rfl rfl ?_
    refine mx_deref0 g5 ?_
    obtain ⟨g6, P⟩ := P
    refine mx_getI (pc := 16) mx_fl_X1_159 g6 rfl (mx_dd dd_X1_writeLine 10 (16, .getfield 159, 3) rfl) ?_
    refine mx_tsw (pc := 19) 142 (mx_dd dd_X1_writeLine 11 (19, .tableswitch 123 1 6 #[37, 123, 46, 86, 123, 110], 37) rfl) rfl [56, 142, 65, 105, 142, 129] rfl rfl (fun c19 => ?_) ?_
    · have P := P.1 c19
      refine mx_sel [] rfl ?_
      exact P
    · intro j t hj hx
      have hj9 : j < 6 := (List.getElem?_eq_some_iff.mp hj).1
      have hj8 : j = 0 ∨ j = 1 ∨ j = 2 ∨ j = 3 ∨ j = 4 ∨ j = 5 := by omega
      rcases hj8 with rfl | rfl | rfl | rfl | rfl | rfl
      · cases hj
        have P := P.2.1 (by omega)
        refine mx_sel [1, 3] rfl ?_
        exact P
      · cases hj
        have P := P.2.2.1 (by omega)
        refine mx_sel [] rfl ?_
        exact P
      · cases hj
        have P := P.2.2.2.1 (by omega)
        refine mx_sel [1, 3, 0] rfl ?_
        exact P
      · cases hj
        have P := P.2.2.2.2.1 (by omega)
        refine mx_sel [1, 3, 0] rfl ?_
        exact P
      · cases hj
        have P := P.2.2.2.2.2.1 (by omega)
        refine mx_sel [] rfl ?_
        exact P
      · cases hj
        have P := P.2.2.2.2.2.2 (by omega)
        refine mx_sel [1, 3, 0] rfl ?_
        exact P
  · have P := P.1 c10
    refine mx_iconst (pc := 13) (v := (0 : Int32)) (mx_dd dd_X1_writeLine 7 (13, .iconst 0, 1) rfl) (by decide) ?_
    exact mx_ireturn (pc := 14) (mx_dd dd_X1_writeLine 8 (14, .ireturn, 1) rfl) rfl rfl P
theorem b_X1_writeLine_56 {d : Nat} {h : mxH} {Q : mxRes → mxH → Prop} (x0 : Nat) (x2 : Int32)
    (P : hpK h x0 = 1 ∧ ∃ b1 : Nat, hpR h x0 0 = some b1 ∧ 1 ≤ d ∧ hpK h b1 = 10 ∧ mx_SM mY_X10_addOutput (d - 1) [.ref b1, .int x2] h (mx_KI (fun v1 h1 => (v1 = 0 ∨ v1 = 1) ∧ Q (.inl (some (.int v1))) h1) (mx_XX mY_X1_writeLine Q))) : mx_SX mY_X1_writeLine d 56 [(0, .ref x0), (2, .int x2)] [] h Q := by
  refine mx_aload_n (pc := 56) 0 (mx_dd dd_X1_writeLine 12 (56, .aload_n 0, 1) rfl) rfl rfl ?_
  obtain ⟨g1, P⟩ := P
  obtain ⟨b1, g2, P⟩ := P
  refine mx_getR (pc := 57) mx_fl_X1_9 g1 rfl g2 (mx_dd dd_X1_writeLine 13 (57, .getfield 9, 3) rfl) ?_
  refine mx_iload_n (pc := 60) 1 (mx_dd dd_X1_writeLine 14 (60, .iload_n 2, 1) rfl) rfl rfl ?_
  obtain ⟨g3, P⟩ := P
  obtain ⟨g4, P⟩ := P
  refine mx_cVI (pc := 61) (Y := mY_X10_addOutput) (As := [.int x2]) mx_ml_X1_191 mx_y_X10_addOutput rfl g4 (by decide) rfl (by decide) rfl (mx_dd dd_X1_writeLine 15 (61, .invokevirtual 191, 3) rfl) g3 (by decide) P (fun v1 h1 P => ?_)
  obtain ⟨g5, P⟩ := P
  exact mx_ireturn (pc := 64) (mx_dd dd_X1_writeLine 16 (64, .ireturn, 1) rfl) rfl (mx_nb g5).1 P
theorem b_X1_writeLine_65 {d : Nat} {h : mxH} {Q : mxRes → mxH → Prop} (x0 : Nat) (x2 : Int32) (x3 : Option Nat)
    (P : hpK h x0 = 1 ∧ ∃ b1 : Nat, hpR h x0 0 = some b1 ∧ ∃ b2 : Nat, x3 = some b2 ∧ hpK h b2 = 5 ∧ 1 ≤ d ∧ hpK h b1 = 10 ∧ mx_SM mY_X10_putLine (d - 1) [.ref b1, .int (hpI h b2 1), .int (hpI h b2 3), .int x2] h (mx_KI (fun v1 h1 => hpK h1 b2 = 5 ∧ ((v1 = 0 → ∀ h2 : mxH, h2 = hsI h1 b2 3 ((hpI h1 b2 3) + (0 : Int32)) → (v1 = 0 ∨ v1 = 1) ∧ Q (.inl (some (.int v1))) h2) ∧ (¬ v1 = 0 → ∀ h3 : mxH, h3 = hsI h1 b2 3 ((hpI h1 b2 3) + (1 : Int32)) → (v1 = 0 ∨ v1 = 1) ∧ Q (.inl (some (.int v1))) h3))) (mx_XX mY_X1_writeLine Q))) : mx_SX mY_X1_writeLine d 65 [(0, .ref x0), (2, .int x2), (3, va_rf x3)] [] h Q := by
  refine mx_aload_n (pc := 65) 0 (mx_dd dd_X1_writeLine 17 (65, .aload_n 0, 1) rfl) rfl rfl ?_
  obtain ⟨g1, P⟩ := P
  obtain ⟨b1, g2, P⟩ := P
  refine mx_getR (pc := 66) mx_fl_X1_9 g1 rfl g2 (mx_dd dd_X1_writeLine 18 (66, .getfield 9, 3) rfl) ?_
  refine mx_aload_nO (pc := 69) 2 (mx_dd dd_X1_writeLine 19 (69, .aload_n 3, 1) rfl) rfl rfl ?_
  obtain ⟨b2, g3, P⟩ := P
  refine mx_deref0 g3 ?_
  obtain ⟨g4, P⟩ := P
  refine mx_getI (pc := 70) mx_fl_X1_176 g4 rfl (mx_dd dd_X1_writeLine 20 (70, .getfield 176, 3) rfl) ?_
  refine mx_aload_nO (pc := 73) 2 (mx_dd dd_X1_writeLine 21 (73, .aload_n 3, 1) rfl) rfl rfl ?_
  refine mx_deref0 g3 ?_
  refine mx_getI (pc := 74) mx_fl_X1_179 g4 rfl (mx_dd dd_X1_writeLine 22 (74, .getfield 179, 3) rfl) ?_
  refine mx_iload_n (pc := 77) 1 (mx_dd dd_X1_writeLine 23 (77, .iload_n 2, 1) rfl) rfl rfl ?_
  obtain ⟨g5, P⟩ := P
  obtain ⟨g6, P⟩ := P
  refine mx_cVI (pc := 78) (Y := mY_X10_putLine) (As := [.int (hpI h b2 1), .int (hpI h b2 3), .int x2]) mx_ml_X1_195 mx_y_X10_putLine rfl g6 (by decide) rfl (by decide) rfl (mx_dd dd_X1_writeLine 24 (78, .invokevirtual 195, 3) rfl) g5 (by decide) P (fun v1 h1 P => ?_)
  refine mx_istore (pc := 81) (mx_dd dd_X1_writeLine 25 (81, .istore 4, 2) rfl) (by decide) rfl ?_
  refine mx_stoK [0, 1, 2] (lv2 := [(0, _), (2, _), (3, _)]) rfl ⟨⟨rfl, .inl rfl⟩, ⟨⟨rfl, .inl rfl⟩, ⟨⟨rfl, .inr mx_catO⟩, trivial⟩⟩⟩ ?_
  refine mx_aload_nO (pc := 83) 3 (mx_dd dd_X1_writeLine 26 (83, .aload_n 3, 1) rfl) rfl rfl ?_
  refine mx_dupO (pc := 84) (mx_dd dd_X1_writeLine 27 (84, .dup, 1) rfl) ?_
  refine mx_deref0 g3 ?_
  obtain ⟨g7, P⟩ := P
  refine mx_getI (pc := 85) mx_fl_X1_179 g7 rfl (mx_dd dd_X1_writeLine 28 (85, .getfield 179, 3) rfl) ?_
  refine mx_iload (pc := 88) 0 (mx_dd dd_X1_writeLine 29 (88, .iload 4, 2) rfl) rfl ?_
  refine mx_if_eq (pc := 90) 97 (mx_dd dd_X1_writeLine 30 (90, .ifCond .eq 7, 3) rfl) rfl (fun c90 => ?_) (fun c90 => ?_)
  · have P := P.1 c90
    refine mx_iconst (pc := 97) (v := (0 : Int32)) (mx_dd dd_X1_writeLine 33 (97, .iconst 0, 1) rfl) (by decide) ?_
    refine mx_iadd (pc := 98) (mx_dd dd_X1_writeLine 34 (98, .iadd, 1) rfl) ?_
    refine mx_deref1 g3 ?_
    refine mx_putI (pc := 99) mx_fl_X1_179 g7 rfl (.inl rfl) rfl rfl (mx_dd dd_X1_writeLine 35 (99, .putfield 179, 3) rfl) ?_
    have P := P _ rfl
    refine mx_iload (pc := 102) 0 (mx_dd dd_X1_writeLine 36 (102, .iload 4, 2) rfl) rfl ?_
    obtain ⟨g8, P⟩ := P
    exact mx_ireturn (pc := 104) (mx_dd dd_X1_writeLine 37 (104, .ireturn, 1) rfl) rfl (mx_nb g8).1 P
  · have P := P.2 c90
    refine mx_iconst (pc := 93) (v := (1 : Int32)) (mx_dd dd_X1_writeLine 31 (93, .iconst 1, 1) rfl) (by decide) ?_
    refine mx_goto (pc := 94) 98 (mx_dd dd_X1_writeLine 32 (94, .goto 4, 3) rfl) rfl ?_
    refine mx_iadd (pc := 98) (mx_dd dd_X1_writeLine 34 (98, .iadd, 1) rfl) ?_
    refine mx_deref1 g3 ?_
    refine mx_putI (pc := 99) mx_fl_X1_179 g7 rfl (.inl rfl) rfl rfl (mx_dd dd_X1_writeLine 35 (99, .putfield 179, 3) rfl) ?_
    have P := P _ rfl
    refine mx_iload (pc := 102) 0 (mx_dd dd_X1_writeLine 36 (102, .iload 4, 2) rfl) rfl ?_
    obtain ⟨g9, P⟩ := P
    exact mx_ireturn (pc := 104) (mx_dd dd_X1_writeLine 37 (104, .ireturn, 1) rfl) rfl (mx_nb g9).1 P
theorem b_X1_writeLine_105 {d : Nat} {h : mxH} {Q : mxRes → mxH → Prop} (x0 : Nat) (x2 : Int32) (x3 : Option Nat)
    (P : hpK h x0 = 1 ∧ ∃ b1 : Nat, hpR h x0 0 = some b1 ∧ ∃ b2 : Nat, x3 = some b2 ∧ hpK h b2 = 5 ∧ 1 ≤ d ∧ hpK h b1 = 10 ∧ mx_SM mY_X10_fileLength (d - 1) [.ref b1, .int (hpI h b2 1)] h (mx_KI (fun v1 h1 => hpK h1 b1 = 10 ∧ mx_SM mY_X10_putLine (d - 1) [.ref b1, .int (hpI h b2 1), .int v1, .int x2] h1 (mx_KI (fun v2 h2 => (v2 = 0 ∨ v2 = 1) ∧ Q (.inl (some (.int v2))) h2) (mx_XX mY_X1_writeLine Q))) (mx_XX mY_X1_writeLine Q))) : mx_SX mY_X1_writeLine d 105 [(0, .ref x0), (2, .int x2), (3, va_rf x3)] [] h Q := by
  refine mx_aload_n (pc := 105) 0 (mx_dd dd_X1_writeLine 38 (105, .aload_n 0, 1) rfl) rfl rfl ?_
  obtain ⟨g1, P⟩ := P
  obtain ⟨b1, g2, P⟩ := P
  refine mx_getR (pc := 106) mx_fl_X1_9 g1 rfl g2 (mx_dd dd_X1_writeLine 39 (106, .getfield 9, 3) rfl) ?_
  refine mx_aload_nO (pc := 109) 2 (mx_dd dd_X1_writeLine 40 (109, .aload_n 3, 1) rfl) rfl rfl ?_
  obtain ⟨b2, g3, P⟩ := P
  refine mx_deref0 g3 ?_
  obtain ⟨g4, P⟩ := P
  refine mx_getI (pc := 110) mx_fl_X1_176 g4 rfl (mx_dd dd_X1_writeLine 41 (110, .getfield 176, 3) rfl) ?_
  refine mx_aload_n (pc := 113) 0 (mx_dd dd_X1_writeLine 42 (113, .aload_n 0, 1) rfl) rfl rfl ?_
  refine mx_getR (pc := 114) mx_fl_X1_9 g1 rfl g2 (mx_dd dd_X1_writeLine 43 (114, .getfield 9, 3) rfl) ?_
  refine mx_aload_nO (pc := 117) 2 (mx_dd dd_X1_writeLine 44 (117, .aload_n 3, 1) rfl) rfl rfl ?_
  refine mx_deref0 g3 ?_
  refine mx_getI (pc := 118) mx_fl_X1_176 g4 rfl (mx_dd dd_X1_writeLine 45 (118, .getfield 176, 3) rfl) ?_
  obtain ⟨g5, P⟩ := P
  obtain ⟨g6, P⟩ := P
  refine mx_cVI (pc := 121) (Y := mY_X10_fileLength) (As := [.int (hpI h b2 1)]) mx_ml_X1_199 mx_y_X10_fileLength rfl g6 (by decide) rfl (by simp [Value.category]) rfl (mx_dd dd_X1_writeLine 46 (121, .invokevirtual 199, 3) rfl) g5 (by decide) P (fun v1 h1 P => ?_)
  refine mx_iload_n (pc := 124) 1 (mx_dd dd_X1_writeLine 47 (124, .iload_n 2, 1) rfl) rfl rfl ?_
  obtain ⟨g7, P⟩ := P
  refine mx_cVI (pc := 125) (Y := mY_X10_putLine) (As := [.int (hpI h b2 1), .int v1, .int x2]) mx_ml_X1_195 mx_y_X10_putLine rfl g7 (by decide) rfl (by decide) rfl (mx_dd dd_X1_writeLine 48 (125, .invokevirtual 195, 3) rfl) g5 (by decide) P (fun v2 h2 P => ?_)
  obtain ⟨g8, P⟩ := P
  exact mx_ireturn (pc := 128) (mx_dd dd_X1_writeLine 49 (128, .ireturn, 1) rfl) rfl (mx_nb g8).1 P
theorem b_X1_writeLine_129 {d : Nat} {h : mxH} {Q : mxRes → mxH → Prop} (x0 : Nat) (x2 : Int32) (x3 : Option Nat)
    (P : hpK h x0 = 1 ∧ ∃ b1 : Nat, hpR h x0 1 = some b1 ∧ ∃ b2 : Nat, x3 = some b2 ∧ hpK h b2 = 5 ∧ 1 ≤ d ∧ hpK h b1 = 0 ∧ mx_SM mY_X0_putIn (d - 1) [.ref b1, .int (hpI h b2 2), .int x2] h (mx_KI (fun v1 h1 => (v1 = 0 ∨ v1 = 1) ∧ Q (.inl (some (.int v1))) h1) (mx_XX mY_X1_writeLine Q))) : mx_SX mY_X1_writeLine d 129 [(0, .ref x0), (2, .int x2), (3, va_rf x3)] [] h Q := by
  refine mx_aload_n (pc := 129) 0 (mx_dd dd_X1_writeLine 50 (129, .aload_n 0, 1) rfl) rfl rfl ?_
  obtain ⟨g1, P⟩ := P
  obtain ⟨b1, g2, P⟩ := P
  refine mx_getR (pc := 130) mx_fl_X1_15 g1 rfl g2 (mx_dd dd_X1_writeLine 51 (130, .getfield 15, 3) rfl) ?_
  refine mx_aload_nO (pc := 133) 2 (mx_dd dd_X1_writeLine 52 (133, .aload_n 3, 1) rfl) rfl rfl ?_
  obtain ⟨b2, g3, P⟩ := P
  refine mx_deref0 g3 ?_
  obtain ⟨g4, P⟩ := P
  refine mx_getI (pc := 134) mx_fl_X1_185 g4 rfl (mx_dd dd_X1_writeLine 53 (134, .getfield 185, 3) rfl) ?_
  refine mx_iload_n (pc := 137) 1 (mx_dd dd_X1_writeLine 54 (137, .iload_n 2, 1) rfl) rfl rfl ?_
  obtain ⟨g5, P⟩ := P
  obtain ⟨g6, P⟩ := P
  refine mx_cVI (pc := 138) (Y := mY_X0_putIn) (As := [.int (hpI h b2 2), .int x2]) mx_ml_X1_202 mx_y_X0_putIn rfl g6 (by decide) rfl (by decide) rfl (mx_dd dd_X1_writeLine 55 (138, .invokevirtual 202, 3) rfl) g5 (by decide) P (fun v1 h1 P => ?_)
  obtain ⟨g7, P⟩ := P
  exact mx_ireturn (pc := 141) (mx_dd dd_X1_writeLine 56 (141, .ireturn, 1) rfl) rfl (mx_nb g7).1 P
theorem b_X1_writeLine_142 {d : Nat} {h : mxH} {Q : mxRes → mxH → Prop} 
    (P : Q (.inl (some (.int (0 : Int32)))) h) : mx_SX mY_X1_writeLine d 142 [] [] h Q := by
  refine mx_iconst (pc := 142) (v := (0 : Int32)) (mx_dd dd_X1_writeLine 57 (142, .iconst 0, 1) rfl) (by decide) ?_
  exact mx_ireturn (pc := 143) (mx_dd dd_X1_writeLine 58 (143, .ireturn, 1) rfl) rfl rfl P
theorem b_X7_init {d : Nat} {h : mxH} {Q : mxRes → mxH → Prop} (x0 : Nat)
    (P : 1 ≤ d ∧ ∀ (b1 : Nat) (h1 : mxH), b1 = hpN h → h1 = hnw h 14 2801 2801 → hpK h1 x0 = 7 ∧ ∀ h2 : mxH, h2 = hsR h1 x0 0 (some b1) → ∀ (b2 : Nat) (h3 : mxH), b2 = hpN h2 → h3 = hnw h2 14 2801 2801 → hpK h3 x0 = 7 ∧ ∀ h4 : mxH, h4 = hsR h3 x0 1 (some b2) → ∀ (b3 : Nat) (h5 : mxH), b3 = hpN h4 → h5 = hnw h4 14 2801 2801 → hpK h5 x0 = 7 ∧ ∀ h6 : mxH, h6 = hsR h5 x0 2 (some b3) → ∀ (b4 : Nat) (h7 : mxH), b4 = hpN h6 → h7 = hnw h6 14 700 700 → hpK h7 x0 = 7 ∧ ∀ h8 : mxH, h8 = hsR h7 x0 4 (some b4) → ∀ (b5 : Nat) (h9 : mxH), b5 = hpN h8 → h9 = hnw h8 14 700 700 → hpK h9 x0 = 7 ∧ ∀ h10 : mxH, h10 = hsR h9 x0 5 (some b5) → ∀ (b6 : Nat) (h11 : mxH), b6 = hpN h10 → h11 = hnw h10 15 700 700 → hpK h11 x0 = 7 ∧ ∀ h12 : mxH, h12 = hsR h11 x0 6 (some b6) → ∀ (b7 : Nat) (h13 : mxH), b7 = hpN h12 → h13 = hnw h12 14 700 700 → hpK h13 x0 = 7 ∧ ∀ h14 : mxH, h14 = hsR h13 x0 7 (some b7) → ∀ (b8 : Nat) (h15 : mxH), b8 = hpN h14 → h15 = hnw h14 14 700 700 → hpK h15 x0 = 7 ∧ ∀ h16 : mxH, h16 = hsR h15 x0 8 (some b8) → ∀ (b9 : Nat) (h17 : mxH), b9 = hpN h16 → h17 = hnw h16 14 700 700 → hpK h17 x0 = 7 ∧ ∀ h18 : mxH, h18 = hsR h17 x0 9 (some b9) → ∀ (b10 : Nat) (h19 : mxH), b10 = hpN h18 → h19 = hnw h18 14 700 700 → hpK h19 x0 = 7 ∧ ∀ h20 : mxH, h20 = hsR h19 x0 10 (some b10) → ∀ (b11 : Nat) (h21 : mxH), b11 = hpN h20 → h21 = hnw h20 14 700 700 → hpK h21 x0 = 7 ∧ ∀ h22 : mxH, h22 = hsR h21 x0 12 (some b11) → ∀ (b12 : Nat) (h23 : mxH), b12 = hpN h22 → h23 = hnw h22 15 700 700 → hpK h23 x0 = 7 ∧ ∀ h24 : mxH, h24 = hsR h23 x0 13 (some b12) → ∀ (b13 : Nat) (h25 : mxH), b13 = hpN h24 → h25 = hnw h24 14 700 700 → hpK h25 x0 = 7 ∧ ∀ h26 : mxH, h26 = hsR h25 x0 15 (some b13) → ∀ (b14 : Nat) (h27 : mxH), b14 = hpN h26 → h27 = hnw h26 15 700 700 → hpK h27 x0 = 7 ∧ ∀ h28 : mxH, h28 = hsR h27 x0 16 (some b14) → Q (.inl none) h28) : mx_SM mY_X7_init d [.ref x0] h Q := by
  refine mx_SM_of (by decide) (Nat.le_of_ble_eq_true rfl) ?_
  show mx_SX mY_X7_init d 0 [(0, .ref x0)] [] h Q
  refine mx_aload_n (pc := 0) 0 (mx_dd dd_X7_init 0 (0, .aload_n 0, 1) rfl) rfl rfl ?_
  obtain ⟨g1, P⟩ := P
  refine mx_objInit (pc := 1) mx_oi_X7_3 mx_oii mx_oic (by decide) (mx_dd dd_X7_init 1 (1, .invokespecial 3, 3) rfl) g1 ?_
  refine mx_aload_n (pc := 4) 0 (mx_dd dd_X7_init 2 (4, .aload_n 0, 1) rfl) rfl rfl ?_
  refine mx_sipush (pc := 5) (v := (2801 : Int32)) (mx_dd dd_X7_init 3 (5, .sipush 2801, 3) rfl) (by decide) ?_
  refine mx_newa (pc := 8) (N := 2801) (kd := 14) (by decide) rfl mx_ac_14 (by decide) (by decide) (by decide) (mx_dd dd_X7_init 4 (8, .newarray .int, 2) rfl) ?_
  have P := P _ _ rfl rfl
  obtain ⟨g2, P⟩ := P
  refine mx_putR (pc := 10) mx_fl_X7_11 g2 rfl (.inr ⟨rfl, rfl, rfl⟩) (mx_dd dd_X7_init 5 (10, .putfield 11, 3) rfl) ?_
  have P := P _ rfl
  refine mx_aload_n (pc := 13) 0 (mx_dd dd_X7_init 6 (13, .aload_n 0, 1) rfl) rfl rfl ?_
  refine mx_sipush (pc := 14) (v := (2801 : Int32)) (mx_dd dd_X7_init 7 (14, .sipush 2801, 3) rfl) (by decide) ?_
  refine mx_newa (pc := 17) (N := 2801) (kd := 14) (by decide) rfl mx_ac_14 (by decide) (by decide) (by decide) (mx_dd dd_X7_init 8 (17, .newarray .int, 2) rfl) ?_
  have P := P _ _ rfl rfl
  obtain ⟨g3, P⟩ := P
  refine mx_putR (pc := 19) mx_fl_X7_15 g3 rfl (.inr ⟨rfl, rfl, rfl⟩) (mx_dd dd_X7_init 9 (19, .putfield 15, 3) rfl) ?_
  have P := P _ rfl
  refine mx_aload_n (pc := 22) 0 (mx_dd dd_X7_init 10 (22, .aload_n 0, 1) rfl) rfl rfl ?_
  refine mx_sipush (pc := 23) (v := (2801 : Int32)) (mx_dd dd_X7_init 11 (23, .sipush 2801, 3) rfl) (by decide) ?_
  refine mx_newa (pc := 26) (N := 2801) (kd := 14) (by decide) rfl mx_ac_14 (by decide) (by decide) (by decide) (mx_dd dd_X7_init 12 (26, .newarray .int, 2) rfl) ?_
  have P := P _ _ rfl rfl
  obtain ⟨g4, P⟩ := P
  refine mx_putR (pc := 28) mx_fl_X7_18 g4 rfl (.inr ⟨rfl, rfl, rfl⟩) (mx_dd dd_X7_init 13 (28, .putfield 18, 3) rfl) ?_
  have P := P _ rfl
  refine mx_aload_n (pc := 31) 0 (mx_dd dd_X7_init 14 (31, .aload_n 0, 1) rfl) rfl rfl ?_
  refine mx_sipush (pc := 32) (v := (700 : Int32)) (mx_dd dd_X7_init 15 (32, .sipush 700, 3) rfl) (by decide) ?_
  refine mx_newa (pc := 35) (N := 700) (kd := 14) (by decide) rfl mx_ac_14 (by decide) (by decide) (by decide) (mx_dd dd_X7_init 16 (35, .newarray .int, 2) rfl) ?_
  have P := P _ _ rfl rfl
  obtain ⟨g5, P⟩ := P
  refine mx_putR (pc := 37) mx_fl_X7_21 g5 rfl (.inr ⟨rfl, rfl, rfl⟩) (mx_dd dd_X7_init 17 (37, .putfield 21, 3) rfl) ?_
  have P := P _ rfl
  refine mx_aload_n (pc := 40) 0 (mx_dd dd_X7_init 18 (40, .aload_n 0, 1) rfl) rfl rfl ?_
  refine mx_sipush (pc := 41) (v := (700 : Int32)) (mx_dd dd_X7_init 19 (41, .sipush 700, 3) rfl) (by decide) ?_
  refine mx_newa (pc := 44) (N := 700) (kd := 14) (by decide) rfl mx_ac_14 (by decide) (by decide) (by decide) (mx_dd dd_X7_init 20 (44, .newarray .int, 2) rfl) ?_
  have P := P _ _ rfl rfl
  obtain ⟨g6, P⟩ := P
  refine mx_putR (pc := 46) mx_fl_X7_24 g6 rfl (.inr ⟨rfl, rfl, rfl⟩) (mx_dd dd_X7_init 21 (46, .putfield 24, 3) rfl) ?_
  have P := P _ rfl
  refine mx_aload_n (pc := 49) 0 (mx_dd dd_X7_init 22 (49, .aload_n 0, 1) rfl) rfl rfl ?_
  refine mx_sipush (pc := 50) (v := (700 : Int32)) (mx_dd dd_X7_init 23 (50, .sipush 700, 3) rfl) (by decide) ?_
  refine mx_newa (pc := 53) (N := 700) (kd := 15) (by decide) rfl mx_ac_15 (by decide) (by decide) (by decide) (mx_dd dd_X7_init 24 (53, .newarray .long, 2) rfl) ?_
  have P := P _ _ rfl rfl
  obtain ⟨g7, P⟩ := P
  refine mx_putR (pc := 55) mx_fl_X7_27 g7 rfl (.inr ⟨rfl, rfl, rfl⟩) (mx_dd dd_X7_init 25 (55, .putfield 27, 3) rfl) ?_
  have P := P _ rfl
  refine mx_aload_n (pc := 58) 0 (mx_dd dd_X7_init 26 (58, .aload_n 0, 1) rfl) rfl rfl ?_
  refine mx_sipush (pc := 59) (v := (700 : Int32)) (mx_dd dd_X7_init 27 (59, .sipush 700, 3) rfl) (by decide) ?_
  refine mx_newa (pc := 62) (N := 700) (kd := 14) (by decide) rfl mx_ac_14 (by decide) (by decide) (by decide) (mx_dd dd_X7_init 28 (62, .newarray .int, 2) rfl) ?_
  have P := P _ _ rfl rfl
  obtain ⟨g8, P⟩ := P
  refine mx_putR (pc := 64) mx_fl_X7_31 g8 rfl (.inr ⟨rfl, rfl, rfl⟩) (mx_dd dd_X7_init 29 (64, .putfield 31, 3) rfl) ?_
  have P := P _ rfl
  refine mx_aload_n (pc := 67) 0 (mx_dd dd_X7_init 30 (67, .aload_n 0, 1) rfl) rfl rfl ?_
  refine mx_sipush (pc := 68) (v := (700 : Int32)) (mx_dd dd_X7_init 31 (68, .sipush 700, 3) rfl) (by decide) ?_
  refine mx_newa (pc := 71) (N := 700) (kd := 14) (by decide) rfl mx_ac_14 (by decide) (by decide) (by decide) (mx_dd dd_X7_init 32 (71, .newarray .int, 2) rfl) ?_
  have P := P _ _ rfl rfl
  obtain ⟨g9, P⟩ := P
  refine mx_putR (pc := 73) mx_fl_X7_34 g9 rfl (.inr ⟨rfl, rfl, rfl⟩) (mx_dd dd_X7_init 33 (73, .putfield 34, 3) rfl) ?_
  have P := P _ rfl
  refine mx_aload_n (pc := 76) 0 (mx_dd dd_X7_init 34 (76, .aload_n 0, 1) rfl) rfl rfl ?_
  refine mx_sipush (pc := 77) (v := (700 : Int32)) (mx_dd dd_X7_init 35 (77, .sipush 700, 3) rfl) (by decide) ?_
  refine mx_newa (pc := 80) (N := 700) (kd := 14) (by decide) rfl mx_ac_14 (by decide) (by decide) (by decide) (mx_dd dd_X7_init 36 (80, .newarray .int, 2) rfl) ?_
  have P := P _ _ rfl rfl
  obtain ⟨g10, P⟩ := P
  refine mx_putR (pc := 82) mx_fl_X7_37 g10 rfl (.inr ⟨rfl, rfl, rfl⟩) (mx_dd dd_X7_init 37 (82, .putfield 37, 3) rfl) ?_
  have P := P _ rfl
  refine mx_aload_n (pc := 85) 0 (mx_dd dd_X7_init 38 (85, .aload_n 0, 1) rfl) rfl rfl ?_
  refine mx_sipush (pc := 86) (v := (700 : Int32)) (mx_dd dd_X7_init 39 (86, .sipush 700, 3) rfl) (by decide) ?_
  refine mx_newa (pc := 89) (N := 700) (kd := 14) (by decide) rfl mx_ac_14 (by decide) (by decide) (by decide) (mx_dd dd_X7_init 40 (89, .newarray .int, 2) rfl) ?_
  have P := P _ _ rfl rfl
  obtain ⟨g11, P⟩ := P
  refine mx_putR (pc := 91) mx_fl_X7_40 g11 rfl (.inr ⟨rfl, rfl, rfl⟩) (mx_dd dd_X7_init 41 (91, .putfield 40, 3) rfl) ?_
  have P := P _ rfl
  refine mx_aload_n (pc := 94) 0 (mx_dd dd_X7_init 42 (94, .aload_n 0, 1) rfl) rfl rfl ?_
  refine mx_sipush (pc := 95) (v := (700 : Int32)) (mx_dd dd_X7_init 43 (95, .sipush 700, 3) rfl) (by decide) ?_
  refine mx_newa (pc := 98) (N := 700) (kd := 14) (by decide) rfl mx_ac_14 (by decide) (by decide) (by decide) (mx_dd dd_X7_init 44 (98, .newarray .int, 2) rfl) ?_
  have P := P _ _ rfl rfl
  obtain ⟨g12, P⟩ := P
  refine mx_putR (pc := 100) mx_fl_X7_43 g12 rfl (.inr ⟨rfl, rfl, rfl⟩) (mx_dd dd_X7_init 45 (100, .putfield 43, 3) rfl) ?_
  have P := P _ rfl
  refine mx_aload_n (pc := 103) 0 (mx_dd dd_X7_init 46 (103, .aload_n 0, 1) rfl) rfl rfl ?_
  refine mx_sipush (pc := 104) (v := (700 : Int32)) (mx_dd dd_X7_init 47 (104, .sipush 700, 3) rfl) (by decide) ?_
  refine mx_newa (pc := 107) (N := 700) (kd := 15) (by decide) rfl mx_ac_15 (by decide) (by decide) (by decide) (mx_dd dd_X7_init 48 (107, .newarray .long, 2) rfl) ?_
  have P := P _ _ rfl rfl
  obtain ⟨g13, P⟩ := P
  refine mx_putR (pc := 109) mx_fl_X7_46 g13 rfl (.inr ⟨rfl, rfl, rfl⟩) (mx_dd dd_X7_init 49 (109, .putfield 46, 3) rfl) ?_
  have P := P _ rfl
  refine mx_aload_n (pc := 112) 0 (mx_dd dd_X7_init 50 (112, .aload_n 0, 1) rfl) rfl rfl ?_
  refine mx_sipush (pc := 113) (v := (700 : Int32)) (mx_dd dd_X7_init 51 (113, .sipush 700, 3) rfl) (by decide) ?_
  refine mx_newa (pc := 116) (N := 700) (kd := 14) (by decide) rfl mx_ac_14 (by decide) (by decide) (by decide) (mx_dd dd_X7_init 52 (116, .newarray .int, 2) rfl) ?_
  have P := P _ _ rfl rfl
  obtain ⟨g14, P⟩ := P
  refine mx_putR (pc := 118) mx_fl_X7_49 g14 rfl (.inr ⟨rfl, rfl, rfl⟩) (mx_dd dd_X7_init 53 (118, .putfield 49, 3) rfl) ?_
  have P := P _ rfl
  refine mx_aload_n (pc := 121) 0 (mx_dd dd_X7_init 54 (121, .aload_n 0, 1) rfl) rfl rfl ?_
  refine mx_sipush (pc := 122) (v := (700 : Int32)) (mx_dd dd_X7_init 55 (122, .sipush 700, 3) rfl) (by decide) ?_
  refine mx_newa (pc := 125) (N := 700) (kd := 15) (by decide) rfl mx_ac_15 (by decide) (by decide) (by decide) (mx_dd dd_X7_init 56 (125, .newarray .long, 2) rfl) ?_
  have P := P _ _ rfl rfl
  obtain ⟨g15, P⟩ := P
  refine mx_putR (pc := 127) mx_fl_X7_52 g15 rfl (.inr ⟨rfl, rfl, rfl⟩) (mx_dd dd_X7_init 57 (127, .putfield 52, 3) rfl) ?_
  have P := P _ rfl
  exact mx_return (pc := 130) (mx_dd dd_X7_init 58 (130, .return_, 1) rfl) rfl P
theorem b_X7_makeEmpty {d : Nat} {h : mxH} {Q : mxRes → mxH → Prop} (x0 : Nat)
    (P : hpK h x0 = 7 ∧ ∀ h1 : mxH, h1 = hsI h x0 3 (0 : Int32) → ∀ h2 : mxH, h2 = hsI h1 x0 11 (0 : Int32) → ∀ h3 : mxH, h3 = hsI h2 x0 14 (0 : Int32) → ∀ h4 : mxH, h4 = hsI h3 x0 17 (0 : Int32) → Q (.inl none) h4) : mx_SM mY_X7_makeEmpty d [.ref x0] h Q := by
  refine mx_SM_of (by decide) (Nat.le_of_ble_eq_true rfl) ?_
  show mx_SX mY_X7_makeEmpty d 0 [(0, .ref x0)] [] h Q
  refine mx_aload_n (pc := 0) 0 (mx_dd dd_X7_makeEmpty 0 (0, .aload_n 0, 1) rfl) rfl rfl ?_
  refine mx_iconst (pc := 1) (v := (0 : Int32)) (mx_dd dd_X7_makeEmpty 1 (1, .iconst 0, 1) rfl) (by decide) ?_
  obtain ⟨g1, P⟩ := P
  refine mx_putI (pc := 2) mx_fl_X7_55 g1 rfl (.inl rfl) rfl rfl (mx_dd dd_X7_makeEmpty 2 (2, .putfield 55, 3) rfl) ?_
  have P := P _ rfl
  refine mx_aload_n (pc := 5) 0 (mx_dd dd_X7_makeEmpty 3 (5, .aload_n 0, 1) rfl) rfl rfl ?_
  refine mx_iconst (pc := 6) (v := (0 : Int32)) (mx_dd dd_X7_makeEmpty 4 (6, .iconst 0, 1) rfl) (by decide) ?_
  refine mx_putI (pc := 7) mx_fl_X7_59 g1 rfl (.inl rfl) rfl rfl (mx_dd dd_X7_makeEmpty 5 (7, .putfield 59, 3) rfl) ?_
  have P := P _ rfl
  refine mx_aload_n (pc := 10) 0 (mx_dd dd_X7_makeEmpty 6 (10, .aload_n 0, 1) rfl) rfl rfl ?_
  refine mx_iconst (pc := 11) (v := (0 : Int32)) (mx_dd dd_X7_makeEmpty 7 (11, .iconst 0, 1) rfl) (by decide) ?_
  refine mx_putI (pc := 12) mx_fl_X7_62 g1 rfl (.inl rfl) rfl rfl (mx_dd dd_X7_makeEmpty 8 (12, .putfield 62, 3) rfl) ?_
  have P := P _ rfl
  refine mx_aload_n (pc := 15) 0 (mx_dd dd_X7_makeEmpty 9 (15, .aload_n 0, 1) rfl) rfl rfl ?_
  refine mx_iconst (pc := 16) (v := (0 : Int32)) (mx_dd dd_X7_makeEmpty 10 (16, .iconst 0, 1) rfl) (by decide) ?_
  refine mx_putI (pc := 17) mx_fl_X7_65 g1 rfl (.inl rfl) rfl rfl (mx_dd dd_X7_makeEmpty 11 (17, .putfield 65, 3) rfl) ?_
  have P := P _ rfl
  exact mx_return (pc := 20) (mx_dd dd_X7_makeEmpty 12 (20, .return_, 1) rfl) rfl P
theorem b_X7_emit {d : Nat} {h : mxH} {Q : mxRes → mxH → Prop} (x0 : Nat) (x1 : Int32)
    (P : 1 ≤ d ∧ hpK h x0 = 7 ∧ mx_SM mY_X7_emitFor (d - 1) [.ref x0, .int x1, .int (0 : Int32)] h (mx_KI (fun v1 h1 => Q (.inl (some (.int v1))) h1) (mx_XX mY_X7_emit Q))) : mx_SM mY_X7_emit d [.ref x0, .int x1] h Q := by
  refine mx_SM_of (by decide) (Nat.le_of_ble_eq_true rfl) ?_
  show mx_SX mY_X7_emit d 0 [(0, .ref x0), (1, .int x1)] [] h Q
  refine mx_aload_n (pc := 0) 0 (mx_dd dd_X7_emit 0 (0, .aload_n 0, 1) rfl) rfl rfl ?_
  refine mx_iload_n (pc := 1) 1 (mx_dd dd_X7_emit 1 (1, .iload_n 1, 1) rfl) rfl rfl ?_
  refine mx_iconst (pc := 2) (v := (0 : Int32)) (mx_dd dd_X7_emit 2 (2, .iconst 0, 1) rfl) (by decide) ?_
  obtain ⟨g1, P⟩ := P
  obtain ⟨g2, P⟩ := P
  refine mx_cVI (pc := 3) (Y := mY_X7_emitFor) (As := [.int x1, .int (0 : Int32)]) mx_ml_X7_68 mx_y_X7_emitFor rfl g2 (by decide) rfl (by decide) rfl (mx_dd dd_X7_emit 3 (3, .invokevirtual 68, 3) rfl) g1 (by decide) P (fun v1 h1 P => ?_)
  exact mx_ireturn (pc := 6) (mx_dd dd_X7_emit 4 (6, .ireturn, 1) rfl) rfl rfl P
theorem b_X7_emitFor {d : Nat} {h : mxH} {Q : mxRes → mxH → Prop} (x0 : Nat) (x1 : Int32) (x2 : Int32)
    (P : hpK h x0 = 7 ∧ (((hpI h x0 3) < 0 → Q (.inl (some (.int (-1 : Int32)))) h) ∧ (¬ (hpI h x0 3) < 0 → (((hpI h x0 3) < (2801 : Int32) → ∃ b1 : Nat, hpR h x0 0 = some b1 ∧ hpK h b1 = 14 ∧ vp_in (hpI h x0 3) (hpZ h b1) ∧ ∀ h1 : mxH, h1 = hsI h b1 (hpI h x0 3).toNatClampNeg x1 → ∃ b2 : Nat, hpR h1 x0 1 = some b2 ∧ hpK h1 b2 = 14 ∧ vp_in (hpI h1 x0 3) (hpZ h1 b2) ∧ ∀ h2 : mxH, h2 = hsI h1 b2 (hpI h1 x0 3).toNatClampNeg x2 → ∃ b3 : Nat, hpR h2 x0 2 = some b3 ∧ hpK h2 b3 = 14 ∧ vp_in (hpI h2 x0 3) (hpZ h2 b3) ∧ ∀ h3 : mxH, h3 = hsI h2 b3 (hpI h2 x0 3).toNatClampNeg (0 : Int32) → ∀ h4 : mxH, h4 = hsI h3 x0 3 ((hpI h3 x0 3) + (1 : Int32)) → Q (.inl (some (.int ((hpI h4 x0 3) - (1 : Int32))))) h4) ∧ (¬ (hpI h x0 3) < (2801 : Int32) → Q (.inl (some (.int (-1 : Int32)))) h))))) : mx_SM mY_X7_emitFor d [.ref x0, .int x1, .int x2] h Q := by
  refine mx_SM_of (by decide) (Nat.le_of_ble_eq_true rfl) ?_
  show mx_SX mY_X7_emitFor d 0 [(0, .ref x0), (1, .int x1), (2, .int x2)] [] h Q
  refine mx_aload_n (pc := 0) 0 (mx_dd dd_X7_emitFor 0 (0, .aload_n 0, 1) rfl) rfl rfl ?_
  obtain ⟨g1, P⟩ := P
  refine mx_getI (pc := 1) mx_fl_X7_55 g1 rfl (mx_dd dd_X7_emitFor 1 (1, .getfield 55, 3) rfl) ?_
  refine mx_if_lt (pc := 4) 17 (mx_dd dd_X7_emitFor 2 (4, .ifCond .lt 13, 3) rfl) rfl (fun c4 => ?_) (fun c4 => ?_)
  · have P := P.1 c4
    refine mx_iconst (pc := 17) (v := (-1 : Int32)) (mx_dd dd_X7_emitFor 7 (17, .iconst (-1), 1) rfl) (by decide) ?_
    exact mx_ireturn (pc := 18) (mx_dd dd_X7_emitFor 8 (18, .ireturn, 1) rfl) rfl rfl P
  · have P := P.2 c4
    refine mx_aload_n (pc := 7) 0 (mx_dd dd_X7_emitFor 3 (7, .aload_n 0, 1) rfl) rfl rfl ?_
    refine mx_getI (pc := 8) mx_fl_X7_55 g1 rfl (mx_dd dd_X7_emitFor 4 (8, .getfield 55, 3) rfl) ?_
    refine mx_sipush (pc := 11) (v := (2801 : Int32)) (mx_dd dd_X7_emitFor 5 (11, .sipush 2801, 3) rfl) (by decide) ?_
    refine mx_icmp_lt (pc := 14) 19 (mx_dd dd_X7_emitFor 6 (14, .if_icmp .lt 5, 3) rfl) rfl (fun c14 => ?_) (fun c14 => ?_)
    · have P := P.1 c14
      refine mx_aload_n (pc := 19) 0 (mx_dd dd_X7_emitFor 9 (19, .aload_n 0, 1) rfl) rfl rfl ?_
      obtain ⟨b1, g2, P⟩ := P
      refine mx_getR (pc := 20) mx_fl_X7_11 g1 rfl g2 (mx_dd dd_X7_emitFor 10 (20, .getfield 11, 3) rfl) ?_
      refine mx_aload_n (pc := 23) 0 (mx_dd dd_X7_emitFor 11 (23, .aload_n 0, 1) rfl) rfl rfl ?_
      refine mx_getI (pc := 24) mx_fl_X7_55 g1 rfl (mx_dd dd_X7_emitFor 12 (24, .getfield 55, 3) rfl) ?_
      refine mx_iload_n (pc := 27) 1 (mx_dd dd_X7_emitFor 13 (27, .iload_n 1, 1) rfl) rfl rfl ?_
      obtain ⟨g3, P⟩ := P
      obtain ⟨g4, P⟩ := P
      refine mx_iast (pc := 28) g3 g4 (mx_dd dd_X7_emitFor 14 (28, .iastore, 1) rfl) ?_
      have P := P _ rfl
      refine mx_aload_n (pc := 29) 0 (mx_dd dd_X7_emitFor 15 (29, .aload_n 0, 1) rfl) rfl rfl ?_
      obtain ⟨b2, g5, P⟩ := P
      refine mx_getR (pc := 30) mx_fl_X7_15 g1 rfl g5 (mx_dd dd_X7_emitFor 16 (30, .getfield 15, 3) rfl) ?_
      refine mx_aload_n (pc := 33) 0 (mx_dd dd_X7_emitFor 17 (33, .aload_n 0, 1) rfl) rfl rfl ?_
      refine mx_getI (pc := 34) mx_fl_X7_55 g1 rfl (mx_dd dd_X7_emitFor 18 (34, .getfield 55, 3) rfl) ?_
      refine mx_iload_n (pc := 37) 2 (mx_dd dd_X7_emitFor 19 (37, .iload_n 2, 1) rfl) rfl rfl ?_
      obtain ⟨g6, P⟩ := P
      obtain ⟨g7, P⟩ := P
      refine mx_iast (pc := 38) g6 g7 (mx_dd dd_X7_emitFor 20 (38, .iastore, 1) rfl) ?_
      have P := P _ rfl
      refine mx_aload_n (pc := 39) 0 (mx_dd dd_X7_emitFor 21 (39, .aload_n 0, 1) rfl) rfl rfl ?_
      obtain ⟨b3, g8, P⟩ := P
      refine mx_getR (pc := 40) mx_fl_X7_18 g1 rfl g8 (mx_dd dd_X7_emitFor 22 (40, .getfield 18, 3) rfl) ?_
      refine mx_aload_n (pc := 43) 0 (mx_dd dd_X7_emitFor 23 (43, .aload_n 0, 1) rfl) rfl rfl ?_
      refine mx_getI (pc := 44) mx_fl_X7_55 g1 rfl (mx_dd dd_X7_emitFor 24 (44, .getfield 55, 3) rfl) ?_
      refine mx_iconst (pc := 47) (v := (0 : Int32)) (mx_dd dd_X7_emitFor 25 (47, .iconst 0, 1) rfl) (by decide) ?_
      obtain ⟨g9, P⟩ := P
      obtain ⟨g10, P⟩ := P
      refine mx_iast (pc := 48) g9 g10 (mx_dd dd_X7_emitFor 26 (48, .iastore, 1) rfl) ?_
      have P := P _ rfl
      refine mx_aload_n (pc := 49) 0 (mx_dd dd_X7_emitFor 27 (49, .aload_n 0, 1) rfl) rfl rfl ?_
      refine mx_dup (pc := 50) (mx_dd dd_X7_emitFor 28 (50, .dup, 1) rfl) rfl ?_
      refine mx_getI (pc := 51) mx_fl_X7_55 g1 rfl (mx_dd dd_X7_emitFor 29 (51, .getfield 55, 3) rfl) ?_
      refine mx_iconst (pc := 54) (v := (1 : Int32)) (mx_dd dd_X7_emitFor 30 (54, .iconst 1, 1) rfl) (by decide) ?_
      refine mx_iadd (pc := 55) (mx_dd dd_X7_emitFor 31 (55, .iadd, 1) rfl) ?_
      refine mx_putI (pc := 56) mx_fl_X7_55 g1 rfl (.inl rfl) rfl rfl (mx_dd dd_X7_emitFor 32 (56, .putfield 55, 3) rfl) ?_
      have P := P _ rfl
      refine mx_aload_n (pc := 59) 0 (mx_dd dd_X7_emitFor 33 (59, .aload_n 0, 1) rfl) rfl rfl ?_
      refine mx_getI (pc := 60) mx_fl_X7_55 g1 rfl (mx_dd dd_X7_emitFor 34 (60, .getfield 55, 3) rfl) ?_
      refine mx_iconst (pc := 63) (v := (1 : Int32)) (mx_dd dd_X7_emitFor 35 (63, .iconst 1, 1) rfl) (by decide) ?_
      refine mx_isub (pc := 64) (mx_dd dd_X7_emitFor 36 (64, .isub, 1) rfl) ?_
      exact mx_ireturn (pc := 65) (mx_dd dd_X7_emitFor 37 (65, .ireturn, 1) rfl) rfl rfl P
    · have P := P.2 c14
      refine mx_iconst (pc := 17) (v := (-1 : Int32)) (mx_dd dd_X7_emitFor 7 (17, .iconst (-1), 1) rfl) (by decide) ?_
      exact mx_ireturn (pc := 18) (mx_dd dd_X7_emitFor 8 (18, .ireturn, 1) rfl) rfl rfl P
theorem b_X7_isPlace {d : Nat} {h : mxH} {Q : mxRes → mxH → Prop} (x0 : Nat) (x1 : Int32)
    (P : ((x1 < 0 → Q (.inl (some (.int (0 : Int32)))) h) ∧ (¬ x1 < 0 → hpK h x0 = 7 ∧ (((hpI h x0 3) ≤ x1 → Q (.inl (some (.int (0 : Int32)))) h) ∧ (¬ (hpI h x0 3) ≤ x1 → (((2801 : Int32) ≤ x1 → Q (.inl (some (.int (0 : Int32)))) h) ∧ (¬ (2801 : Int32) ≤ x1 → Q (.inl (some (.int (1 : Int32)))) h))))))) : mx_SM mY_X7_isPlace d [.ref x0, .int x1] h Q := by
  refine mx_SM_of (by decide) (Nat.le_of_ble_eq_true rfl) ?_
  show mx_SX mY_X7_isPlace d 0 [(0, .ref x0), (1, .int x1)] [] h Q
  refine mx_iload_n (pc := 0) 1 (mx_dd dd_X7_isPlace 0 (0, .iload_n 1, 1) rfl) rfl rfl ?_
  refine mx_if_lt (pc := 1) 23 (mx_dd dd_X7_isPlace 1 (1, .ifCond .lt 22, 3) rfl) rfl (fun c1 => ?_) (fun c1 => ?_)
  · have P := P.1 c1
    refine mx_iconst (pc := 23) (v := (0 : Int32)) (mx_dd dd_X7_isPlace 11 (23, .iconst 0, 1) rfl) (by decide) ?_
    exact mx_ireturn (pc := 24) (mx_dd dd_X7_isPlace 12 (24, .ireturn, 1) rfl) rfl rfl P
  · have P := P.2 c1
    refine mx_iload_n (pc := 4) 1 (mx_dd dd_X7_isPlace 2 (4, .iload_n 1, 1) rfl) rfl rfl ?_
    refine mx_aload_n (pc := 5) 0 (mx_dd dd_X7_isPlace 3 (5, .aload_n 0, 1) rfl) rfl rfl ?_
    obtain ⟨g1, P⟩ := P
    refine mx_getI (pc := 6) mx_fl_X7_55 g1 rfl (mx_dd dd_X7_isPlace 4 (6, .getfield 55, 3) rfl) ?_
    refine mx_icmp_ge (pc := 9) 23 (mx_dd dd_X7_isPlace 5 (9, .if_icmp .ge 14, 3) rfl) rfl (fun c9 => ?_) (fun c9 => ?_)
    · have P := P.1 c9
      refine mx_iconst (pc := 23) (v := (0 : Int32)) (mx_dd dd_X7_isPlace 11 (23, .iconst 0, 1) rfl) (by decide) ?_
      exact mx_ireturn (pc := 24) (mx_dd dd_X7_isPlace 12 (24, .ireturn, 1) rfl) rfl rfl P
    · have P := P.2 c9
      refine mx_iload_n (pc := 12) 1 (mx_dd dd_X7_isPlace 6 (12, .iload_n 1, 1) rfl) rfl rfl ?_
      refine mx_sipush (pc := 13) (v := (2801 : Int32)) (mx_dd dd_X7_isPlace 7 (13, .sipush 2801, 3) rfl) (by decide) ?_
      refine mx_icmp_ge (pc := 16) 23 (mx_dd dd_X7_isPlace 8 (16, .if_icmp .ge 7, 3) rfl) rfl (fun c16 => ?_) (fun c16 => ?_)
      · have P := P.1 c16
        refine mx_iconst (pc := 23) (v := (0 : Int32)) (mx_dd dd_X7_isPlace 11 (23, .iconst 0, 1) rfl) (by decide) ?_
        exact mx_ireturn (pc := 24) (mx_dd dd_X7_isPlace 12 (24, .ireturn, 1) rfl) rfl rfl P
      · have P := P.2 c16
        refine mx_iconst (pc := 19) (v := (1 : Int32)) (mx_dd dd_X7_isPlace 9 (19, .iconst 1, 1) rfl) (by decide) ?_
        refine mx_goto (pc := 20) 24 (mx_dd dd_X7_isPlace 10 (20, .goto 4, 3) rfl) rfl ?_
        exact mx_ireturn (pc := 24) (mx_dd dd_X7_isPlace 12 (24, .ireturn, 1) rfl) rfl rfl P
theorem b_X7_aim {d : Nat} {h : mxH} {Q : mxRes → mxH → Prop} (x0 : Nat) (x1 : Int32) (x2 : Int32)
    (P : 1 ≤ d ∧ hpK h x0 = 7 ∧ mx_SM mY_X7_isPlace (d - 1) [.ref x0, .int x1] h (mx_KI (fun v1 h1 => ((v1 = 0 → Q (.inl none) h1) ∧ (¬ v1 = 0 → hpK h1 x0 = 7 ∧ ∃ b1 : Nat, hpR h1 x0 2 = some b1 ∧ hpK h1 b1 = 14 ∧ vp_in x1 (hpZ h1 b1) ∧ ∀ h2 : mxH, h2 = hsI h1 b1 x1.toNatClampNeg x2 → Q (.inl none) h2))) (mx_XX mY_X7_aim Q))) : mx_SM mY_X7_aim d [.ref x0, .int x1, .int x2] h Q := by
  refine mx_SM_of (by decide) (Nat.le_of_ble_eq_true rfl) ?_
  show mx_SX mY_X7_aim d 0 [(0, .ref x0), (1, .int x1), (2, .int x2)] [] h Q
  refine mx_aload_n (pc := 0) 0 (mx_dd dd_X7_aim 0 (0, .aload_n 0, 1) rfl) rfl rfl ?_
  refine mx_iload_n (pc := 1) 1 (mx_dd dd_X7_aim 1 (1, .iload_n 1, 1) rfl) rfl rfl ?_
  obtain ⟨g1, P⟩ := P
  obtain ⟨g2, P⟩ := P
  refine mx_cVI (pc := 2) (Y := mY_X7_isPlace) (As := [.int x1]) mx_ml_X7_72 mx_y_X7_isPlace rfl g2 (by decide) rfl (by decide) rfl (mx_dd dd_X7_aim 2 (2, .invokevirtual 72, 3) rfl) g1 (by decide) P (fun v1 h1 P => ?_)
  refine mx_if_eq (pc := 5) 15 (mx_dd dd_X7_aim 3 (5, .ifCond .eq 10, 3) rfl) rfl (fun c5 => ?_) (fun c5 => ?_)
  · have P := P.1 c5
    exact mx_return (pc := 15) (mx_dd dd_X7_aim 9 (15, .return_, 1) rfl) rfl P
  · have P := P.2 c5
    refine mx_aload_n (pc := 8) 0 (mx_dd dd_X7_aim 4 (8, .aload_n 0, 1) rfl) rfl rfl ?_
    obtain ⟨g3, P⟩ := P
    obtain ⟨b1, g4, P⟩ := P
    refine mx_getR (pc := 9) mx_fl_X7_18 g3 rfl g4 (mx_dd dd_X7_aim 5 (9, .getfield 18, 3) rfl) ?_
    refine mx_iload_n (pc := 12) 1 (mx_dd dd_X7_aim 6 (12, .iload_n 1, 1) rfl) rfl rfl ?_
    refine mx_iload_n (pc := 13) 2 (mx_dd dd_X7_aim 7 (13, .iload_n 2, 1) rfl) rfl rfl ?_
    obtain ⟨g5, P⟩ := P
    obtain ⟨g6, P⟩ := P
    refine mx_iast (pc := 14) g5 g6 (mx_dd dd_X7_aim 8 (14, .iastore, 1) rfl) ?_
    have P := P _ rfl
    exact mx_return (pc := 15) (mx_dd dd_X7_aim 9 (15, .return_, 1) rfl) rfl P
theorem b_X7_become {d : Nat} {h : mxH} {Q : mxRes → mxH → Prop} (x0 : Nat) (x1 : Int32) (x2 : Int32)
    (P : 1 ≤ d ∧ hpK h x0 = 7 ∧ mx_SM mY_X7_isPlace (d - 1) [.ref x0, .int x1] h (mx_KI (fun v1 h1 => ((v1 = 0 → Q (.inl none) h1) ∧ (¬ v1 = 0 → hpK h1 x0 = 7 ∧ ∃ b1 : Nat, hpR h1 x0 0 = some b1 ∧ hpK h1 b1 = 14 ∧ vp_in x1 (hpZ h1 b1) ∧ ∀ h2 : mxH, h2 = hsI h1 b1 x1.toNatClampNeg x2 → Q (.inl none) h2))) (mx_XX mY_X7_become Q))) : mx_SM mY_X7_become d [.ref x0, .int x1, .int x2] h Q := by
  refine mx_SM_of (by decide) (Nat.le_of_ble_eq_true rfl) ?_
  show mx_SX mY_X7_become d 0 [(0, .ref x0), (1, .int x1), (2, .int x2)] [] h Q
  refine mx_aload_n (pc := 0) 0 (mx_dd dd_X7_become 0 (0, .aload_n 0, 1) rfl) rfl rfl ?_
  refine mx_iload_n (pc := 1) 1 (mx_dd dd_X7_become 1 (1, .iload_n 1, 1) rfl) rfl rfl ?_
  obtain ⟨g1, P⟩ := P
  obtain ⟨g2, P⟩ := P
  refine mx_cVI (pc := 2) (Y := mY_X7_isPlace) (As := [.int x1]) mx_ml_X7_72 mx_y_X7_isPlace rfl g2 (by decide) rfl (by decide) rfl (mx_dd dd_X7_become 2 (2, .invokevirtual 72, 3) rfl) g1 (by decide) P (fun v1 h1 P => ?_)
  refine mx_if_eq (pc := 5) 15 (mx_dd dd_X7_become 3 (5, .ifCond .eq 10, 3) rfl) rfl (fun c5 => ?_) (fun c5 => ?_)
  · have P := P.1 c5
    exact mx_return (pc := 15) (mx_dd dd_X7_become 9 (15, .return_, 1) rfl) rfl P
  · have P := P.2 c5
    refine mx_aload_n (pc := 8) 0 (mx_dd dd_X7_become 4 (8, .aload_n 0, 1) rfl) rfl rfl ?_
    obtain ⟨g3, P⟩ := P
    obtain ⟨b1, g4, P⟩ := P
    refine mx_getR (pc := 9) mx_fl_X7_11 g3 rfl g4 (mx_dd dd_X7_become 5 (9, .getfield 11, 3) rfl) ?_
    refine mx_iload_n (pc := 12) 1 (mx_dd dd_X7_become 6 (12, .iload_n 1, 1) rfl) rfl rfl ?_
    refine mx_iload_n (pc := 13) 2 (mx_dd dd_X7_become 7 (13, .iload_n 2, 1) rfl) rfl rfl ?_
    obtain ⟨g5, P⟩ := P
    obtain ⟨g6, P⟩ := P
    refine mx_iast (pc := 14) g5 g6 (mx_dd dd_X7_become 8 (14, .iastore, 1) rfl) ?_
    have P := P _ rfl
    exact mx_return (pc := 15) (mx_dd dd_X7_become 9 (15, .return_, 1) rfl) rfl P
theorem b_X7_stepAt {d : Nat} {h : mxH} {Q : mxRes → mxH → Prop} (x0 : Nat) (x1 : Int32)
    (P : 1 ≤ d ∧ hpK h x0 = 7 ∧ mx_SM mY_X7_isPlace (d - 1) [.ref x0, .int x1] h (mx_KI (fun v1 h1 => ((v1 = 0 → Q (.inl (some (.int (21 : Int32)))) h1) ∧ (¬ v1 = 0 → hpK h1 x0 = 7 ∧ ∃ b1 : Nat, hpR h1 x0 0 = some b1 ∧ hpK h1 b1 = 14 ∧ vp_in x1 (hpZ h1 b1) ∧ Q (.inl (some (.int (hpI h1 b1 x1.toNatClampNeg)))) h1))) (mx_XX mY_X7_stepAt Q))) : mx_SM mY_X7_stepAt d [.ref x0, .int x1] h Q := by
  refine mx_SM_of (by decide) (Nat.le_of_ble_eq_true rfl) ?_
  show mx_SX mY_X7_stepAt d 0 [(0, .ref x0), (1, .int x1)] [] h Q
  refine mx_aload_n (pc := 0) 0 (mx_dd dd_X7_stepAt 0 (0, .aload_n 0, 1) rfl) rfl rfl ?_
  refine mx_iload_n (pc := 1) 1 (mx_dd dd_X7_stepAt 1 (1, .iload_n 1, 1) rfl) rfl rfl ?_
  obtain ⟨g1, P⟩ := P
  obtain ⟨g2, P⟩ := P
  refine mx_cVI (pc := 2) (Y := mY_X7_isPlace) (As := [.int x1]) mx_ml_X7_72 mx_y_X7_isPlace rfl g2 (by decide) rfl (by decide) rfl (mx_dd dd_X7_stepAt 2 (2, .invokevirtual 72, 3) rfl) g1 (by decide) P (fun v1 h1 P => ?_)
  refine mx_if_eq (pc := 5) 17 (mx_dd dd_X7_stepAt 3 (5, .ifCond .eq 12, 3) rfl) rfl (fun c5 => ?_) (fun c5 => ?_)
  · have P := P.1 c5
    refine mx_bipush (pc := 17) (v := (21 : Int32)) (mx_dd dd_X7_stepAt 9 (17, .bipush 21, 2) rfl) (by decide) ?_
    exact mx_ireturn (pc := 19) (mx_dd dd_X7_stepAt 10 (19, .ireturn, 1) rfl) rfl rfl P
  · have P := P.2 c5
    refine mx_aload_n (pc := 8) 0 (mx_dd dd_X7_stepAt 4 (8, .aload_n 0, 1) rfl) rfl rfl ?_
    obtain ⟨g3, P⟩ := P
    obtain ⟨b1, g4, P⟩ := P
    refine mx_getR (pc := 9) mx_fl_X7_11 g3 rfl g4 (mx_dd dd_X7_stepAt 5 (9, .getfield 11, 3) rfl) ?_
    refine mx_iload_n (pc := 12) 1 (mx_dd dd_X7_stepAt 6 (12, .iload_n 1, 1) rfl) rfl rfl ?_
    obtain ⟨g5, P⟩ := P
    obtain ⟨g6, P⟩ := P
    refine mx_iald (pc := 13) g5 g6 (mx_dd dd_X7_stepAt 7 (13, .iaload, 1) rfl) ?_
    refine mx_goto (pc := 14) 19 (mx_dd dd_X7_stepAt 8 (14, .goto 5, 3) rfl) rfl ?_
    exact mx_ireturn (pc := 19) (mx_dd dd_X7_stepAt 10 (19, .ireturn, 1) rfl) rfl rfl P
theorem b_X7_operandAt {d : Nat} {h : mxH} {Q : mxRes → mxH → Prop} (x0 : Nat) (x1 : Int32)
    (P : 1 ≤ d ∧ hpK h x0 = 7 ∧ mx_SM mY_X7_isPlace (d - 1) [.ref x0, .int x1] h (mx_KI (fun v1 h1 => ((v1 = 0 → Q (.inl (some (.int (0 : Int32)))) h1) ∧ (¬ v1 = 0 → hpK h1 x0 = 7 ∧ ∃ b1 : Nat, hpR h1 x0 1 = some b1 ∧ hpK h1 b1 = 14 ∧ vp_in x1 (hpZ h1 b1) ∧ Q (.inl (some (.int (hpI h1 b1 x1.toNatClampNeg)))) h1))) (mx_XX mY_X7_operandAt Q))) : mx_SM mY_X7_operandAt d [.ref x0, .int x1] h Q := by
  refine mx_SM_of (by decide) (Nat.le_of_ble_eq_true rfl) ?_
  show mx_SX mY_X7_operandAt d 0 [(0, .ref x0), (1, .int x1)] [] h Q
  refine mx_aload_n (pc := 0) 0 (mx_dd dd_X7_operandAt 0 (0, .aload_n 0, 1) rfl) rfl rfl ?_
  refine mx_iload_n (pc := 1) 1 (mx_dd dd_X7_operandAt 1 (1, .iload_n 1, 1) rfl) rfl rfl ?_
  obtain ⟨g1, P⟩ := P
  obtain ⟨g2, P⟩ := P
  refine mx_cVI (pc := 2) (Y := mY_X7_isPlace) (As := [.int x1]) mx_ml_X7_72 mx_y_X7_isPlace rfl g2 (by decide) rfl (by decide) rfl (mx_dd dd_X7_operandAt 2 (2, .invokevirtual 72, 3) rfl) g1 (by decide) P (fun v1 h1 P => ?_)
  refine mx_if_eq (pc := 5) 17 (mx_dd dd_X7_operandAt 3 (5, .ifCond .eq 12, 3) rfl) rfl (fun c5 => ?_) (fun c5 => ?_)
  · have P := P.1 c5
    refine mx_iconst (pc := 17) (v := (0 : Int32)) (mx_dd dd_X7_operandAt 9 (17, .iconst 0, 1) rfl) (by decide) ?_
    exact mx_ireturn (pc := 18) (mx_dd dd_X7_operandAt 10 (18, .ireturn, 1) rfl) rfl rfl P
  · have P := P.2 c5
    refine mx_aload_n (pc := 8) 0 (mx_dd dd_X7_operandAt 4 (8, .aload_n 0, 1) rfl) rfl rfl ?_
    obtain ⟨g3, P⟩ := P
    obtain ⟨b1, g4, P⟩ := P
    refine mx_getR (pc := 9) mx_fl_X7_15 g3 rfl g4 (mx_dd dd_X7_operandAt 5 (9, .getfield 15, 3) rfl) ?_
    refine mx_iload_n (pc := 12) 1 (mx_dd dd_X7_operandAt 6 (12, .iload_n 1, 1) rfl) rfl rfl ?_
    obtain ⟨g5, P⟩ := P
    obtain ⟨g6, P⟩ := P
    refine mx_iald (pc := 13) g5 g6 (mx_dd dd_X7_operandAt 7 (13, .iaload, 1) rfl) ?_
    refine mx_goto (pc := 14) 18 (mx_dd dd_X7_operandAt 8 (14, .goto 4, 3) rfl) rfl ?_
    exact mx_ireturn (pc := 18) (mx_dd dd_X7_operandAt 10 (18, .ireturn, 1) rfl) rfl rfl P
theorem b_X7_targetAt {d : Nat} {h : mxH} {Q : mxRes → mxH → Prop} (x0 : Nat) (x1 : Int32)
    (P : 1 ≤ d ∧ hpK h x0 = 7 ∧ mx_SM mY_X7_isPlace (d - 1) [.ref x0, .int x1] h (mx_KI (fun v1 h1 => ((v1 = 0 → Q (.inl (some (.int (0 : Int32)))) h1) ∧ (¬ v1 = 0 → hpK h1 x0 = 7 ∧ ∃ b1 : Nat, hpR h1 x0 2 = some b1 ∧ hpK h1 b1 = 14 ∧ vp_in x1 (hpZ h1 b1) ∧ Q (.inl (some (.int (hpI h1 b1 x1.toNatClampNeg)))) h1))) (mx_XX mY_X7_targetAt Q))) : mx_SM mY_X7_targetAt d [.ref x0, .int x1] h Q := by
  refine mx_SM_of (by decide) (Nat.le_of_ble_eq_true rfl) ?_
  show mx_SX mY_X7_targetAt d 0 [(0, .ref x0), (1, .int x1)] [] h Q
  refine mx_aload_n (pc := 0) 0 (mx_dd dd_X7_targetAt 0 (0, .aload_n 0, 1) rfl) rfl rfl ?_
  refine mx_iload_n (pc := 1) 1 (mx_dd dd_X7_targetAt 1 (1, .iload_n 1, 1) rfl) rfl rfl ?_
  obtain ⟨g1, P⟩ := P
  obtain ⟨g2, P⟩ := P
  refine mx_cVI (pc := 2) (Y := mY_X7_isPlace) (As := [.int x1]) mx_ml_X7_72 mx_y_X7_isPlace rfl g2 (by decide) rfl (by decide) rfl (mx_dd dd_X7_targetAt 2 (2, .invokevirtual 72, 3) rfl) g1 (by decide) P (fun v1 h1 P => ?_)
  refine mx_if_eq (pc := 5) 17 (mx_dd dd_X7_targetAt 3 (5, .ifCond .eq 12, 3) rfl) rfl (fun c5 => ?_) (fun c5 => ?_)
  · have P := P.1 c5
    refine mx_iconst (pc := 17) (v := (0 : Int32)) (mx_dd dd_X7_targetAt 9 (17, .iconst 0, 1) rfl) (by decide) ?_
    exact mx_ireturn (pc := 18) (mx_dd dd_X7_targetAt 10 (18, .ireturn, 1) rfl) rfl rfl P
  · have P := P.2 c5
    refine mx_aload_n (pc := 8) 0 (mx_dd dd_X7_targetAt 4 (8, .aload_n 0, 1) rfl) rfl rfl ?_
    obtain ⟨g3, P⟩ := P
    obtain ⟨b1, g4, P⟩ := P
    refine mx_getR (pc := 9) mx_fl_X7_18 g3 rfl g4 (mx_dd dd_X7_targetAt 5 (9, .getfield 18, 3) rfl) ?_
    refine mx_iload_n (pc := 12) 1 (mx_dd dd_X7_targetAt 6 (12, .iload_n 1, 1) rfl) rfl rfl ?_
    obtain ⟨g5, P⟩ := P
    obtain ⟨g6, P⟩ := P
    refine mx_iald (pc := 13) g5 g6 (mx_dd dd_X7_targetAt 7 (13, .iaload, 1) rfl) ?_
    refine mx_goto (pc := 14) 18 (mx_dd dd_X7_targetAt 8 (14, .goto 4, 3) rfl) rfl ?_
    exact mx_ireturn (pc := 18) (mx_dd dd_X7_targetAt 10 (18, .ireturn, 1) rfl) rfl rfl P
theorem b_X7_end {d : Nat} {h : mxH} {Q : mxRes → mxH → Prop} (x0 : Nat)
    (P : hpK h x0 = 7 ∧ Q (.inl (some (.int ((hpI h x0 3) - (1 : Int32))))) h) : mx_SM mY_X7_end d [.ref x0] h Q := by
  refine mx_SM_of (by decide) (Nat.le_of_ble_eq_true rfl) ?_
  show mx_SX mY_X7_end d 0 [(0, .ref x0)] [] h Q
  refine mx_aload_n (pc := 0) 0 (mx_dd dd_X7_end 0 (0, .aload_n 0, 1) rfl) rfl rfl ?_
  obtain ⟨g1, P⟩ := P
  refine mx_getI (pc := 1) mx_fl_X7_55 g1 rfl (mx_dd dd_X7_end 1 (1, .getfield 55, 3) rfl) ?_
  refine mx_iconst (pc := 4) (v := (1 : Int32)) (mx_dd dd_X7_end 2 (4, .iconst 1, 1) rfl) (by decide) ?_
  refine mx_isub (pc := 5) (mx_dd dd_X7_end 3 (5, .isub, 1) rfl) ?_
  exact mx_ireturn (pc := 6) (mx_dd dd_X7_end 4 (6, .ireturn, 1) rfl) rfl rfl P
theorem b_X7_addCommand {d : Nat} {h : mxH} {Q : mxRes → mxH → Prop} (x0 : Nat) (x1 : Int32)
    (P : hpK h x0 = 7 ∧ (((hpI h x0 11) < 0 → Q (.inl (some (.int (-1 : Int32)))) h) ∧ (¬ (hpI h x0 11) < 0 → (((hpI h x0 11) < (700 : Int32) → ∃ b1 : Nat, hpR h x0 4 = some b1 ∧ hpK h b1 = 14 ∧ vp_in (hpI h x0 11) (hpZ h b1) ∧ ∀ h1 : mxH, h1 = hsI h b1 (hpI h x0 11).toNatClampNeg (-2 : Int32) → ∃ b2 : Nat, hpR h1 x0 5 = some b2 ∧ hpK h1 b2 = 14 ∧ vp_in (hpI h x0 11) (hpZ h1 b2) ∧ ∀ h2 : mxH, h2 = hsI h1 b2 (hpI h x0 11).toNatClampNeg x1 → ∃ b3 : Nat, hpR h2 x0 6 = some b3 ∧ hpK h2 b3 = 15 ∧ vp_in (hpI h x0 11) (hpZ h2 b3) ∧ ∀ h3 : mxH, h3 = hsL h2 b3 (hpI h x0 11).toNatClampNeg (0 : Int64) → ∃ b4 : Nat, hpR h3 x0 8 = some b4 ∧ hpK h3 b4 = 14 ∧ vp_in (hpI h x0 11) (hpZ h3 b4) ∧ ∀ h4 : mxH, h4 = hsI h3 b4 (hpI h x0 11).toNatClampNeg (0 : Int32) → ∃ b5 : Nat, hpR h4 x0 10 = some b5 ∧ hpK h4 b5 = 14 ∧ vp_in (hpI h x0 11) (hpZ h4 b5) ∧ ∀ h5 : mxH, h5 = hsI h4 b5 (hpI h x0 11).toNatClampNeg (0 : Int32) → ∀ h6 : mxH, h6 = hsI h5 x0 11 ((hpI h5 x0 11) + (1 : Int32)) → Q (.inl (some (.int (hpI h x0 11)))) h6) ∧ (¬ (hpI h x0 11) < (700 : Int32) → Q (.inl (some (.int (-1 : Int32)))) h))))) : mx_SM mY_X7_addCommand d [.ref x0, .int x1] h Q := by
  refine mx_SM_of (by decide) (Nat.le_of_ble_eq_true rfl) ?_
  show mx_SX mY_X7_addCommand d 0 [(0, .ref x0), (1, .int x1)] [] h Q
  refine mx_aload_n (pc := 0) 0 (mx_dd dd_X7_addCommand 0 (0, .aload_n 0, 1) rfl) rfl rfl ?_
  obtain ⟨g1, P⟩ := P
  refine mx_getI (pc := 1) mx_fl_X7_59 g1 rfl (mx_dd dd_X7_addCommand 1 (1, .getfield 59, 3) rfl) ?_
  refine mx_if_lt (pc := 4) 17 (mx_dd dd_X7_addCommand 2 (4, .ifCond .lt 13, 3) rfl) rfl (fun c4 => ?_) (fun c4 => ?_)
  · have P := P.1 c4
    refine mx_iconst (pc := 17) (v := (-1 : Int32)) (mx_dd dd_X7_addCommand 7 (17, .iconst (-1), 1) rfl) (by decide) ?_
    exact mx_ireturn (pc := 18) (mx_dd dd_X7_addCommand 8 (18, .ireturn, 1) rfl) rfl rfl P
  · have P := P.2 c4
    refine mx_aload_n (pc := 7) 0 (mx_dd dd_X7_addCommand 3 (7, .aload_n 0, 1) rfl) rfl rfl ?_
    refine mx_getI (pc := 8) mx_fl_X7_59 g1 rfl (mx_dd dd_X7_addCommand 4 (8, .getfield 59, 3) rfl) ?_
    refine mx_sipush (pc := 11) (v := (700 : Int32)) (mx_dd dd_X7_addCommand 5 (11, .sipush 700, 3) rfl) (by decide) ?_
    refine mx_icmp_lt (pc := 14) 19 (mx_dd dd_X7_addCommand 6 (14, .if_icmp .lt 5, 3) rfl) rfl (fun c14 => ?_) (fun c14 => ?_)
    · have P := P.1 c14
      refine mx_aload_n (pc := 19) 0 (mx_dd dd_X7_addCommand 9 (19, .aload_n 0, 1) rfl) rfl rfl ?_
      refine mx_getI (pc := 20) mx_fl_X7_59 g1 rfl (mx_dd dd_X7_addCommand 10 (20, .getfield 59, 3) rfl) ?_
      refine mx_istore_n (pc := 23) (mx_dd dd_X7_addCommand 11 (23, .istore_n 2, 1) rfl) rfl (by decide) (lv' := [(2, _), (0, _), (1, _)]) rfl ?_
      refine mx_aload_n (pc := 24) 1 (mx_dd dd_X7_addCommand 12 (24, .aload_n 0, 1) rfl) rfl rfl ?_
      obtain ⟨b1, g2, P⟩ := P
      refine mx_getR (pc := 25) mx_fl_X7_21 g1 rfl g2 (mx_dd dd_X7_addCommand 13 (25, .getfield 21, 3) rfl) ?_
      refine mx_iload_n (pc := 28) 0 (mx_dd dd_X7_addCommand 14 (28, .iload_n 2, 1) rfl) rfl rfl ?_
      refine mx_bipush (pc := 29) (v := (-2 : Int32)) (mx_dd dd_X7_addCommand 15 (29, .bipush (-2), 2) rfl) (by decide) ?_
      obtain ⟨g3, P⟩ := P
      obtain ⟨g4, P⟩ := P
      refine mx_iast (pc := 31) g3 g4 (mx_dd dd_X7_addCommand 16 (31, .iastore, 1) rfl) ?_
      have P := P _ rfl
      refine mx_aload_n (pc := 32) 1 (mx_dd dd_X7_addCommand 17 (32, .aload_n 0, 1) rfl) rfl rfl ?_
      obtain ⟨b2, g5, P⟩ := P
      refine mx_getR (pc := 33) mx_fl_X7_24 g1 rfl g5 (mx_dd dd_X7_addCommand 18 (33, .getfield 24, 3) rfl) ?_
      refine mx_iload_n (pc := 36) 0 (mx_dd dd_X7_addCommand 19 (36, .iload_n 2, 1) rfl) rfl rfl ?_
      refine mx_iload_n (pc := 37) 2 (mx_dd dd_X7_addCommand 20 (37, .iload_n 1, 1) rfl) rfl rfl ?_
      obtain ⟨g6, P⟩ := P
      obtain ⟨g7, P⟩ := P
      refine mx_iast (pc := 38) g6 g7 (mx_dd dd_X7_addCommand 21 (38, .iastore, 1) rfl) ?_
      have P := P _ rfl
      refine mx_aload_n (pc := 39) 1 (mx_dd dd_X7_addCommand 22 (39, .aload_n 0, 1) rfl) rfl rfl ?_
      obtain ⟨b3, g8, P⟩ := P
      refine mx_getR (pc := 40) mx_fl_X7_27 g1 rfl g8 (mx_dd dd_X7_addCommand 23 (40, .getfield 27, 3) rfl) ?_
      refine mx_iload_n (pc := 43) 0 (mx_dd dd_X7_addCommand 24 (43, .iload_n 2, 1) rfl) rfl rfl ?_
      refine mx_lconst (pc := 44) (v := (0 : Int64)) (mx_dd dd_X7_addCommand 25 (44, .lconst 0, 1) rfl) (by decide) ?_
      obtain ⟨g9, P⟩ := P
      obtain ⟨g10, P⟩ := P
      refine mx_last (pc := 45) g9 g10 (mx_dd dd_X7_addCommand 26 (45, .lastore, 1) rfl) ?_
      have P := P _ rfl
      refine mx_aload_n (pc := 46) 1 (mx_dd dd_X7_addCommand 27 (46, .aload_n 0, 1) rfl) rfl rfl ?_
      obtain ⟨b4, g11, P⟩ := P
      refine mx_getR (pc := 47) mx_fl_X7_34 g1 rfl g11 (mx_dd dd_X7_addCommand 28 (47, .getfield 34, 3) rfl) ?_
      refine mx_iload_n (pc := 50) 0 (mx_dd dd_X7_addCommand 29 (50, .iload_n 2, 1) rfl) rfl rfl ?_
      refine mx_iconst (pc := 51) (v := (0 : Int32)) (mx_dd dd_X7_addCommand 30 (51, .iconst 0, 1) rfl) (by decide) ?_
      obtain ⟨g12, P⟩ := P
      obtain ⟨g13, P⟩ := P
      refine mx_iast (pc := 52) g12 g13 (mx_dd dd_X7_addCommand 31 (52, .iastore, 1) rfl) ?_
      have P := P _ rfl
      refine mx_aload_n (pc := 53) 1 (mx_dd dd_X7_addCommand 32 (53, .aload_n 0, 1) rfl) rfl rfl ?_
      obtain ⟨b5, g14, P⟩ := P
      refine mx_getR (pc := 54) mx_fl_X7_40 g1 rfl g14 (mx_dd dd_X7_addCommand 33 (54, .getfield 40, 3) rfl) ?_
      refine mx_iload_n (pc := 57) 0 (mx_dd dd_X7_addCommand 34 (57, .iload_n 2, 1) rfl) rfl rfl ?_
      refine mx_iconst (pc := 58) (v := (0 : Int32)) (mx_dd dd_X7_addCommand 35 (58, .iconst 0, 1) rfl) (by decide) ?_
      obtain ⟨g15, P⟩ := P
      obtain ⟨g16, P⟩ := P
      refine mx_iast (pc := 59) g15 g16 (mx_dd dd_X7_addCommand 36 (59, .iastore, 1) rfl) ?_
      have P := P _ rfl
      refine mx_aload_n (pc := 60) 1 (mx_dd dd_X7_addCommand 37 (60, .aload_n 0, 1) rfl) rfl rfl ?_
      refine mx_dup (pc := 61) (mx_dd dd_X7_addCommand 38 (61, .dup, 1) rfl) rfl ?_
      refine mx_getI (pc := 62) mx_fl_X7_59 g1 rfl (mx_dd dd_X7_addCommand 39 (62, .getfield 59, 3) rfl) ?_
      refine mx_iconst (pc := 65) (v := (1 : Int32)) (mx_dd dd_X7_addCommand 40 (65, .iconst 1, 1) rfl) (by decide) ?_
      refine mx_iadd (pc := 66) (mx_dd dd_X7_addCommand 41 (66, .iadd, 1) rfl) ?_
      refine mx_putI (pc := 67) mx_fl_X7_59 g1 rfl (.inl rfl) rfl rfl (mx_dd dd_X7_addCommand 42 (67, .putfield 59, 3) rfl) ?_
      have P := P _ rfl
      refine mx_iload_n (pc := 70) 0 (mx_dd dd_X7_addCommand 43 (70, .iload_n 2, 1) rfl) rfl rfl ?_
      exact mx_ireturn (pc := 71) (mx_dd dd_X7_addCommand 44 (71, .ireturn, 1) rfl) rfl rfl P
    · have P := P.2 c14
      refine mx_iconst (pc := 17) (v := (-1 : Int32)) (mx_dd dd_X7_addCommand 7 (17, .iconst (-1), 1) rfl) (by decide) ?_
      exact mx_ireturn (pc := 18) (mx_dd dd_X7_addCommand 8 (18, .ireturn, 1) rfl) rfl rfl P
theorem b_X7_isCommand {d : Nat} {h : mxH} {Q : mxRes → mxH → Prop} (x0 : Nat) (x1 : Int32)
    (P : ((x1 < 0 → Q (.inl (some (.int (0 : Int32)))) h) ∧ (¬ x1 < 0 → hpK h x0 = 7 ∧ (((hpI h x0 11) ≤ x1 → Q (.inl (some (.int (0 : Int32)))) h) ∧ (¬ (hpI h x0 11) ≤ x1 → (((700 : Int32) ≤ x1 → Q (.inl (some (.int (0 : Int32)))) h) ∧ (¬ (700 : Int32) ≤ x1 → Q (.inl (some (.int (1 : Int32)))) h))))))) : mx_SM mY_X7_isCommand d [.ref x0, .int x1] h Q := by
  refine mx_SM_of (by decide) (Nat.le_of_ble_eq_true rfl) ?_
  show mx_SX mY_X7_isCommand d 0 [(0, .ref x0), (1, .int x1)] [] h Q
  refine mx_iload_n (pc := 0) 1 (mx_dd dd_X7_isCommand 0 (0, .iload_n 1, 1) rfl) rfl rfl ?_
  refine mx_if_lt (pc := 1) 23 (mx_dd dd_X7_isCommand 1 (1, .ifCond .lt 22, 3) rfl) rfl (fun c1 => ?_) (fun c1 => ?_)
  · have P := P.1 c1
    refine mx_iconst (pc := 23) (v := (0 : Int32)) (mx_dd dd_X7_isCommand 11 (23, .iconst 0, 1) rfl) (by decide) ?_
    exact mx_ireturn (pc := 24) (mx_dd dd_X7_isCommand 12 (24, .ireturn, 1) rfl) rfl rfl P
  · have P := P.2 c1
    refine mx_iload_n (pc := 4) 1 (mx_dd dd_X7_isCommand 2 (4, .iload_n 1, 1) rfl) rfl rfl ?_
    refine mx_aload_n (pc := 5) 0 (mx_dd dd_X7_isCommand 3 (5, .aload_n 0, 1) rfl) rfl rfl ?_
    obtain ⟨g1, P⟩ := P
    refine mx_getI (pc := 6) mx_fl_X7_59 g1 rfl (mx_dd dd_X7_isCommand 4 (6, .getfield 59, 3) rfl) ?_
    refine mx_icmp_ge (pc := 9) 23 (mx_dd dd_X7_isCommand 5 (9, .if_icmp .ge 14, 3) rfl) rfl (fun c9 => ?_) (fun c9 => ?_)
    · have P := P.1 c9
      refine mx_iconst (pc := 23) (v := (0 : Int32)) (mx_dd dd_X7_isCommand 11 (23, .iconst 0, 1) rfl) (by decide) ?_
      exact mx_ireturn (pc := 24) (mx_dd dd_X7_isCommand 12 (24, .ireturn, 1) rfl) rfl rfl P
    · have P := P.2 c9
      refine mx_iload_n (pc := 12) 1 (mx_dd dd_X7_isCommand 6 (12, .iload_n 1, 1) rfl) rfl rfl ?_
      refine mx_sipush (pc := 13) (v := (700 : Int32)) (mx_dd dd_X7_isCommand 7 (13, .sipush 700, 3) rfl) (by decide) ?_
      refine mx_icmp_ge (pc := 16) 23 (mx_dd dd_X7_isCommand 8 (16, .if_icmp .ge 7, 3) rfl) rfl (fun c16 => ?_) (fun c16 => ?_)
      · have P := P.1 c16
        refine mx_iconst (pc := 23) (v := (0 : Int32)) (mx_dd dd_X7_isCommand 11 (23, .iconst 0, 1) rfl) (by decide) ?_
        exact mx_ireturn (pc := 24) (mx_dd dd_X7_isCommand 12 (24, .ireturn, 1) rfl) rfl rfl P
      · have P := P.2 c16
        refine mx_iconst (pc := 19) (v := (1 : Int32)) (mx_dd dd_X7_isCommand 9 (19, .iconst 1, 1) rfl) (by decide) ?_
        refine mx_goto (pc := 20) 24 (mx_dd dd_X7_isCommand 10 (20, .goto 4, 3) rfl) rfl ?_
        exact mx_ireturn (pc := 24) (mx_dd dd_X7_isCommand 12 (24, .ireturn, 1) rfl) rfl rfl P
theorem b_X7_setBody {d : Nat} {h : mxH} {Q : mxRes → mxH → Prop} (x0 : Nat) (x1 : Int32) (x2 : Int32) (x3 : Int64)
    (P : 1 ≤ d ∧ hpK h x0 = 7 ∧ mx_SM mY_X7_isCommand (d - 1) [.ref x0, .int x1] h (mx_KI (fun v1 h1 => ((v1 = 0 → Q (.inl none) h1) ∧ (¬ v1 = 0 → hpK h1 x0 = 7 ∧ ∃ b1 : Nat, hpR h1 x0 4 = some b1 ∧ hpK h1 b1 = 14 ∧ vp_in x1 (hpZ h1 b1) ∧ ∀ h2 : mxH, h2 = hsI h1 b1 x1.toNatClampNeg x2 → ∃ b2 : Nat, hpR h2 x0 6 = some b2 ∧ hpK h2 b2 = 15 ∧ vp_in x1 (hpZ h2 b2) ∧ ∀ h3 : mxH, h3 = hsL h2 b2 x1.toNatClampNeg x3 → Q (.inl none) h3))) (mx_XX mY_X7_setBody Q))) : mx_SM mY_X7_setBody d [.ref x0, .int x1, .int x2, .long x3] h Q := by
  refine mx_SM_of (by decide) (Nat.le_of_ble_eq_true rfl) ?_
  show mx_SX mY_X7_setBody d 0 [(0, .ref x0), (1, .int x1), (2, .int x2), (3, .long x3)] [] h Q
  refine mx_aload_n (pc := 0) 0 (mx_dd dd_X7_setBody 0 (0, .aload_n 0, 1) rfl) rfl rfl ?_
  refine mx_iload_n (pc := 1) 1 (mx_dd dd_X7_setBody 1 (1, .iload_n 1, 1) rfl) rfl rfl ?_
  obtain ⟨g1, P⟩ := P
  obtain ⟨g2, P⟩ := P
  refine mx_cVI (pc := 2) (Y := mY_X7_isCommand) (As := [.int x1]) mx_ml_X7_76 mx_y_X7_isCommand rfl g2 (by decide) rfl (by decide) rfl (mx_dd dd_X7_setBody 2 (2, .invokevirtual 76, 3) rfl) g1 (by decide) P (fun v1 h1 P => ?_)
  refine mx_if_eq (pc := 5) 22 (mx_dd dd_X7_setBody 3 (5, .ifCond .eq 17, 3) rfl) rfl (fun c5 => ?_) (fun c5 => ?_)
  · have P := P.1 c5
    exact mx_return (pc := 22) (mx_dd dd_X7_setBody 14 (22, .return_, 1) rfl) rfl P
  · have P := P.2 c5
    refine mx_aload_n (pc := 8) 0 (mx_dd dd_X7_setBody 4 (8, .aload_n 0, 1) rfl) rfl rfl ?_
    obtain ⟨g3, P⟩ := P
    obtain ⟨b1, g4, P⟩ := P
    refine mx_getR (pc := 9) mx_fl_X7_21 g3 rfl g4 (mx_dd dd_X7_setBody 5 (9, .getfield 21, 3) rfl) ?_
    refine mx_iload_n (pc := 12) 1 (mx_dd dd_X7_setBody 6 (12, .iload_n 1, 1) rfl) rfl rfl ?_
    refine mx_iload_n (pc := 13) 2 (mx_dd dd_X7_setBody 7 (13, .iload_n 2, 1) rfl) rfl rfl ?_
    obtain ⟨g5, P⟩ := P
    obtain ⟨g6, P⟩ := P
    refine mx_iast (pc := 14) g5 g6 (mx_dd dd_X7_setBody 8 (14, .iastore, 1) rfl) ?_
    have P := P _ rfl
    refine mx_aload_n (pc := 15) 0 (mx_dd dd_X7_setBody 9 (15, .aload_n 0, 1) rfl) rfl rfl ?_
    obtain ⟨b2, g7, P⟩ := P
    refine mx_getR (pc := 16) mx_fl_X7_27 g3 rfl g7 (mx_dd dd_X7_setBody 10 (16, .getfield 27, 3) rfl) ?_
    refine mx_iload_n (pc := 19) 1 (mx_dd dd_X7_setBody 11 (19, .iload_n 1, 1) rfl) rfl rfl ?_
    refine mx_lload_n (pc := 20) 3 (mx_dd dd_X7_setBody 12 (20, .lload_n 3, 1) rfl) rfl rfl ?_
    obtain ⟨g8, P⟩ := P
    obtain ⟨g9, P⟩ := P
    refine mx_last (pc := 21) g8 g9 (mx_dd dd_X7_setBody 13 (21, .lastore, 1) rfl) ?_
    have P := P _ rfl
    exact mx_return (pc := 22) (mx_dd dd_X7_setBody 14 (22, .return_, 1) rfl) rfl P
theorem b_X7_kindOf {d : Nat} {h : mxH} {Q : mxRes → mxH → Prop} (x0 : Nat) (x1 : Int32)
    (P : 1 ≤ d ∧ hpK h x0 = 7 ∧ mx_SM mY_X7_isCommand (d - 1) [.ref x0, .int x1] h (mx_KI (fun v1 h1 => ((v1 = 0 → Q (.inl (some (.int (-2 : Int32)))) h1) ∧ (¬ v1 = 0 → hpK h1 x0 = 7 ∧ ∃ b1 : Nat, hpR h1 x0 4 = some b1 ∧ hpK h1 b1 = 14 ∧ vp_in x1 (hpZ h1 b1) ∧ Q (.inl (some (.int (hpI h1 b1 x1.toNatClampNeg)))) h1))) (mx_XX mY_X7_kindOf Q))) : mx_SM mY_X7_kindOf d [.ref x0, .int x1] h Q := by
  refine mx_SM_of (by decide) (Nat.le_of_ble_eq_true rfl) ?_
  show mx_SX mY_X7_kindOf d 0 [(0, .ref x0), (1, .int x1)] [] h Q
  refine mx_aload_n (pc := 0) 0 (mx_dd dd_X7_kindOf 0 (0, .aload_n 0, 1) rfl) rfl rfl ?_
  refine mx_iload_n (pc := 1) 1 (mx_dd dd_X7_kindOf 1 (1, .iload_n 1, 1) rfl) rfl rfl ?_
  obtain ⟨g1, P⟩ := P
  obtain ⟨g2, P⟩ := P
  refine mx_cVI (pc := 2) (Y := mY_X7_isCommand) (As := [.int x1]) mx_ml_X7_76 mx_y_X7_isCommand rfl g2 (by decide) rfl (by decide) rfl (mx_dd dd_X7_kindOf 2 (2, .invokevirtual 76, 3) rfl) g1 (by decide) P (fun v1 h1 P => ?_)
  refine mx_if_eq (pc := 5) 17 (mx_dd dd_X7_kindOf 3 (5, .ifCond .eq 12, 3) rfl) rfl (fun c5 => ?_) (fun c5 => ?_)
  · have P := P.1 c5
    refine mx_bipush (pc := 17) (v := (-2 : Int32)) (mx_dd dd_X7_kindOf 9 (17, .bipush (-2), 2) rfl) (by decide) ?_
    exact mx_ireturn (pc := 19) (mx_dd dd_X7_kindOf 10 (19, .ireturn, 1) rfl) rfl rfl P
  · have P := P.2 c5
    refine mx_aload_n (pc := 8) 0 (mx_dd dd_X7_kindOf 4 (8, .aload_n 0, 1) rfl) rfl rfl ?_
    obtain ⟨g3, P⟩ := P
    obtain ⟨b1, g4, P⟩ := P
    refine mx_getR (pc := 9) mx_fl_X7_21 g3 rfl g4 (mx_dd dd_X7_kindOf 5 (9, .getfield 21, 3) rfl) ?_
    refine mx_iload_n (pc := 12) 1 (mx_dd dd_X7_kindOf 6 (12, .iload_n 1, 1) rfl) rfl rfl ?_
    obtain ⟨g5, P⟩ := P
    obtain ⟨g6, P⟩ := P
    refine mx_iald (pc := 13) g5 g6 (mx_dd dd_X7_kindOf 7 (13, .iaload, 1) rfl) ?_
    refine mx_goto (pc := 14) 19 (mx_dd dd_X7_kindOf 8 (14, .goto 5, 3) rfl) rfl ?_
    exact mx_ireturn (pc := 19) (mx_dd dd_X7_kindOf 10 (19, .ireturn, 1) rfl) rfl rfl P
theorem b_X7_offsetOf {d : Nat} {h : mxH} {Q : mxRes → mxH → Prop} (x0 : Nat) (x1 : Int32)
    (P : 1 ≤ d ∧ hpK h x0 = 7 ∧ mx_SM mY_X7_isCommand (d - 1) [.ref x0, .int x1] h (mx_KI (fun v1 h1 => ((v1 = 0 → Q (.inl (some (.int (0 : Int32)))) h1) ∧ (¬ v1 = 0 → hpK h1 x0 = 7 ∧ ∃ b1 : Nat, hpR h1 x0 5 = some b1 ∧ hpK h1 b1 = 14 ∧ vp_in x1 (hpZ h1 b1) ∧ Q (.inl (some (.int (hpI h1 b1 x1.toNatClampNeg)))) h1))) (mx_XX mY_X7_offsetOf Q))) : mx_SM mY_X7_offsetOf d [.ref x0, .int x1] h Q := by
  refine mx_SM_of (by decide) (Nat.le_of_ble_eq_true rfl) ?_
  show mx_SX mY_X7_offsetOf d 0 [(0, .ref x0), (1, .int x1)] [] h Q
  refine mx_aload_n (pc := 0) 0 (mx_dd dd_X7_offsetOf 0 (0, .aload_n 0, 1) rfl) rfl rfl ?_
  refine mx_iload_n (pc := 1) 1 (mx_dd dd_X7_offsetOf 1 (1, .iload_n 1, 1) rfl) rfl rfl ?_
  obtain ⟨g1, P⟩ := P
  obtain ⟨g2, P⟩ := P
  refine mx_cVI (pc := 2) (Y := mY_X7_isCommand) (As := [.int x1]) mx_ml_X7_76 mx_y_X7_isCommand rfl g2 (by decide) rfl (by decide) rfl (mx_dd dd_X7_offsetOf 2 (2, .invokevirtual 76, 3) rfl) g1 (by decide) P (fun v1 h1 P => ?_)
  refine mx_if_eq (pc := 5) 17 (mx_dd dd_X7_offsetOf 3 (5, .ifCond .eq 12, 3) rfl) rfl (fun c5 => ?_) (fun c5 => ?_)
  · have P := P.1 c5
    refine mx_iconst (pc := 17) (v := (0 : Int32)) (mx_dd dd_X7_offsetOf 9 (17, .iconst 0, 1) rfl) (by decide) ?_
    exact mx_ireturn (pc := 18) (mx_dd dd_X7_offsetOf 10 (18, .ireturn, 1) rfl) rfl rfl P
  · have P := P.2 c5
    refine mx_aload_n (pc := 8) 0 (mx_dd dd_X7_offsetOf 4 (8, .aload_n 0, 1) rfl) rfl rfl ?_
    obtain ⟨g3, P⟩ := P
    obtain ⟨b1, g4, P⟩ := P
    refine mx_getR (pc := 9) mx_fl_X7_24 g3 rfl g4 (mx_dd dd_X7_offsetOf 5 (9, .getfield 24, 3) rfl) ?_
    refine mx_iload_n (pc := 12) 1 (mx_dd dd_X7_offsetOf 6 (12, .iload_n 1, 1) rfl) rfl rfl ?_
    obtain ⟨g5, P⟩ := P
    obtain ⟨g6, P⟩ := P
    refine mx_iald (pc := 13) g5 g6 (mx_dd dd_X7_offsetOf 7 (13, .iaload, 1) rfl) ?_
    refine mx_goto (pc := 14) 18 (mx_dd dd_X7_offsetOf 8 (14, .goto 4, 3) rfl) rfl ?_
    exact mx_ireturn (pc := 18) (mx_dd dd_X7_offsetOf 10 (18, .ireturn, 1) rfl) rfl rfl P
theorem b_X7_nameOf {d : Nat} {h : mxH} {Q : mxRes → mxH → Prop} (x0 : Nat) (x1 : Int32)
    (P : 1 ≤ d ∧ hpK h x0 = 7 ∧ mx_SM mY_X7_isCommand (d - 1) [.ref x0, .int x1] h (mx_KI (fun v1 h1 => ((v1 = 0 → Q (.inl (some (.long (0 : Int64)))) h1) ∧ (¬ v1 = 0 → hpK h1 x0 = 7 ∧ ∃ b1 : Nat, hpR h1 x0 6 = some b1 ∧ hpK h1 b1 = 15 ∧ vp_in x1 (hpZ h1 b1) ∧ Q (.inl (some (.long (hpL h1 b1 x1.toNatClampNeg)))) h1))) (mx_XX mY_X7_nameOf Q))) : mx_SM mY_X7_nameOf d [.ref x0, .int x1] h Q := by
  refine mx_SM_of (by decide) (Nat.le_of_ble_eq_true rfl) ?_
  show mx_SX mY_X7_nameOf d 0 [(0, .ref x0), (1, .int x1)] [] h Q
  refine mx_aload_n (pc := 0) 0 (mx_dd dd_X7_nameOf 0 (0, .aload_n 0, 1) rfl) rfl rfl ?_
  refine mx_iload_n (pc := 1) 1 (mx_dd dd_X7_nameOf 1 (1, .iload_n 1, 1) rfl) rfl rfl ?_
  obtain ⟨g1, P⟩ := P
  obtain ⟨g2, P⟩ := P
  refine mx_cVI (pc := 2) (Y := mY_X7_isCommand) (As := [.int x1]) mx_ml_X7_76 mx_y_X7_isCommand rfl g2 (by decide) rfl (by decide) rfl (mx_dd dd_X7_nameOf 2 (2, .invokevirtual 76, 3) rfl) g1 (by decide) P (fun v1 h1 P => ?_)
  refine mx_if_eq (pc := 5) 17 (mx_dd dd_X7_nameOf 3 (5, .ifCond .eq 12, 3) rfl) rfl (fun c5 => ?_) (fun c5 => ?_)
  · have P := P.1 c5
    refine mx_lconst (pc := 17) (v := (0 : Int64)) (mx_dd dd_X7_nameOf 9 (17, .lconst 0, 1) rfl) (by decide) ?_
    exact mx_lreturn (pc := 18) (mx_dd dd_X7_nameOf 10 (18, .lreturn, 1) rfl) rfl P
  · have P := P.2 c5
    refine mx_aload_n (pc := 8) 0 (mx_dd dd_X7_nameOf 4 (8, .aload_n 0, 1) rfl) rfl rfl ?_
    obtain ⟨g3, P⟩ := P
    obtain ⟨b1, g4, P⟩ := P
    refine mx_getR (pc := 9) mx_fl_X7_27 g3 rfl g4 (mx_dd dd_X7_nameOf 5 (9, .getfield 27, 3) rfl) ?_
    refine mx_iload_n (pc := 12) 1 (mx_dd dd_X7_nameOf 6 (12, .iload_n 1, 1) rfl) rfl rfl ?_
    obtain ⟨g5, P⟩ := P
    obtain ⟨g6, P⟩ := P
    refine mx_lald (pc := 13) g5 g6 (mx_dd dd_X7_nameOf 7 (13, .laload, 1) rfl) ?_
    refine mx_goto (pc := 14) 18 (mx_dd dd_X7_nameOf 8 (14, .goto 4, 3) rfl) rfl ?_
    exact mx_lreturn (pc := 18) (mx_dd dd_X7_nameOf 10 (18, .lreturn, 1) rfl) rfl P
theorem b_X7_addArgument {d : Nat} {h : mxH} {Q : mxRes → mxH → Prop} (x0 : Nat) (x1 : Int32) (x2 : Int32) (x3 : Int64)
    (P : 1 ≤ d ∧ hpK h x0 = 7 ∧ mx_SM mY_X7_isCommand (d - 1) [.ref x0, .int x1] h (mx_KI (fun v1 h1 => ((v1 = 0 → Q (.inl none) h1) ∧ (¬ v1 = 0 → hpK h1 x0 = 7 ∧ (((hpI h1 x0 14) < 0 → Q (.inl none) h1) ∧ (¬ (hpI h1 x0 14) < 0 → (((hpI h1 x0 14) < (700 : Int32) → ∃ b1 : Nat, hpR h1 x0 12 = some b1 ∧ hpK h1 b1 = 14 ∧ vp_in (hpI h1 x0 14) (hpZ h1 b1) ∧ ∀ h2 : mxH, h2 = hsI h1 b1 (hpI h1 x0 14).toNatClampNeg x2 → ∃ b2 : Nat, hpR h2 x0 13 = some b2 ∧ hpK h2 b2 = 15 ∧ vp_in (hpI h2 x0 14) (hpZ h2 b2) ∧ ∀ h3 : mxH, h3 = hsL h2 b2 (hpI h2 x0 14).toNatClampNeg x3 → ∃ b3 : Nat, hpR h3 x0 8 = some b3 ∧ hpK h3 b3 = 14 ∧ vp_in x1 (hpZ h3 b3) ∧ ((¬ (hpI h3 b3 x1.toNatClampNeg) = 0 → mx_SX mY_X7_addArgument d 65 [(0, .ref x0), (1, .int x1)] [] h3 Q) ∧ ((hpI h3 b3 x1.toNatClampNeg) = 0 → ∃ b4 : Nat, hpR h3 x0 7 = some b4 ∧ hpK h3 b4 = 14 ∧ vp_in x1 (hpZ h3 b4) ∧ ∀ h4 : mxH, h4 = hsI h3 b4 x1.toNatClampNeg (hpI h3 x0 14) → mx_SX mY_X7_addArgument d 65 [(0, .ref x0), (1, .int x1)] [] h4 Q))) ∧ (¬ (hpI h1 x0 14) < (700 : Int32) → Q (.inl none) h1))))))) (mx_XX mY_X7_addArgument Q))) : mx_SM mY_X7_addArgument d [.ref x0, .int x1, .int x2, .long x3] h Q := by
  refine mx_SM_of (by decide) (Nat.le_of_ble_eq_true rfl) ?_
  show mx_SX mY_X7_addArgument d 0 [(0, .ref x0), (1, .int x1), (2, .int x2), (3, .long x3)] [] h Q
  refine mx_aload_n (pc := 0) 0 (mx_dd dd_X7_addArgument 0 (0, .aload_n 0, 1) rfl) rfl rfl ?_
  refine mx_iload_n (pc := 1) 1 (mx_dd dd_X7_addArgument 1 (1, .iload_n 1, 1) rfl) rfl rfl ?_
  obtain ⟨g1, P⟩ := P
  obtain ⟨g2, P⟩ := P
  refine mx_cVI (pc := 2) (Y := mY_X7_isCommand) (As := [.int x1]) mx_ml_X7_76 mx_y_X7_isCommand rfl g2 (by decide) rfl (by decide) rfl (mx_dd dd_X7_addArgument 2 (2, .invokevirtual 76, 3) rfl) g1 (by decide) P (fun v1 h1 P => ?_)
  refine mx_if_eq (pc := 5) 25 (mx_dd dd_X7_addArgument 3 (5, .ifCond .eq 20, 3) rfl) rfl (fun c5 => ?_) (fun c5 => ?_)
  · have P := P.1 c5
    exact mx_return (pc := 25) (mx_dd dd_X7_addArgument 11 (25, .return_, 1) rfl) rfl P
  · have P := P.2 c5
    refine mx_aload_n (pc := 8) 0 (mx_dd dd_X7_addArgument 4 (8, .aload_n 0, 1) rfl) rfl rfl ?_
    obtain ⟨g3, P⟩ := P
    refine mx_getI (pc := 9) mx_fl_X7_62 g3 rfl (mx_dd dd_X7_addArgument 5 (9, .getfield 62, 3) rfl) ?_
    refine mx_if_lt (pc := 12) 25 (mx_dd dd_X7_addArgument 6 (12, .ifCond .lt 13, 3) rfl) rfl (fun c12 => ?_) (fun c12 => ?_)
    · have P := P.1 c12
      exact mx_return (pc := 25) (mx_dd dd_X7_addArgument 11 (25, .return_, 1) rfl) rfl P
    · have P := P.2 c12
      refine mx_aload_n (pc := 15) 0 (mx_dd dd_X7_addArgument 7 (15, .aload_n 0, 1) rfl) rfl rfl ?_
      refine mx_getI (pc := 16) mx_fl_X7_62 g3 rfl (mx_dd dd_X7_addArgument 8 (16, .getfield 62, 3) rfl) ?_
      refine mx_sipush (pc := 19) (v := (700 : Int32)) (mx_dd dd_X7_addArgument 9 (19, .sipush 700, 3) rfl) (by decide) ?_
      refine mx_icmp_lt (pc := 22) 26 (mx_dd dd_X7_addArgument 10 (22, .if_icmp .lt 4, 3) rfl) rfl (fun c22 => ?_) (fun c22 => ?_)
      · have P := P.1 c22
        refine mx_aload_n (pc := 26) 0 (mx_dd dd_X7_addArgument 12 (26, .aload_n 0, 1) rfl) rfl rfl ?_
        obtain ⟨b1, g4, P⟩ := P
        refine mx_getR (pc := 27) mx_fl_X7_43 g3 rfl g4 (mx_dd dd_X7_addArgument 13 (27, .getfield 43, 3) rfl) ?_
        refine mx_aload_n (pc := 30) 0 (mx_dd dd_X7_addArgument 14 (30, .aload_n 0, 1) rfl) rfl rfl ?_
        refine mx_getI (pc := 31) mx_fl_X7_62 g3 rfl (mx_dd dd_X7_addArgument 15 (31, .getfield 62, 3) rfl) ?_
        refine mx_iload_n (pc := 34) 2 (mx_dd dd_X7_addArgument 16 (34, .iload_n 2, 1) rfl) rfl rfl ?_
        obtain ⟨g5, P⟩ := P
        obtain ⟨g6, P⟩ := P
        refine mx_iast (pc := 35) g5 g6 (mx_dd dd_X7_addArgument 17 (35, .iastore, 1) rfl) ?_
        have P := P _ rfl
        refine mx_aload_n (pc := 36) 0 (mx_dd dd_X7_addArgument 18 (36, .aload_n 0, 1) rfl) rfl rfl ?_
        obtain ⟨b2, g7, P⟩ := P
        refine mx_getR (pc := 37) mx_fl_X7_46 g3 rfl g7 (mx_dd dd_X7_addArgument 19 (37, .getfield 46, 3) rfl) ?_
        refine mx_aload_n (pc := 40) 0 (mx_dd dd_X7_addArgument 20 (40, .aload_n 0, 1) rfl) rfl rfl ?_
        refine mx_getI (pc := 41) mx_fl_X7_62 g3 rfl (mx_dd dd_X7_addArgument 21 (41, .getfield 62, 3) rfl) ?_
        refine mx_lload_n (pc := 44) 3 (mx_dd dd_X7_addArgument 22 (44, .lload_n 3, 1) rfl) rfl rfl ?_
        obtain ⟨g8, P⟩ := P
        obtain ⟨g9, P⟩ := P
        refine mx_last (pc := 45) g8 g9 (mx_dd dd_X7_addArgument 23 (45, .lastore, 1) rfl) ?_
        have P := P _ rfl
        refine mx_aload_n (pc := 46) 0 (mx_dd dd_X7_addArgument 24 (46, .aload_n 0, 1) rfl) rfl rfl ?_
        obtain ⟨b3, g10, P⟩ := P
        refine mx_getR (pc := 47) mx_fl_X7_34 g3 rfl g10 (mx_dd dd_X7_addArgument 25 (47, .getfield 34, 3) rfl) ?_
        refine mx_iload_n (pc := 50) 1 (mx_dd dd_X7_addArgument 26 (50, .iload_n 1, 1) rfl) rfl rfl ?_
        obtain ⟨g11, P⟩ := P
        obtain ⟨g12, P⟩ := P
        refine mx_iald (pc := 51) g11 g12 (mx_dd dd_X7_addArgument 27 (51, .iaload, 1) rfl) ?_
        refine mx_if_ne (pc := 52) 65 (mx_dd dd_X7_addArgument 28 (52, .ifCond .ne 13, 3) rfl) rfl (fun c52 => ?_) (fun c52 => ?_)
        · have P := P.1 c52
          refine mx_sel [0, 1] rfl ?_
          exact P
        · have P := P.2 c52
          refine mx_aload_n (pc := 55) 0 (mx_dd dd_X7_addArgument 29 (55, .aload_n 0, 1) rfl) rfl rfl ?_
          obtain ⟨b4, g13, P⟩ := P
          refine mx_getR (pc := 56) mx_fl_X7_31 g3 rfl g13 (mx_dd dd_X7_addArgument 30 (56, .getfield 31, 3) rfl) ?_
          refine mx_iload_n (pc := 59) 1 (mx_dd dd_X7_addArgument 31 (59, .iload_n 1, 1) rfl) rfl rfl ?_
          refine mx_aload_n (pc := 60) 0 (mx_dd dd_X7_addArgument 32 (60, .aload_n 0, 1) rfl) rfl rfl ?_
          refine mx_getI (pc := 61) mx_fl_X7_62 g3 rfl (mx_dd dd_X7_addArgument 33 (61, .getfield 62, 3) rfl) ?_
          obtain ⟨g14, P⟩ := P
          obtain ⟨g15, P⟩ := P
          refine mx_iast (pc := 64) g14 g15 (mx_dd dd_X7_addArgument 34 (64, .iastore, 1) rfl) ?_
          have P := P _ rfl
          refine mx_sel [0, 1] rfl ?_
          exact P
      · have P := P.2 c22
        exact mx_return (pc := 25) (mx_dd dd_X7_addArgument 11 (25, .return_, 1) rfl) rfl P
theorem b_X7_addArgument_65 {d : Nat} {h : mxH} {Q : mxRes → mxH → Prop} (x0 : Nat) (x1 : Int32)
    (P : hpK h x0 = 7 ∧ ∃ b1 : Nat, hpR h x0 8 = some b1 ∧ hpK h b1 = 14 ∧ vp_in x1 (hpZ h b1) ∧ ∀ h1 : mxH, h1 = hsI h b1 x1.toNatClampNeg ((hpI h b1 x1.toNatClampNeg) + (1 : Int32)) → ∀ h2 : mxH, h2 = hsI h1 x0 14 ((hpI h1 x0 14) + (1 : Int32)) → Q (.inl none) h2) : mx_SX mY_X7_addArgument d 65 [(0, .ref x0), (1, .int x1)] [] h Q := by
  refine mx_aload_n (pc := 65) 0 (mx_dd dd_X7_addArgument 35 (65, .aload_n 0, 1) rfl) rfl rfl ?_
  obtain ⟨g1, P⟩ := P
  obtain ⟨b1, g2, P⟩ := P
  refine mx_getR (pc := 66) mx_fl_X7_34 g1 rfl g2 (mx_dd dd_X7_addArgument 36 (66, .getfield 34, 3) rfl) ?_
  refine mx_iload_n (pc := 69) 1 (mx_dd dd_X7_addArgument 37 (69, .iload_n 1, 1) rfl) rfl rfl ?_
  refine mx_dup2 (pc := 70) (mx_dd dd_X7_addArgument 38 (70, .dup2, 1) rfl) rfl rfl ?_
  obtain ⟨g3, P⟩ := P
  obtain ⟨g4, P⟩ := P
  refine mx_iald (pc := 71) g3 g4 (mx_dd dd_X7_addArgument 39 (71, .iaload, 1) rfl) ?_
  refine mx_iconst (pc := 72) (v := (1 : Int32)) (mx_dd dd_X7_addArgument 40 (72, .iconst 1, 1) rfl) (by decide) ?_
  refine mx_iadd (pc := 73) (mx_dd dd_X7_addArgument 41 (73, .iadd, 1) rfl) ?_
  refine mx_iast (pc := 74) g3 g4 (mx_dd dd_X7_addArgument 42 (74, .iastore, 1) rfl) ?_
  have P := P _ rfl
  refine mx_aload_n (pc := 75) 0 (mx_dd dd_X7_addArgument 43 (75, .aload_n 0, 1) rfl) rfl rfl ?_
  refine mx_dup (pc := 76) (mx_dd dd_X7_addArgument 44 (76, .dup, 1) rfl) rfl ?_
  refine mx_getI (pc := 77) mx_fl_X7_62 g1 rfl (mx_dd dd_X7_addArgument 45 (77, .getfield 62, 3) rfl) ?_
  refine mx_iconst (pc := 80) (v := (1 : Int32)) (mx_dd dd_X7_addArgument 46 (80, .iconst 1, 1) rfl) (by decide) ?_
  refine mx_iadd (pc := 81) (mx_dd dd_X7_addArgument 47 (81, .iadd, 1) rfl) ?_
  refine mx_putI (pc := 82) mx_fl_X7_62 g1 rfl (.inl rfl) rfl rfl (mx_dd dd_X7_addArgument 48 (82, .putfield 62, 3) rfl) ?_
  have P := P _ rfl
  exact mx_return (pc := 85) (mx_dd dd_X7_addArgument 49 (85, .return_, 1) rfl) rfl P
theorem b_X7_argumentsOf {d : Nat} {h : mxH} {Q : mxRes → mxH → Prop} (x0 : Nat) (x1 : Int32)
    (P : 1 ≤ d ∧ hpK h x0 = 7 ∧ mx_SM mY_X7_isCommand (d - 1) [.ref x0, .int x1] h (mx_KI (fun v1 h1 => ((v1 = 0 → Q (.inl (some (.int (0 : Int32)))) h1) ∧ (¬ v1 = 0 → hpK h1 x0 = 7 ∧ ∃ b1 : Nat, hpR h1 x0 8 = some b1 ∧ hpK h1 b1 = 14 ∧ vp_in x1 (hpZ h1 b1) ∧ Q (.inl (some (.int (hpI h1 b1 x1.toNatClampNeg)))) h1))) (mx_XX mY_X7_argumentsOf Q))) : mx_SM mY_X7_argumentsOf d [.ref x0, .int x1] h Q := by
  refine mx_SM_of (by decide) (Nat.le_of_ble_eq_true rfl) ?_
  show mx_SX mY_X7_argumentsOf d 0 [(0, .ref x0), (1, .int x1)] [] h Q
  refine mx_aload_n (pc := 0) 0 (mx_dd dd_X7_argumentsOf 0 (0, .aload_n 0, 1) rfl) rfl rfl ?_
  refine mx_iload_n (pc := 1) 1 (mx_dd dd_X7_argumentsOf 1 (1, .iload_n 1, 1) rfl) rfl rfl ?_
  obtain ⟨g1, P⟩ := P
  obtain ⟨g2, P⟩ := P
  refine mx_cVI (pc := 2) (Y := mY_X7_isCommand) (As := [.int x1]) mx_ml_X7_76 mx_y_X7_isCommand rfl g2 (by decide) rfl (by decide) rfl (mx_dd dd_X7_argumentsOf 2 (2, .invokevirtual 76, 3) rfl) g1 (by decide) P (fun v1 h1 P => ?_)
  refine mx_if_eq (pc := 5) 17 (mx_dd dd_X7_argumentsOf 3 (5, .ifCond .eq 12, 3) rfl) rfl (fun c5 => ?_) (fun c5 => ?_)
  · have P := P.1 c5
    refine mx_iconst (pc := 17) (v := (0 : Int32)) (mx_dd dd_X7_argumentsOf 9 (17, .iconst 0, 1) rfl) (by decide) ?_
    exact mx_ireturn (pc := 18) (mx_dd dd_X7_argumentsOf 10 (18, .ireturn, 1) rfl) rfl rfl P
  · have P := P.2 c5
    refine mx_aload_n (pc := 8) 0 (mx_dd dd_X7_argumentsOf 4 (8, .aload_n 0, 1) rfl) rfl rfl ?_
    obtain ⟨g3, P⟩ := P
    obtain ⟨b1, g4, P⟩ := P
    refine mx_getR (pc := 9) mx_fl_X7_34 g3 rfl g4 (mx_dd dd_X7_argumentsOf 5 (9, .getfield 34, 3) rfl) ?_
    refine mx_iload_n (pc := 12) 1 (mx_dd dd_X7_argumentsOf 6 (12, .iload_n 1, 1) rfl) rfl rfl ?_
    obtain ⟨g5, P⟩ := P
    obtain ⟨g6, P⟩ := P
    refine mx_iald (pc := 13) g5 g6 (mx_dd dd_X7_argumentsOf 7 (13, .iaload, 1) rfl) ?_
    refine mx_goto (pc := 14) 18 (mx_dd dd_X7_argumentsOf 8 (14, .goto 4, 3) rfl) rfl ?_
    exact mx_ireturn (pc := 18) (mx_dd dd_X7_argumentsOf 10 (18, .ireturn, 1) rfl) rfl rfl P
theorem b_X7_argumentAt {d : Nat} {h : mxH} {Q : mxRes → mxH → Prop} (x0 : Nat) (x1 : Int32) (x2 : Int32)
    (P : 1 ≤ d ∧ hpK h x0 = 7 ∧ mx_SM mY_X7_isCommand (d - 1) [.ref x0, .int x1] h (mx_KI (fun v1 h1 => ((v1 = 0 → Q (.inl (some (.int (-1 : Int32)))) h1) ∧ (¬ v1 = 0 → ((x2 < 0 → Q (.inl (some (.int (-1 : Int32)))) h1) ∧ (¬ x2 < 0 → hpK h1 x0 = 7 ∧ ∃ b1 : Nat, hpR h1 x0 8 = some b1 ∧ hpK h1 b1 = 14 ∧ vp_in x1 (hpZ h1 b1) ∧ ((x2 < (hpI h1 b1 x1.toNatClampNeg) → ∃ b2 : Nat, hpR h1 x0 7 = some b2 ∧ hpK h1 b2 = 14 ∧ vp_in x1 (hpZ h1 b2) ∧ Q (.inl (some (.int ((hpI h1 b2 x1.toNatClampNeg) + x2)))) h1) ∧ (¬ x2 < (hpI h1 b1 x1.toNatClampNeg) → Q (.inl (some (.int (-1 : Int32)))) h1))))))) (mx_XX mY_X7_argumentAt Q))) : mx_SM mY_X7_argumentAt d [.ref x0, .int x1, .int x2] h Q := by
  refine mx_SM_of (by decide) (Nat.le_of_ble_eq_true rfl) ?_
  show mx_SX mY_X7_argumentAt d 0 [(0, .ref x0), (1, .int x1), (2, .int x2)] [] h Q
  refine mx_aload_n (pc := 0) 0 (mx_dd dd_X7_argumentAt 0 (0, .aload_n 0, 1) rfl) rfl rfl ?_
  refine mx_iload_n (pc := 1) 1 (mx_dd dd_X7_argumentAt 1 (1, .iload_n 1, 1) rfl) rfl rfl ?_
  obtain ⟨g1, P⟩ := P
  obtain ⟨g2, P⟩ := P
  refine mx_cVI (pc := 2) (Y := mY_X7_isCommand) (As := [.int x1]) mx_ml_X7_76 mx_y_X7_isCommand rfl g2 (by decide) rfl (by decide) rfl (mx_dd dd_X7_argumentAt 2 (2, .invokevirtual 76, 3) rfl) g1 (by decide) P (fun v1 h1 P => ?_)
  refine mx_if_eq (pc := 5) 22 (mx_dd dd_X7_argumentAt 3 (5, .ifCond .eq 17, 3) rfl) rfl (fun c5 => ?_) (fun c5 => ?_)
  · have P := P.1 c5
    refine mx_iconst (pc := 22) (v := (-1 : Int32)) (mx_dd dd_X7_argumentAt 12 (22, .iconst (-1), 1) rfl) (by decide) ?_
    exact mx_ireturn (pc := 23) (mx_dd dd_X7_argumentAt 13 (23, .ireturn, 1) rfl) rfl rfl P
  · have P := P.2 c5
    refine mx_iload_n (pc := 8) 2 (mx_dd dd_X7_argumentAt 4 (8, .iload_n 2, 1) rfl) rfl rfl ?_
    refine mx_if_lt (pc := 9) 22 (mx_dd dd_X7_argumentAt 5 (9, .ifCond .lt 13, 3) rfl) rfl (fun c9 => ?_) (fun c9 => ?_)
    · have P := P.1 c9
      refine mx_iconst (pc := 22) (v := (-1 : Int32)) (mx_dd dd_X7_argumentAt 12 (22, .iconst (-1), 1) rfl) (by decide) ?_
      exact mx_ireturn (pc := 23) (mx_dd dd_X7_argumentAt 13 (23, .ireturn, 1) rfl) rfl rfl P
    · have P := P.2 c9
      refine mx_iload_n (pc := 12) 2 (mx_dd dd_X7_argumentAt 6 (12, .iload_n 2, 1) rfl) rfl rfl ?_
      refine mx_aload_n (pc := 13) 0 (mx_dd dd_X7_argumentAt 7 (13, .aload_n 0, 1) rfl) rfl rfl ?_
      obtain ⟨g3, P⟩ := P
      obtain ⟨b1, g4, P⟩ := P
      refine mx_getR (pc := 14) mx_fl_X7_34 g3 rfl g4 (mx_dd dd_X7_argumentAt 8 (14, .getfield 34, 3) rfl) ?_
      refine mx_iload_n (pc := 17) 1 (mx_dd dd_X7_argumentAt 9 (17, .iload_n 1, 1) rfl) rfl rfl ?_
      obtain ⟨g5, P⟩ := P
      obtain ⟨g6, P⟩ := P
      refine mx_iald (pc := 18) g5 g6 (mx_dd dd_X7_argumentAt 10 (18, .iaload, 1) rfl) ?_
      refine mx_icmp_lt (pc := 19) 24 (mx_dd dd_X7_argumentAt 11 (19, .if_icmp .lt 5, 3) rfl) rfl (fun c19 => ?_) (fun c19 => ?_)
      · have P := P.1 c19
        refine mx_aload_n (pc := 24) 0 (mx_dd dd_X7_argumentAt 14 (24, .aload_n 0, 1) rfl) rfl rfl ?_
        obtain ⟨b2, g7, P⟩ := P
        refine mx_getR (pc := 25) mx_fl_X7_31 g3 rfl g7 (mx_dd dd_X7_argumentAt 15 (25, .getfield 31, 3) rfl) ?_
        refine mx_iload_n (pc := 28) 1 (mx_dd dd_X7_argumentAt 16 (28, .iload_n 1, 1) rfl) rfl rfl ?_
        obtain ⟨g8, P⟩ := P
        obtain ⟨g9, P⟩ := P
        refine mx_iald (pc := 29) g8 g9 (mx_dd dd_X7_argumentAt 17 (29, .iaload, 1) rfl) ?_
        refine mx_iload_n (pc := 30) 2 (mx_dd dd_X7_argumentAt 18 (30, .iload_n 2, 1) rfl) rfl rfl ?_
        refine mx_iadd (pc := 31) (mx_dd dd_X7_argumentAt 19 (31, .iadd, 1) rfl) ?_
        exact mx_ireturn (pc := 32) (mx_dd dd_X7_argumentAt 20 (32, .ireturn, 1) rfl) rfl rfl P
      · have P := P.2 c19
        refine mx_iconst (pc := 22) (v := (-1 : Int32)) (mx_dd dd_X7_argumentAt 12 (22, .iconst (-1), 1) rfl) (by decide) ?_
        exact mx_ireturn (pc := 23) (mx_dd dd_X7_argumentAt 13 (23, .ireturn, 1) rfl) rfl rfl P
theorem b_X7_argumentKind {d : Nat} {h : mxH} {Q : mxRes → mxH → Prop} (x0 : Nat) (x1 : Int32)
    (P : ((x1 < 0 → Q (.inl (some (.int (0 : Int32)))) h) ∧ (¬ x1 < 0 → hpK h x0 = 7 ∧ (((hpI h x0 14) ≤ x1 → Q (.inl (some (.int (0 : Int32)))) h) ∧ (¬ (hpI h x0 14) ≤ x1 → (((700 : Int32) ≤ x1 → Q (.inl (some (.int (0 : Int32)))) h) ∧ (¬ (700 : Int32) ≤ x1 → ∃ b1 : Nat, hpR h x0 12 = some b1 ∧ hpK h b1 = 14 ∧ vp_in x1 (hpZ h b1) ∧ Q (.inl (some (.int (hpI h b1 x1.toNatClampNeg)))) h))))))) : mx_SM mY_X7_argumentKind d [.ref x0, .int x1] h Q := by
  refine mx_SM_of (by decide) (Nat.le_of_ble_eq_true rfl) ?_
  show mx_SX mY_X7_argumentKind d 0 [(0, .ref x0), (1, .int x1)] [] h Q
  refine mx_iload_n (pc := 0) 1 (mx_dd dd_X7_argumentKind 0 (0, .iload_n 1, 1) rfl) rfl rfl ?_
  refine mx_if_lt (pc := 1) 28 (mx_dd dd_X7_argumentKind 1 (1, .ifCond .lt 27, 3) rfl) rfl (fun c1 => ?_) (fun c1 => ?_)
  · have P := P.1 c1
    refine mx_iconst (pc := 28) (v := (0 : Int32)) (mx_dd dd_X7_argumentKind 14 (28, .iconst 0, 1) rfl) (by decide) ?_
    exact mx_ireturn (pc := 29) (mx_dd dd_X7_argumentKind 15 (29, .ireturn, 1) rfl) rfl rfl P
  · have P := P.2 c1
    refine mx_iload_n (pc := 4) 1 (mx_dd dd_X7_argumentKind 2 (4, .iload_n 1, 1) rfl) rfl rfl ?_
    refine mx_aload_n (pc := 5) 0 (mx_dd dd_X7_argumentKind 3 (5, .aload_n 0, 1) rfl) rfl rfl ?_
    obtain ⟨g1, P⟩ := P
    refine mx_getI (pc := 6) mx_fl_X7_62 g1 rfl (mx_dd dd_X7_argumentKind 4 (6, .getfield 62, 3) rfl) ?_
    refine mx_icmp_ge (pc := 9) 28 (mx_dd dd_X7_argumentKind 5 (9, .if_icmp .ge 19, 3) rfl) rfl (fun c9 => ?_) (fun c9 => ?_)
    · have P := P.1 c9
      refine mx_iconst (pc := 28) (v := (0 : Int32)) (mx_dd dd_X7_argumentKind 14 (28, .iconst 0, 1) rfl) (by decide) ?_
      exact mx_ireturn (pc := 29) (mx_dd dd_X7_argumentKind 15 (29, .ireturn, 1) rfl) rfl rfl P
    · have P := P.2 c9
      refine mx_iload_n (pc := 12) 1 (mx_dd dd_X7_argumentKind 6 (12, .iload_n 1, 1) rfl) rfl rfl ?_
      refine mx_sipush (pc := 13) (v := (700 : Int32)) (mx_dd dd_X7_argumentKind 7 (13, .sipush 700, 3) rfl) (by decide) ?_
      refine mx_icmp_ge (pc := 16) 28 (mx_dd dd_X7_argumentKind 8 (16, .if_icmp .ge 12, 3) rfl) rfl (fun c16 => ?_) (fun c16 => ?_)
      · have P := P.1 c16
        refine mx_iconst (pc := 28) (v := (0 : Int32)) (mx_dd dd_X7_argumentKind 14 (28, .iconst 0, 1) rfl) (by decide) ?_
        exact mx_ireturn (pc := 29) (mx_dd dd_X7_argumentKind 15 (29, .ireturn, 1) rfl) rfl rfl P
      · have P := P.2 c16
        refine mx_aload_n (pc := 19) 0 (mx_dd dd_X7_argumentKind 9 (19, .aload_n 0, 1) rfl) rfl rfl ?_
        obtain ⟨b1, g2, P⟩ := P
        refine mx_getR (pc := 20) mx_fl_X7_43 g1 rfl g2 (mx_dd dd_X7_argumentKind 10 (20, .getfield 43, 3) rfl) ?_
        refine mx_iload_n (pc := 23) 1 (mx_dd dd_X7_argumentKind 11 (23, .iload_n 1, 1) rfl) rfl rfl ?_
        obtain ⟨g3, P⟩ := P
        obtain ⟨g4, P⟩ := P
        refine mx_iald (pc := 24) g3 g4 (mx_dd dd_X7_argumentKind 12 (24, .iaload, 1) rfl) ?_
        refine mx_goto (pc := 25) 29 (mx_dd dd_X7_argumentKind 13 (25, .goto 4, 3) rfl) rfl ?_
        exact mx_ireturn (pc := 29) (mx_dd dd_X7_argumentKind 15 (29, .ireturn, 1) rfl) rfl rfl P
theorem b_X7_argumentName {d : Nat} {h : mxH} {Q : mxRes → mxH → Prop} (x0 : Nat) (x1 : Int32)
    (P : ((x1 < 0 → Q (.inl (some (.long (0 : Int64)))) h) ∧ (¬ x1 < 0 → hpK h x0 = 7 ∧ (((hpI h x0 14) ≤ x1 → Q (.inl (some (.long (0 : Int64)))) h) ∧ (¬ (hpI h x0 14) ≤ x1 → (((700 : Int32) ≤ x1 → Q (.inl (some (.long (0 : Int64)))) h) ∧ (¬ (700 : Int32) ≤ x1 → ∃ b1 : Nat, hpR h x0 13 = some b1 ∧ hpK h b1 = 15 ∧ vp_in x1 (hpZ h b1) ∧ Q (.inl (some (.long (hpL h b1 x1.toNatClampNeg)))) h))))))) : mx_SM mY_X7_argumentName d [.ref x0, .int x1] h Q := by
  refine mx_SM_of (by decide) (Nat.le_of_ble_eq_true rfl) ?_
  show mx_SX mY_X7_argumentName d 0 [(0, .ref x0), (1, .int x1)] [] h Q
  refine mx_iload_n (pc := 0) 1 (mx_dd dd_X7_argumentName 0 (0, .iload_n 1, 1) rfl) rfl rfl ?_
  refine mx_if_lt (pc := 1) 28 (mx_dd dd_X7_argumentName 1 (1, .ifCond .lt 27, 3) rfl) rfl (fun c1 => ?_) (fun c1 => ?_)
  · have P := P.1 c1
    refine mx_lconst (pc := 28) (v := (0 : Int64)) (mx_dd dd_X7_argumentName 14 (28, .lconst 0, 1) rfl) (by decide) ?_
    exact mx_lreturn (pc := 29) (mx_dd dd_X7_argumentName 15 (29, .lreturn, 1) rfl) rfl P
  · have P := P.2 c1
    refine mx_iload_n (pc := 4) 1 (mx_dd dd_X7_argumentName 2 (4, .iload_n 1, 1) rfl) rfl rfl ?_
    refine mx_aload_n (pc := 5) 0 (mx_dd dd_X7_argumentName 3 (5, .aload_n 0, 1) rfl) rfl rfl ?_
    obtain ⟨g1, P⟩ := P
    refine mx_getI (pc := 6) mx_fl_X7_62 g1 rfl (mx_dd dd_X7_argumentName 4 (6, .getfield 62, 3) rfl) ?_
    refine mx_icmp_ge (pc := 9) 28 (mx_dd dd_X7_argumentName 5 (9, .if_icmp .ge 19, 3) rfl) rfl (fun c9 => ?_) (fun c9 => ?_)
    · have P := P.1 c9
      refine mx_lconst (pc := 28) (v := (0 : Int64)) (mx_dd dd_X7_argumentName 14 (28, .lconst 0, 1) rfl) (by decide) ?_
      exact mx_lreturn (pc := 29) (mx_dd dd_X7_argumentName 15 (29, .lreturn, 1) rfl) rfl P
    · have P := P.2 c9
      refine mx_iload_n (pc := 12) 1 (mx_dd dd_X7_argumentName 6 (12, .iload_n 1, 1) rfl) rfl rfl ?_
      refine mx_sipush (pc := 13) (v := (700 : Int32)) (mx_dd dd_X7_argumentName 7 (13, .sipush 700, 3) rfl) (by decide) ?_
      refine mx_icmp_ge (pc := 16) 28 (mx_dd dd_X7_argumentName 8 (16, .if_icmp .ge 12, 3) rfl) rfl (fun c16 => ?_) (fun c16 => ?_)
      · have P := P.1 c16
        refine mx_lconst (pc := 28) (v := (0 : Int64)) (mx_dd dd_X7_argumentName 14 (28, .lconst 0, 1) rfl) (by decide) ?_
        exact mx_lreturn (pc := 29) (mx_dd dd_X7_argumentName 15 (29, .lreturn, 1) rfl) rfl P
      · have P := P.2 c16
        refine mx_aload_n (pc := 19) 0 (mx_dd dd_X7_argumentName 9 (19, .aload_n 0, 1) rfl) rfl rfl ?_
        obtain ⟨b1, g2, P⟩ := P
        refine mx_getR (pc := 20) mx_fl_X7_46 g1 rfl g2 (mx_dd dd_X7_argumentName 10 (20, .getfield 46, 3) rfl) ?_
        refine mx_iload_n (pc := 23) 1 (mx_dd dd_X7_argumentName 11 (23, .iload_n 1, 1) rfl) rfl rfl ?_
        obtain ⟨g3, P⟩ := P
        obtain ⟨g4, P⟩ := P
        refine mx_lald (pc := 24) g3 g4 (mx_dd dd_X7_argumentName 12 (24, .laload, 1) rfl) ?_
        refine mx_goto (pc := 25) 29 (mx_dd dd_X7_argumentName 13 (25, .goto 4, 3) rfl) rfl ?_
        exact mx_lreturn (pc := 29) (mx_dd dd_X7_argumentName 15 (29, .lreturn, 1) rfl) rfl P
theorem b_X7_addRedirection {d : Nat} {h : mxH} {Q : mxRes → mxH → Prop} (x0 : Nat) (x1 : Int32) (x2 : Int32) (x3 : Int32) (x4 : Int64)
    (P : 1 ≤ d ∧ hpK h x0 = 7 ∧ mx_SM mY_X7_isCommand (d - 1) [.ref x0, .int x1] h (mx_KI (fun v1 h1 => ((v1 = 0 → Q (.inl none) h1) ∧ (¬ v1 = 0 → hpK h1 x0 = 7 ∧ (((hpI h1 x0 17) < 0 → Q (.inl none) h1) ∧ (¬ (hpI h1 x0 17) < 0 → (((hpI h1 x0 17) < (700 : Int32) → ∃ b1 : Nat, hpR h1 x0 15 = some b1 ∧ hpK h1 b1 = 14 ∧ vp_in (hpI h1 x0 17) (hpZ h1 b1) ∧ ∀ h2 : mxH, h2 = hsI h1 b1 (hpI h1 x0 17).toNatClampNeg ((x2 * (10 : Int32)) + x3) → ∃ b2 : Nat, hpR h2 x0 16 = some b2 ∧ hpK h2 b2 = 15 ∧ vp_in (hpI h2 x0 17) (hpZ h2 b2) ∧ ∀ h3 : mxH, h3 = hsL h2 b2 (hpI h2 x0 17).toNatClampNeg x4 → ∃ b3 : Nat, hpR h3 x0 10 = some b3 ∧ hpK h3 b3 = 14 ∧ vp_in x1 (hpZ h3 b3) ∧ ((¬ (hpI h3 b3 x1.toNatClampNeg) = 0 → mx_SX mY_X7_addRedirection d 71 [(0, .ref x0), (1, .int x1)] [] h3 Q) ∧ ((hpI h3 b3 x1.toNatClampNeg) = 0 → ∃ b4 : Nat, hpR h3 x0 9 = some b4 ∧ hpK h3 b4 = 14 ∧ vp_in x1 (hpZ h3 b4) ∧ ∀ h4 : mxH, h4 = hsI h3 b4 x1.toNatClampNeg (hpI h3 x0 17) → mx_SX mY_X7_addRedirection d 71 [(0, .ref x0), (1, .int x1)] [] h4 Q))) ∧ (¬ (hpI h1 x0 17) < (700 : Int32) → Q (.inl none) h1))))))) (mx_XX mY_X7_addRedirection Q))) : mx_SM mY_X7_addRedirection d [.ref x0, .int x1, .int x2, .int x3, .long x4] h Q := by
  refine mx_SM_of (by decide) (Nat.le_of_ble_eq_true rfl) ?_
  show mx_SX mY_X7_addRedirection d 0 [(0, .ref x0), (1, .int x1), (2, .int x2), (3, .int x3), (4, .long x4)] [] h Q
  refine mx_aload_n (pc := 0) 0 (mx_dd dd_X7_addRedirection 0 (0, .aload_n 0, 1) rfl) rfl rfl ?_
  refine mx_iload_n (pc := 1) 1 (mx_dd dd_X7_addRedirection 1 (1, .iload_n 1, 1) rfl) rfl rfl ?_
  obtain ⟨g1, P⟩ := P
  obtain ⟨g2, P⟩ := P
  refine mx_cVI (pc := 2) (Y := mY_X7_isCommand) (As := [.int x1]) mx_ml_X7_76 mx_y_X7_isCommand rfl g2 (by decide) rfl (by decide) rfl (mx_dd dd_X7_addRedirection 2 (2, .invokevirtual 76, 3) rfl) g1 (by decide) P (fun v1 h1 P => ?_)
  refine mx_if_eq (pc := 5) 25 (mx_dd dd_X7_addRedirection 3 (5, .ifCond .eq 20, 3) rfl) rfl (fun c5 => ?_) (fun c5 => ?_)
  · have P := P.1 c5
    exact mx_return (pc := 25) (mx_dd dd_X7_addRedirection 11 (25, .return_, 1) rfl) rfl P
  · have P := P.2 c5
    refine mx_aload_n (pc := 8) 0 (mx_dd dd_X7_addRedirection 4 (8, .aload_n 0, 1) rfl) rfl rfl ?_
    obtain ⟨g3, P⟩ := P
    refine mx_getI (pc := 9) mx_fl_X7_65 g3 rfl (mx_dd dd_X7_addRedirection 5 (9, .getfield 65, 3) rfl) ?_
    refine mx_if_lt (pc := 12) 25 (mx_dd dd_X7_addRedirection 6 (12, .ifCond .lt 13, 3) rfl) rfl (fun c12 => ?_) (fun c12 => ?_)
    · have P := P.1 c12
      exact mx_return (pc := 25) (mx_dd dd_X7_addRedirection 11 (25, .return_, 1) rfl) rfl P
    · have P := P.2 c12
      refine mx_aload_n (pc := 15) 0 (mx_dd dd_X7_addRedirection 7 (15, .aload_n 0, 1) rfl) rfl rfl ?_
      refine mx_getI (pc := 16) mx_fl_X7_65 g3 rfl (mx_dd dd_X7_addRedirection 8 (16, .getfield 65, 3) rfl) ?_
      refine mx_sipush (pc := 19) (v := (700 : Int32)) (mx_dd dd_X7_addRedirection 9 (19, .sipush 700, 3) rfl) (by decide) ?_
      refine mx_icmp_lt (pc := 22) 26 (mx_dd dd_X7_addRedirection 10 (22, .if_icmp .lt 4, 3) rfl) rfl (fun c22 => ?_) (fun c22 => ?_)
      · have P := P.1 c22
        refine mx_aload_n (pc := 26) 0 (mx_dd dd_X7_addRedirection 12 (26, .aload_n 0, 1) rfl) rfl rfl ?_
        obtain ⟨b1, g4, P⟩ := P
        refine mx_getR (pc := 27) mx_fl_X7_49 g3 rfl g4 (mx_dd dd_X7_addRedirection 13 (27, .getfield 49, 3) rfl) ?_
        refine mx_aload_n (pc := 30) 0 (mx_dd dd_X7_addRedirection 14 (30, .aload_n 0, 1) rfl) rfl rfl ?_
        refine mx_getI (pc := 31) mx_fl_X7_65 g3 rfl (mx_dd dd_X7_addRedirection 15 (31, .getfield 65, 3) rfl) ?_
        refine mx_iload_n (pc := 34) 2 (mx_dd dd_X7_addRedirection 16 (34, .iload_n 2, 1) rfl) rfl rfl ?_
        refine mx_bipush (pc := 35) (v := (10 : Int32)) (mx_dd dd_X7_addRedirection 17 (35, .bipush 10, 2) rfl) (by decide) ?_
        refine mx_imul (pc := 37) (mx_dd dd_X7_addRedirection 18 (37, .imul, 1) rfl) ?_
        refine mx_iload_n (pc := 38) 3 (mx_dd dd_X7_addRedirection 19 (38, .iload_n 3, 1) rfl) rfl rfl ?_
        refine mx_iadd (pc := 39) (mx_dd dd_X7_addRedirection 20 (39, .iadd, 1) rfl) ?_
        obtain ⟨g5, P⟩ := P
        obtain ⟨g6, P⟩ := P
        refine mx_iast (pc := 40) g5 g6 (mx_dd dd_X7_addRedirection 21 (40, .iastore, 1) rfl) ?_
        have P := P _ rfl
        refine mx_aload_n (pc := 41) 0 (mx_dd dd_X7_addRedirection 22 (41, .aload_n 0, 1) rfl) rfl rfl ?_
        obtain ⟨b2, g7, P⟩ := P
        refine mx_getR (pc := 42) mx_fl_X7_52 g3 rfl g7 (mx_dd dd_X7_addRedirection 23 (42, .getfield 52, 3) rfl) ?_
        refine mx_aload_n (pc := 45) 0 (mx_dd dd_X7_addRedirection 24 (45, .aload_n 0, 1) rfl) rfl rfl ?_
        refine mx_getI (pc := 46) mx_fl_X7_65 g3 rfl (mx_dd dd_X7_addRedirection 25 (46, .getfield 65, 3) rfl) ?_
        refine mx_lload (pc := 49) 4 (mx_dd dd_X7_addRedirection 26 (49, .lload 4, 2) rfl) rfl ?_
        obtain ⟨g8, P⟩ := P
        obtain ⟨g9, P⟩ := P
        refine mx_last (pc := 51) g8 g9 (mx_dd dd_X7_addRedirection 27 (51, .lastore, 1) rfl) ?_
        have P := P _ rfl
        refine mx_aload_n (pc := 52) 0 (mx_dd dd_X7_addRedirection 28 (52, .aload_n 0, 1) rfl) rfl rfl ?_
        obtain ⟨b3, g10, P⟩ := P
        refine mx_getR (pc := 53) mx_fl_X7_40 g3 rfl g10 (mx_dd dd_X7_addRedirection 29 (53, .getfield 40, 3) rfl) ?_
        refine mx_iload_n (pc := 56) 1 (mx_dd dd_X7_addRedirection 30 (56, .iload_n 1, 1) rfl) rfl rfl ?_
        obtain ⟨g11, P⟩ := P
        obtain ⟨g12, P⟩ := P
        refine mx_iald (pc := 57) g11 g12 (mx_dd dd_X7_addRedirection 31 (57, .iaload, 1) rfl) ?_
        refine mx_if_ne (pc := 58) 71 (mx_dd dd_X7_addRedirection 32 (58, .ifCond .ne 13, 3) rfl) rfl (fun c58 => ?_) (fun c58 => ?_)
        · have P := P.1 c58
          refine mx_sel [0, 1] rfl ?_
          exact P
        · have P := P.2 c58
          refine mx_aload_n (pc := 61) 0 (mx_dd dd_X7_addRedirection 33 (61, .aload_n 0, 1) rfl) rfl rfl ?_
          obtain ⟨b4, g13, P⟩ := P
          refine mx_getR (pc := 62) mx_fl_X7_37 g3 rfl g13 (mx_dd dd_X7_addRedirection 34 (62, .getfield 37, 3) rfl) ?_
          refine mx_iload_n (pc := 65) 1 (mx_dd dd_X7_addRedirection 35 (65, .iload_n 1, 1) rfl) rfl rfl ?_
          refine mx_aload_n (pc := 66) 0 (mx_dd dd_X7_addRedirection 36 (66, .aload_n 0, 1) rfl) rfl rfl ?_
          refine mx_getI (pc := 67) mx_fl_X7_65 g3 rfl (mx_dd dd_X7_addRedirection 37 (67, .getfield 65, 3) rfl) ?_
          obtain ⟨g14, P⟩ := P
          obtain ⟨g15, P⟩ := P
          refine mx_iast (pc := 70) g14 g15 (mx_dd dd_X7_addRedirection 38 (70, .iastore, 1) rfl) ?_
          have P := P _ rfl
          refine mx_sel [0, 1] rfl ?_
          exact P
      · have P := P.2 c22
        exact mx_return (pc := 25) (mx_dd dd_X7_addRedirection 11 (25, .return_, 1) rfl) rfl P
theorem b_X7_addRedirection_71 {d : Nat} {h : mxH} {Q : mxRes → mxH → Prop} (x0 : Nat) (x1 : Int32)
    (P : hpK h x0 = 7 ∧ ∃ b1 : Nat, hpR h x0 10 = some b1 ∧ hpK h b1 = 14 ∧ vp_in x1 (hpZ h b1) ∧ ∀ h1 : mxH, h1 = hsI h b1 x1.toNatClampNeg ((hpI h b1 x1.toNatClampNeg) + (1 : Int32)) → ∀ h2 : mxH, h2 = hsI h1 x0 17 ((hpI h1 x0 17) + (1 : Int32)) → Q (.inl none) h2) : mx_SX mY_X7_addRedirection d 71 [(0, .ref x0), (1, .int x1)] [] h Q := by
  refine mx_aload_n (pc := 71) 0 (mx_dd dd_X7_addRedirection 39 (71, .aload_n 0, 1) rfl) rfl rfl ?_
  obtain ⟨g1, P⟩ := P
  obtain ⟨b1, g2, P⟩ := P
  refine mx_getR (pc := 72) mx_fl_X7_40 g1 rfl g2 (mx_dd dd_X7_addRedirection 40 (72, .getfield 40, 3) rfl) ?_
  refine mx_iload_n (pc := 75) 1 (mx_dd dd_X7_addRedirection 41 (75, .iload_n 1, 1) rfl) rfl rfl ?_
  refine mx_dup2 (pc := 76) (mx_dd dd_X7_addRedirection 42 (76, .dup2, 1) rfl) rfl rfl ?_
  obtain ⟨g3, P⟩ := P
  obtain ⟨g4, P⟩ := P
  refine mx_iald (pc := 77) g3 g4 (mx_dd dd_X7_addRedirection 43 (77, .iaload, 1) rfl) ?_
  refine mx_iconst (pc := 78) (v := (1 : Int32)) (mx_dd dd_X7_addRedirection 44 (78, .iconst 1, 1) rfl) (by decide) ?_
  refine mx_iadd (pc := 79) (mx_dd dd_X7_addRedirection 45 (79, .iadd, 1) rfl) ?_
  refine mx_iast (pc := 80) g3 g4 (mx_dd dd_X7_addRedirection 46 (80, .iastore, 1) rfl) ?_
  have P := P _ rfl
  refine mx_aload_n (pc := 81) 0 (mx_dd dd_X7_addRedirection 47 (81, .aload_n 0, 1) rfl) rfl rfl ?_
  refine mx_dup (pc := 82) (mx_dd dd_X7_addRedirection 48 (82, .dup, 1) rfl) rfl ?_
  refine mx_getI (pc := 83) mx_fl_X7_65 g1 rfl (mx_dd dd_X7_addRedirection 49 (83, .getfield 65, 3) rfl) ?_
  refine mx_iconst (pc := 86) (v := (1 : Int32)) (mx_dd dd_X7_addRedirection 50 (86, .iconst 1, 1) rfl) (by decide) ?_
  refine mx_iadd (pc := 87) (mx_dd dd_X7_addRedirection 51 (87, .iadd, 1) rfl) ?_
  refine mx_putI (pc := 88) mx_fl_X7_65 g1 rfl (.inl rfl) rfl rfl (mx_dd dd_X7_addRedirection 52 (88, .putfield 65, 3) rfl) ?_
  have P := P _ rfl
  exact mx_return (pc := 91) (mx_dd dd_X7_addRedirection 53 (91, .return_, 1) rfl) rfl P
theorem b_X7_redirectionsOf {d : Nat} {h : mxH} {Q : mxRes → mxH → Prop} (x0 : Nat) (x1 : Int32)
    (P : 1 ≤ d ∧ hpK h x0 = 7 ∧ mx_SM mY_X7_isCommand (d - 1) [.ref x0, .int x1] h (mx_KI (fun v1 h1 => ((v1 = 0 → Q (.inl (some (.int (0 : Int32)))) h1) ∧ (¬ v1 = 0 → hpK h1 x0 = 7 ∧ ∃ b1 : Nat, hpR h1 x0 10 = some b1 ∧ hpK h1 b1 = 14 ∧ vp_in x1 (hpZ h1 b1) ∧ Q (.inl (some (.int (hpI h1 b1 x1.toNatClampNeg)))) h1))) (mx_XX mY_X7_redirectionsOf Q))) : mx_SM mY_X7_redirectionsOf d [.ref x0, .int x1] h Q := by
  refine mx_SM_of (by decide) (Nat.le_of_ble_eq_true rfl) ?_
  show mx_SX mY_X7_redirectionsOf d 0 [(0, .ref x0), (1, .int x1)] [] h Q
  refine mx_aload_n (pc := 0) 0 (mx_dd dd_X7_redirectionsOf 0 (0, .aload_n 0, 1) rfl) rfl rfl ?_
  refine mx_iload_n (pc := 1) 1 (mx_dd dd_X7_redirectionsOf 1 (1, .iload_n 1, 1) rfl) rfl rfl ?_
  obtain ⟨g1, P⟩ := P
  obtain ⟨g2, P⟩ := P
  refine mx_cVI (pc := 2) (Y := mY_X7_isCommand) (As := [.int x1]) mx_ml_X7_76 mx_y_X7_isCommand rfl g2 (by decide) rfl (by decide) rfl (mx_dd dd_X7_redirectionsOf 2 (2, .invokevirtual 76, 3) rfl) g1 (by decide) P (fun v1 h1 P => ?_)
  refine mx_if_eq (pc := 5) 17 (mx_dd dd_X7_redirectionsOf 3 (5, .ifCond .eq 12, 3) rfl) rfl (fun c5 => ?_) (fun c5 => ?_)
  · have P := P.1 c5
    refine mx_iconst (pc := 17) (v := (0 : Int32)) (mx_dd dd_X7_redirectionsOf 9 (17, .iconst 0, 1) rfl) (by decide) ?_
    exact mx_ireturn (pc := 18) (mx_dd dd_X7_redirectionsOf 10 (18, .ireturn, 1) rfl) rfl rfl P
  · have P := P.2 c5
    refine mx_aload_n (pc := 8) 0 (mx_dd dd_X7_redirectionsOf 4 (8, .aload_n 0, 1) rfl) rfl rfl ?_
    obtain ⟨g3, P⟩ := P
    obtain ⟨b1, g4, P⟩ := P
    refine mx_getR (pc := 9) mx_fl_X7_40 g3 rfl g4 (mx_dd dd_X7_redirectionsOf 5 (9, .getfield 40, 3) rfl) ?_
    refine mx_iload_n (pc := 12) 1 (mx_dd dd_X7_redirectionsOf 6 (12, .iload_n 1, 1) rfl) rfl rfl ?_
    obtain ⟨g5, P⟩ := P
    obtain ⟨g6, P⟩ := P
    refine mx_iald (pc := 13) g5 g6 (mx_dd dd_X7_redirectionsOf 7 (13, .iaload, 1) rfl) ?_
    refine mx_goto (pc := 14) 18 (mx_dd dd_X7_redirectionsOf 8 (14, .goto 4, 3) rfl) rfl ?_
    exact mx_ireturn (pc := 18) (mx_dd dd_X7_redirectionsOf 10 (18, .ireturn, 1) rfl) rfl rfl P
theorem b_X7_redirectionAt {d : Nat} {h : mxH} {Q : mxRes → mxH → Prop} (x0 : Nat) (x1 : Int32) (x2 : Int32)
    (P : 1 ≤ d ∧ hpK h x0 = 7 ∧ mx_SM mY_X7_isCommand (d - 1) [.ref x0, .int x1] h (mx_KI (fun v1 h1 => ((v1 = 0 → Q (.inl (some (.int (-1 : Int32)))) h1) ∧ (¬ v1 = 0 → ((x2 < 0 → Q (.inl (some (.int (-1 : Int32)))) h1) ∧ (¬ x2 < 0 → hpK h1 x0 = 7 ∧ ∃ b1 : Nat, hpR h1 x0 10 = some b1 ∧ hpK h1 b1 = 14 ∧ vp_in x1 (hpZ h1 b1) ∧ ((x2 < (hpI h1 b1 x1.toNatClampNeg) → ∃ b2 : Nat, hpR h1 x0 9 = some b2 ∧ hpK h1 b2 = 14 ∧ vp_in x1 (hpZ h1 b2) ∧ Q (.inl (some (.int ((hpI h1 b2 x1.toNatClampNeg) + x2)))) h1) ∧ (¬ x2 < (hpI h1 b1 x1.toNatClampNeg) → Q (.inl (some (.int (-1 : Int32)))) h1))))))) (mx_XX mY_X7_redirectionAt Q))) : mx_SM mY_X7_redirectionAt d [.ref x0, .int x1, .int x2] h Q := by
  refine mx_SM_of (by decide) (Nat.le_of_ble_eq_true rfl) ?_
  show mx_SX mY_X7_redirectionAt d 0 [(0, .ref x0), (1, .int x1), (2, .int x2)] [] h Q
  refine mx_aload_n (pc := 0) 0 (mx_dd dd_X7_redirectionAt 0 (0, .aload_n 0, 1) rfl) rfl rfl ?_
  refine mx_iload_n (pc := 1) 1 (mx_dd dd_X7_redirectionAt 1 (1, .iload_n 1, 1) rfl) rfl rfl ?_
  obtain ⟨g1, P⟩ := P
  obtain ⟨g2, P⟩ := P
  refine mx_cVI (pc := 2) (Y := mY_X7_isCommand) (As := [.int x1]) mx_ml_X7_76 mx_y_X7_isCommand rfl g2 (by decide) rfl (by decide) rfl (mx_dd dd_X7_redirectionAt 2 (2, .invokevirtual 76, 3) rfl) g1 (by decide) P (fun v1 h1 P => ?_)
  refine mx_if_eq (pc := 5) 22 (mx_dd dd_X7_redirectionAt 3 (5, .ifCond .eq 17, 3) rfl) rfl (fun c5 => ?_) (fun c5 => ?_)
  · have P := P.1 c5
    refine mx_iconst (pc := 22) (v := (-1 : Int32)) (mx_dd dd_X7_redirectionAt 12 (22, .iconst (-1), 1) rfl) (by decide) ?_
    exact mx_ireturn (pc := 23) (mx_dd dd_X7_redirectionAt 13 (23, .ireturn, 1) rfl) rfl rfl P
  · have P := P.2 c5
    refine mx_iload_n (pc := 8) 2 (mx_dd dd_X7_redirectionAt 4 (8, .iload_n 2, 1) rfl) rfl rfl ?_
    refine mx_if_lt (pc := 9) 22 (mx_dd dd_X7_redirectionAt 5 (9, .ifCond .lt 13, 3) rfl) rfl (fun c9 => ?_) (fun c9 => ?_)
    · have P := P.1 c9
      refine mx_iconst (pc := 22) (v := (-1 : Int32)) (mx_dd dd_X7_redirectionAt 12 (22, .iconst (-1), 1) rfl) (by decide) ?_
      exact mx_ireturn (pc := 23) (mx_dd dd_X7_redirectionAt 13 (23, .ireturn, 1) rfl) rfl rfl P
    · have P := P.2 c9
      refine mx_iload_n (pc := 12) 2 (mx_dd dd_X7_redirectionAt 6 (12, .iload_n 2, 1) rfl) rfl rfl ?_
      refine mx_aload_n (pc := 13) 0 (mx_dd dd_X7_redirectionAt 7 (13, .aload_n 0, 1) rfl) rfl rfl ?_
      obtain ⟨g3, P⟩ := P
      obtain ⟨b1, g4, P⟩ := P
      refine mx_getR (pc := 14) mx_fl_X7_40 g3 rfl g4 (mx_dd dd_X7_redirectionAt 8 (14, .getfield 40, 3) rfl) ?_
      refine mx_iload_n (pc := 17) 1 (mx_dd dd_X7_redirectionAt 9 (17, .iload_n 1, 1) rfl) rfl rfl ?_
      obtain ⟨g5, P⟩ := P
      obtain ⟨g6, P⟩ := P
      refine mx_iald (pc := 18) g5 g6 (mx_dd dd_X7_redirectionAt 10 (18, .iaload, 1) rfl) ?_
      refine mx_icmp_lt (pc := 19) 24 (mx_dd dd_X7_redirectionAt 11 (19, .if_icmp .lt 5, 3) rfl) rfl (fun c19 => ?_) (fun c19 => ?_)
      · have P := P.1 c19
        refine mx_aload_n (pc := 24) 0 (mx_dd dd_X7_redirectionAt 14 (24, .aload_n 0, 1) rfl) rfl rfl ?_
        obtain ⟨b2, g7, P⟩ := P
        refine mx_getR (pc := 25) mx_fl_X7_37 g3 rfl g7 (mx_dd dd_X7_redirectionAt 15 (25, .getfield 37, 3) rfl) ?_
        refine mx_iload_n (pc := 28) 1 (mx_dd dd_X7_redirectionAt 16 (28, .iload_n 1, 1) rfl) rfl rfl ?_
        obtain ⟨g8, P⟩ := P
        obtain ⟨g9, P⟩ := P
        refine mx_iald (pc := 29) g8 g9 (mx_dd dd_X7_redirectionAt 17 (29, .iaload, 1) rfl) ?_
        refine mx_iload_n (pc := 30) 2 (mx_dd dd_X7_redirectionAt 18 (30, .iload_n 2, 1) rfl) rfl rfl ?_
        refine mx_iadd (pc := 31) (mx_dd dd_X7_redirectionAt 19 (31, .iadd, 1) rfl) ?_
        exact mx_ireturn (pc := 32) (mx_dd dd_X7_redirectionAt 20 (32, .ireturn, 1) rfl) rfl rfl P
      · have P := P.2 c19
        refine mx_iconst (pc := 22) (v := (-1 : Int32)) (mx_dd dd_X7_redirectionAt 12 (22, .iconst (-1), 1) rfl) (by decide) ?_
        exact mx_ireturn (pc := 23) (mx_dd dd_X7_redirectionAt 13 (23, .ireturn, 1) rfl) rfl rfl P
theorem b_X7_redirectionKind {d : Nat} {h : mxH} {Q : mxRes → mxH → Prop} (x0 : Nat) (x1 : Int32)
    (P : ((x1 < 0 → Q (.inl (some (.int (4 : Int32)))) h) ∧ (¬ x1 < 0 → (((700 : Int32) ≤ x1 → Q (.inl (some (.int (4 : Int32)))) h) ∧ (¬ (700 : Int32) ≤ x1 → hpK h x0 = 7 ∧ ∃ b1 : Nat, hpR h x0 15 = some b1 ∧ hpK h b1 = 14 ∧ vp_in x1 (hpZ h b1) ∧ Q (.inl (some (.int ((hpI h b1 x1.toNatClampNeg) / (10 : Int32))))) h))))) : mx_SM mY_X7_redirectionKind d [.ref x0, .int x1] h Q := by
  refine mx_SM_of (by decide) (Nat.le_of_ble_eq_true rfl) ?_
  show mx_SX mY_X7_redirectionKind d 0 [(0, .ref x0), (1, .int x1)] [] h Q
  refine mx_iload_n (pc := 0) 1 (mx_dd dd_X7_redirectionKind 0 (0, .iload_n 1, 1) rfl) rfl rfl ?_
  refine mx_if_lt (pc := 1) 23 (mx_dd dd_X7_redirectionKind 1 (1, .ifCond .lt 22, 3) rfl) rfl (fun c1 => ?_) (fun c1 => ?_)
  · have P := P.1 c1
    refine mx_iconst (pc := 23) (v := (4 : Int32)) (mx_dd dd_X7_redirectionKind 12 (23, .iconst 4, 1) rfl) (by decide) ?_
    exact mx_ireturn (pc := 24) (mx_dd dd_X7_redirectionKind 13 (24, .ireturn, 1) rfl) rfl rfl P
  · have P := P.2 c1
    refine mx_iload_n (pc := 4) 1 (mx_dd dd_X7_redirectionKind 2 (4, .iload_n 1, 1) rfl) rfl rfl ?_
    refine mx_sipush (pc := 5) (v := (700 : Int32)) (mx_dd dd_X7_redirectionKind 3 (5, .sipush 700, 3) rfl) (by decide) ?_
    refine mx_icmp_ge (pc := 8) 23 (mx_dd dd_X7_redirectionKind 4 (8, .if_icmp .ge 15, 3) rfl) rfl (fun c8 => ?_) (fun c8 => ?_)
    · have P := P.1 c8
      refine mx_iconst (pc := 23) (v := (4 : Int32)) (mx_dd dd_X7_redirectionKind 12 (23, .iconst 4, 1) rfl) (by decide) ?_
      exact mx_ireturn (pc := 24) (mx_dd dd_X7_redirectionKind 13 (24, .ireturn, 1) rfl) rfl rfl P
    · have P := P.2 c8
      refine mx_aload_n (pc := 11) 0 (mx_dd dd_X7_redirectionKind 5 (11, .aload_n 0, 1) rfl) rfl rfl ?_
      obtain ⟨g1, P⟩ := P
      obtain ⟨b1, g2, P⟩ := P
      refine mx_getR (pc := 12) mx_fl_X7_49 g1 rfl g2 (mx_dd dd_X7_redirectionKind 6 (12, .getfield 49, 3) rfl) ?_
      refine mx_iload_n (pc := 15) 1 (mx_dd dd_X7_redirectionKind 7 (15, .iload_n 1, 1) rfl) rfl rfl ?_
      obtain ⟨g3, P⟩ := P
      obtain ⟨g4, P⟩ := P
      refine mx_iald (pc := 16) g3 g4 (mx_dd dd_X7_redirectionKind 8 (16, .iaload, 1) rfl) ?_
      refine mx_bipush (pc := 17) (v := (10 : Int32)) (mx_dd dd_X7_redirectionKind 9 (17, .bipush 10, 2) rfl) (by decide) ?_
      refine mx_idiv (pc := 19) (mx_dd dd_X7_redirectionKind 10 (19, .idiv, 1) rfl) (by decide) ?_
      refine mx_goto (pc := 20) 24 (mx_dd dd_X7_redirectionKind 11 (20, .goto 4, 3) rfl) rfl ?_
      exact mx_ireturn (pc := 24) (mx_dd dd_X7_redirectionKind 13 (24, .ireturn, 1) rfl) rfl rfl P
theorem b_X7_redirectedHandle {d : Nat} {h : mxH} {Q : mxRes → mxH → Prop} (x0 : Nat) (x1 : Int32)
    (P : ((x1 < 0 → Q (.inl (some (.int (-1 : Int32)))) h) ∧ (¬ x1 < 0 → (((700 : Int32) ≤ x1 → Q (.inl (some (.int (-1 : Int32)))) h) ∧ (¬ (700 : Int32) ≤ x1 → hpK h x0 = 7 ∧ ∃ b1 : Nat, hpR h x0 15 = some b1 ∧ hpK h b1 = 14 ∧ vp_in x1 (hpZ h b1) ∧ Q (.inl (some (.int ((hpI h b1 x1.toNatClampNeg) - (hpI h b1 x1.toNatClampNeg) / (10 : Int32) * (10 : Int32))))) h))))) : mx_SM mY_X7_redirectedHandle d [.ref x0, .int x1] h Q := by
  refine mx_SM_of (by decide) (Nat.le_of_ble_eq_true rfl) ?_
  show mx_SX mY_X7_redirectedHandle d 0 [(0, .ref x0), (1, .int x1)] [] h Q
  refine mx_iload_n (pc := 0) 1 (mx_dd dd_X7_redirectedHandle 0 (0, .iload_n 1, 1) rfl) rfl rfl ?_
  refine mx_if_lt (pc := 1) 23 (mx_dd dd_X7_redirectedHandle 1 (1, .ifCond .lt 22, 3) rfl) rfl (fun c1 => ?_) (fun c1 => ?_)
  · have P := P.1 c1
    refine mx_iconst (pc := 23) (v := (-1 : Int32)) (mx_dd dd_X7_redirectedHandle 12 (23, .iconst (-1), 1) rfl) (by decide) ?_
    exact mx_ireturn (pc := 24) (mx_dd dd_X7_redirectedHandle 13 (24, .ireturn, 1) rfl) rfl rfl P
  · have P := P.2 c1
    refine mx_iload_n (pc := 4) 1 (mx_dd dd_X7_redirectedHandle 2 (4, .iload_n 1, 1) rfl) rfl rfl ?_
    refine mx_sipush (pc := 5) (v := (700 : Int32)) (mx_dd dd_X7_redirectedHandle 3 (5, .sipush 700, 3) rfl) (by decide) ?_
    refine mx_icmp_ge (pc := 8) 23 (mx_dd dd_X7_redirectedHandle 4 (8, .if_icmp .ge 15, 3) rfl) rfl (fun c8 => ?_) (fun c8 => ?_)
    · have P := P.1 c8
      refine mx_iconst (pc := 23) (v := (-1 : Int32)) (mx_dd dd_X7_redirectedHandle 12 (23, .iconst (-1), 1) rfl) (by decide) ?_
      exact mx_ireturn (pc := 24) (mx_dd dd_X7_redirectedHandle 13 (24, .ireturn, 1) rfl) rfl rfl P
    · have P := P.2 c8
      refine mx_aload_n (pc := 11) 0 (mx_dd dd_X7_redirectedHandle 5 (11, .aload_n 0, 1) rfl) rfl rfl ?_
      obtain ⟨g1, P⟩ := P
      obtain ⟨b1, g2, P⟩ := P
      refine mx_getR (pc := 12) mx_fl_X7_49 g1 rfl g2 (mx_dd dd_X7_redirectedHandle 6 (12, .getfield 49, 3) rfl) ?_
      refine mx_iload_n (pc := 15) 1 (mx_dd dd_X7_redirectedHandle 7 (15, .iload_n 1, 1) rfl) rfl rfl ?_
      obtain ⟨g3, P⟩ := P
      obtain ⟨g4, P⟩ := P
      refine mx_iald (pc := 16) g3 g4 (mx_dd dd_X7_redirectedHandle 8 (16, .iaload, 1) rfl) ?_
      refine mx_bipush (pc := 17) (v := (10 : Int32)) (mx_dd dd_X7_redirectedHandle 9 (17, .bipush 10, 2) rfl) (by decide) ?_
      refine mx_irem (pc := 19) (mx_dd dd_X7_redirectedHandle 10 (19, .irem, 1) rfl) (by decide) ?_
      refine mx_goto (pc := 20) 24 (mx_dd dd_X7_redirectedHandle 11 (20, .goto 4, 3) rfl) rfl ?_
      exact mx_ireturn (pc := 24) (mx_dd dd_X7_redirectedHandle 13 (24, .ireturn, 1) rfl) rfl rfl P
theorem b_X7_redirectionName {d : Nat} {h : mxH} {Q : mxRes → mxH → Prop} (x0 : Nat) (x1 : Int32)
    (P : ((x1 < 0 → Q (.inl (some (.long (0 : Int64)))) h) ∧ (¬ x1 < 0 → (((700 : Int32) ≤ x1 → Q (.inl (some (.long (0 : Int64)))) h) ∧ (¬ (700 : Int32) ≤ x1 → hpK h x0 = 7 ∧ ∃ b1 : Nat, hpR h x0 16 = some b1 ∧ hpK h b1 = 15 ∧ vp_in x1 (hpZ h b1) ∧ Q (.inl (some (.long (hpL h b1 x1.toNatClampNeg)))) h))))) : mx_SM mY_X7_redirectionName d [.ref x0, .int x1] h Q := by
  refine mx_SM_of (by decide) (Nat.le_of_ble_eq_true rfl) ?_
  show mx_SX mY_X7_redirectionName d 0 [(0, .ref x0), (1, .int x1)] [] h Q
  refine mx_iload_n (pc := 0) 1 (mx_dd dd_X7_redirectionName 0 (0, .iload_n 1, 1) rfl) rfl rfl ?_
  refine mx_if_lt (pc := 1) 20 (mx_dd dd_X7_redirectionName 1 (1, .ifCond .lt 19, 3) rfl) rfl (fun c1 => ?_) (fun c1 => ?_)
  · have P := P.1 c1
    refine mx_lconst (pc := 20) (v := (0 : Int64)) (mx_dd dd_X7_redirectionName 10 (20, .lconst 0, 1) rfl) (by decide) ?_
    exact mx_lreturn (pc := 21) (mx_dd dd_X7_redirectionName 11 (21, .lreturn, 1) rfl) rfl P
  · have P := P.2 c1
    refine mx_iload_n (pc := 4) 1 (mx_dd dd_X7_redirectionName 2 (4, .iload_n 1, 1) rfl) rfl rfl ?_
    refine mx_sipush (pc := 5) (v := (700 : Int32)) (mx_dd dd_X7_redirectionName 3 (5, .sipush 700, 3) rfl) (by decide) ?_
    refine mx_icmp_ge (pc := 8) 20 (mx_dd dd_X7_redirectionName 4 (8, .if_icmp .ge 12, 3) rfl) rfl (fun c8 => ?_) (fun c8 => ?_)
    · have P := P.1 c8
      refine mx_lconst (pc := 20) (v := (0 : Int64)) (mx_dd dd_X7_redirectionName 10 (20, .lconst 0, 1) rfl) (by decide) ?_
      exact mx_lreturn (pc := 21) (mx_dd dd_X7_redirectionName 11 (21, .lreturn, 1) rfl) rfl P
    · have P := P.2 c8
      refine mx_aload_n (pc := 11) 0 (mx_dd dd_X7_redirectionName 5 (11, .aload_n 0, 1) rfl) rfl rfl ?_
      obtain ⟨g1, P⟩ := P
      obtain ⟨b1, g2, P⟩ := P
      refine mx_getR (pc := 12) mx_fl_X7_52 g1 rfl g2 (mx_dd dd_X7_redirectionName 6 (12, .getfield 52, 3) rfl) ?_
      refine mx_iload_n (pc := 15) 1 (mx_dd dd_X7_redirectionName 7 (15, .iload_n 1, 1) rfl) rfl rfl ?_
      obtain ⟨g3, P⟩ := P
      obtain ⟨g4, P⟩ := P
      refine mx_lald (pc := 16) g3 g4 (mx_dd dd_X7_redirectionName 8 (16, .laload, 1) rfl) ?_
      refine mx_goto (pc := 17) 21 (mx_dd dd_X7_redirectionName 9 (17, .goto 4, 3) rfl) rfl ?_
      exact mx_lreturn (pc := 21) (mx_dd dd_X7_redirectionName 11 (21, .lreturn, 1) rfl) rfl P
theorem b_X10_init {d : Nat} {h : mxH} {Q : mxRes → mxH → Prop} (x0 : Nat) (x1 : Nat)
    (P : 1 ≤ d ∧ ∀ (b1 : Nat) (h1 : mxH), b1 = hpN h → h1 = hnw h 15 8 8 → hpK h1 x0 = 10 ∧ ∀ h2 : mxH, h2 = hsR h1 x0 0 (some b1) → ∀ (b2 : Nat) (h3 : mxH), b2 = hpN h2 → h3 = hnw h2 14 8 8 → hpK h3 x0 = 10 ∧ ∀ h4 : mxH, h4 = hsR h3 x0 1 (some b2) → ∀ (b3 : Nat) (h5 : mxH), b3 = hpN h4 → h5 = hnw h4 14 320 320 → hpK h5 x0 = 10 ∧ ∀ h6 : mxH, h6 = hsR h5 x0 2 (some b3) → ∀ (b4 : Nat) (h7 : mxH), b4 = hpN h6 → h7 = hnw h6 14 40 40 → hpK h7 x0 = 10 ∧ ∀ h8 : mxH, h8 = hsR h7 x0 4 (some b4) → ∀ (b5 : Nat) (h9 : mxH), b5 = hpN h8 → h9 = hnw h8 14 100 100 → hpK h9 x0 = 10 ∧ ∀ h10 : mxH, h10 = hsR h9 x0 6 (some b5) → ∀ (b6 : Nat) (h11 : mxH), b6 = hpN h10 → h11 = hnw h10 8 0 18 → mx_SM mY_X8_init (d - 1) [.ref b6, .ref x1] h11 (mx_KV (fun h12 => hpK h12 x0 = 10 ∧ ∀ h13 : mxH, h13 = hsR h12 x0 8 (some b6) → ∀ (b7 : Nat) (h14 : mxH), b7 = hpN h13 → h14 = hnw h13 14 180 180 → hpK h14 x0 = 10 ∧ ∀ h15 : mxH, h15 = hsR h14 x0 9 (some b7) → Q (.inl none) h15) fun _ _ => False)) : mx_SM mY_X10_init d [.ref x0, .ref x1] h Q := by
  refine mx_SM_of (by decide) (Nat.le_of_ble_eq_true rfl) ?_
  show mx_SX mY_X10_init d 0 [(0, .ref x0), (1, .ref x1)] [] h Q
  refine mx_aload_n (pc := 0) 0 (mx_dd dd_X10_init 0 (0, .aload_n 0, 1) rfl) rfl rfl ?_
  obtain ⟨g1, P⟩ := P
  refine mx_objInit (pc := 1) mx_oi_X10_3 mx_oii mx_oic (by decide) (mx_dd dd_X10_init 1 (1, .invokespecial 3, 3) rfl) g1 ?_
  refine mx_aload_n (pc := 4) 0 (mx_dd dd_X10_init 2 (4, .aload_n 0, 1) rfl) rfl rfl ?_
  refine mx_bipush (pc := 5) (v := (8 : Int32)) (mx_dd dd_X10_init 3 (5, .bipush 8, 2) rfl) (by decide) ?_
  refine mx_newa (pc := 7) (N := 8) (kd := 15) (by decide) rfl mx_ac_15 (by decide) (by decide) (by decide) (mx_dd dd_X10_init 4 (7, .newarray .long, 2) rfl) ?_
  have P := P _ _ rfl rfl
  obtain ⟨g2, P⟩ := P
  refine mx_putR (pc := 9) mx_fl_X10_11 g2 rfl (.inr ⟨rfl, rfl, rfl⟩) (mx_dd dd_X10_init 5 (9, .putfield 11, 3) rfl) ?_
  have P := P _ rfl
  refine mx_aload_n (pc := 12) 0 (mx_dd dd_X10_init 6 (12, .aload_n 0, 1) rfl) rfl rfl ?_
  refine mx_bipush (pc := 13) (v := (8 : Int32)) (mx_dd dd_X10_init 7 (13, .bipush 8, 2) rfl) (by decide) ?_
  refine mx_newa (pc := 15) (N := 8) (kd := 14) (by decide) rfl mx_ac_14 (by decide) (by decide) (by decide) (mx_dd dd_X10_init 8 (15, .newarray .int, 2) rfl) ?_
  have P := P _ _ rfl rfl
  obtain ⟨g3, P⟩ := P
  refine mx_putR (pc := 17) mx_fl_X10_15 g3 rfl (.inr ⟨rfl, rfl, rfl⟩) (mx_dd dd_X10_init 9 (17, .putfield 15, 3) rfl) ?_
  have P := P _ rfl
  refine mx_aload_n (pc := 20) 0 (mx_dd dd_X10_init 10 (20, .aload_n 0, 1) rfl) rfl rfl ?_
  refine mx_sipush (pc := 21) (v := (320 : Int32)) (mx_dd dd_X10_init 11 (21, .sipush 320, 3) rfl) (by decide) ?_
  refine mx_newa (pc := 24) (N := 320) (kd := 14) (by decide) rfl mx_ac_14 (by decide) (by decide) (by decide) (mx_dd dd_X10_init 12 (24, .newarray .int, 2) rfl) ?_
  have P := P _ _ rfl rfl
  obtain ⟨g4, P⟩ := P
  refine mx_putR (pc := 26) mx_fl_X10_19 g4 rfl (.inr ⟨rfl, rfl, rfl⟩) (mx_dd dd_X10_init 13 (26, .putfield 19, 3) rfl) ?_
  have P := P _ rfl
  refine mx_aload_n (pc := 29) 0 (mx_dd dd_X10_init 14 (29, .aload_n 0, 1) rfl) rfl rfl ?_
  refine mx_bipush (pc := 30) (v := (40 : Int32)) (mx_dd dd_X10_init 15 (30, .bipush 40, 2) rfl) (by decide) ?_
  refine mx_newa (pc := 32) (N := 40) (kd := 14) (by decide) rfl mx_ac_14 (by decide) (by decide) (by decide) (mx_dd dd_X10_init 16 (32, .newarray .int, 2) rfl) ?_
  have P := P _ _ rfl rfl
  obtain ⟨g5, P⟩ := P
  refine mx_putR (pc := 34) mx_fl_X10_22 g5 rfl (.inr ⟨rfl, rfl, rfl⟩) (mx_dd dd_X10_init 17 (34, .putfield 22, 3) rfl) ?_
  have P := P _ rfl
  refine mx_aload_n (pc := 37) 0 (mx_dd dd_X10_init 18 (37, .aload_n 0, 1) rfl) rfl rfl ?_
  refine mx_bipush (pc := 38) (v := (100 : Int32)) (mx_dd dd_X10_init 19 (38, .bipush 100, 2) rfl) (by decide) ?_
  refine mx_newa (pc := 40) (N := 100) (kd := 14) (by decide) rfl mx_ac_14 (by decide) (by decide) (by decide) (mx_dd dd_X10_init 20 (40, .newarray .int, 2) rfl) ?_
  have P := P _ _ rfl rfl
  obtain ⟨g6, P⟩ := P
  refine mx_putR (pc := 42) mx_fl_X10_25 g6 rfl (.inr ⟨rfl, rfl, rfl⟩) (mx_dd dd_X10_init 21 (42, .putfield 25, 3) rfl) ?_
  have P := P _ rfl
  refine mx_aload_n (pc := 45) 0 (mx_dd dd_X10_init 22 (45, .aload_n 0, 1) rfl) rfl rfl ?_
  refine mx_new (pc := 46) mx_nw_X10_28 (mx_nofd _) (mx_dd dd_X10_init 23 (46, .new 28, 3) rfl) ?_
  have P := P _ _ rfl rfl
  refine mx_dup (pc := 49) (mx_dd dd_X10_init 24 (49, .dup, 1) rfl) rfl ?_
  refine mx_aload_n (pc := 50) 1 (mx_dd dd_X10_init 25 (50, .aload_n 1, 1) rfl) rfl rfl ?_
  refine mx_cI (pc := 51) (Y := mY_X8_init) (As := [.ref x1]) mx_ml_X10_30 mx_y_X8_init rfl rfl (by simp [Value.category]) rfl (mx_dd dd_X10_init 26 (51, .invokespecial 30, 3) rfl) g1 (by decide) P (fun h12 P => ?_)
  obtain ⟨g7, P⟩ := P
  refine mx_putR (pc := 54) mx_fl_X10_33 g7 rfl (.inr ⟨rfl, rfl, rfl⟩) (mx_dd dd_X10_init 27 (54, .putfield 33, 3) rfl) ?_
  have P := P _ rfl
  refine mx_aload_n (pc := 57) 0 (mx_dd dd_X10_init 28 (57, .aload_n 0, 1) rfl) rfl rfl ?_
  refine mx_sipush (pc := 58) (v := (180 : Int32)) (mx_dd dd_X10_init 29 (58, .sipush 180, 3) rfl) (by decide) ?_
  refine mx_newa (pc := 61) (N := 180) (kd := 14) (by decide) rfl mx_ac_14 (by decide) (by decide) (by decide) (mx_dd dd_X10_init 30 (61, .newarray .int, 2) rfl) ?_
  have P := P _ _ rfl rfl
  obtain ⟨g8, P⟩ := P
  refine mx_putR (pc := 63) mx_fl_X10_37 g8 rfl (.inr ⟨rfl, rfl, rfl⟩) (mx_dd dd_X10_init 31 (63, .putfield 37, 3) rfl) ?_
  have P := P _ rfl
  exact mx_return (pc := 66) (mx_dd dd_X10_init 32 (66, .return_, 1) rfl) rfl P
theorem b_X10_beginAnew {d : Nat} {h : mxH} {Q : mxRes → mxH → Prop} (x0 : Nat)
    (P : hpK h x0 = 10 ∧ ∃ b1 : Nat, hpR h x0 8 = some b1 ∧ 1 ≤ d ∧ hpK h b1 = 8 ∧ mx_SM mY_X8_beginAnew (d - 1) [.ref b1] h (mx_KV (fun h1 => hpK h1 x0 = 10 ∧ mx_SM mY_X10_forgetRun (d - 1) [.ref x0] h1 (mx_KV (fun h2 => Q (.inl none) h2) (mx_XX mY_X10_beginAnew Q))) (mx_XX mY_X10_beginAnew Q))) : mx_SM mY_X10_beginAnew d [.ref x0] h Q := by
  refine mx_SM_of (by decide) (Nat.le_of_ble_eq_true rfl) ?_
  show mx_SX mY_X10_beginAnew d 0 [(0, .ref x0)] [] h Q
  refine mx_aload_n (pc := 0) 0 (mx_dd dd_X10_beginAnew 0 (0, .aload_n 0, 1) rfl) rfl rfl ?_
  obtain ⟨g1, P⟩ := P
  obtain ⟨b1, g2, P⟩ := P
  refine mx_getR (pc := 1) mx_fl_X10_33 g1 rfl g2 (mx_dd dd_X10_beginAnew 1 (1, .getfield 33, 3) rfl) ?_
  obtain ⟨g3, P⟩ := P
  obtain ⟨g4, P⟩ := P
  refine mx_cVV (pc := 4) (Y := mY_X8_beginAnew) (As := []) mx_ml_X10_40 mx_y_X8_beginAnew rfl g4 (by decide) rfl (by decide) rfl (mx_dd dd_X10_beginAnew 2 (4, .invokevirtual 40, 3) rfl) g3 (by decide) P (fun h1 P => ?_)
  refine mx_aload_n (pc := 7) 0 (mx_dd dd_X10_beginAnew 3 (7, .aload_n 0, 1) rfl) rfl rfl ?_
  obtain ⟨g5, P⟩ := P
  refine mx_cVV (pc := 8) (Y := mY_X10_forgetRun) (As := []) mx_ml_X10_43 mx_y_X10_forgetRun rfl g5 (by decide) rfl (by decide) rfl (mx_dd dd_X10_beginAnew 4 (8, .invokevirtual 43, 3) rfl) g3 (by decide) P (fun h2 P => ?_)
  exact mx_return (pc := 11) (mx_dd dd_X10_beginAnew 5 (11, .return_, 1) rfl) rfl P
theorem b_X10_forgetRun {d : Nat} {h : mxH} {Q : mxRes → mxH → Prop} (x0 : Nat)
    (P : hpK h x0 = 10 ∧ ∀ h1 : mxH, h1 = hsI h x0 10 (0 : Int32) → ∀ h2 : mxH, h2 = hsI h1 x0 11 (0 : Int32) → ∀ h3 : mxH, h3 = hsI h2 x0 12 (0 : Int32) → ∀ h4 : mxH, h4 = hsI h3 x0 13 (0 : Int32) → Q (.inl none) h4) : mx_SM mY_X10_forgetRun d [.ref x0] h Q := by
  refine mx_SM_of (by decide) (Nat.le_of_ble_eq_true rfl) ?_
  show mx_SX mY_X10_forgetRun d 0 [(0, .ref x0)] [] h Q
  refine mx_aload_n (pc := 0) 0 (mx_dd dd_X10_forgetRun 0 (0, .aload_n 0, 1) rfl) rfl rfl ?_
  refine mx_iconst (pc := 1) (v := (0 : Int32)) (mx_dd dd_X10_forgetRun 1 (1, .iconst 0, 1) rfl) (by decide) ?_
  obtain ⟨g1, P⟩ := P
  refine mx_putI (pc := 2) mx_fl_X10_46 g1 rfl (.inl rfl) rfl rfl (mx_dd dd_X10_forgetRun 2 (2, .putfield 46, 3) rfl) ?_
  have P := P _ rfl
  refine mx_aload_n (pc := 5) 0 (mx_dd dd_X10_forgetRun 3 (5, .aload_n 0, 1) rfl) rfl rfl ?_
  refine mx_iconst (pc := 6) (v := (0 : Int32)) (mx_dd dd_X10_forgetRun 4 (6, .iconst 0, 1) rfl) (by decide) ?_
  refine mx_putI (pc := 7) mx_fl_X10_50 g1 rfl (.inl rfl) rfl rfl (mx_dd dd_X10_forgetRun 5 (7, .putfield 50, 3) rfl) ?_
  have P := P _ rfl
  refine mx_aload_n (pc := 10) 0 (mx_dd dd_X10_forgetRun 6 (10, .aload_n 0, 1) rfl) rfl rfl ?_
  refine mx_iconst (pc := 11) (v := (0 : Int32)) (mx_dd dd_X10_forgetRun 7 (11, .iconst 0, 1) rfl) (by decide) ?_
  refine mx_putI (pc := 12) mx_fl_X10_53 g1 rfl (.inl rfl) rfl rfl (mx_dd dd_X10_forgetRun 8 (12, .putfield 53, 3) rfl) ?_
  have P := P _ rfl
  refine mx_aload_n (pc := 15) 0 (mx_dd dd_X10_forgetRun 9 (15, .aload_n 0, 1) rfl) rfl rfl ?_
  refine mx_iconst (pc := 16) (v := (0 : Int32)) (mx_dd dd_X10_forgetRun 10 (16, .iconst 0, 1) rfl) (by decide) ?_
  refine mx_putI (pc := 17) mx_fl_X10_56 g1 rfl (.inl rfl) rfl rfl (mx_dd dd_X10_forgetRun 11 (17, .putfield 56, 3) rfl) ?_
  have P := P _ rfl
  exact mx_return (pc := 20) (mx_dd dd_X10_forgetRun 12 (20, .return_, 1) rfl) rfl P
theorem b_X10_copyFrom {d : Nat} {h : mxH} {Q : mxRes → mxH → Prop} (x0 : Nat) (x1 : Nat)
    (P : hpK h x1 = 10 ∧ hpK h x0 = 10 ∧ ∀ h1 : mxH, h1 = hsI h x0 3 (hpI h x1 3) → ∃ b1 : Nat, hpR h1 x1 0 = some b1 ∧ ∃ b2 : Nat, hpR h1 x0 0 = some b2 ∧ hpK h1 b1 = 15 ∧ hpK h1 b2 = 15 ∧ (0 : Int32).toNatClampNeg + (8 : Int32).toNatClampNeg ≤ hpZ h1 b1 ∧ (0 : Int32).toNatClampNeg + (8 : Int32).toNatClampNeg ≤ hpZ h1 b2 ∧ 1 ≤ d ∧ ∀ h2 : mxH, h2 = hrL h1 b2 (va_cpy (hpL h1 b1) (hpL h1 b2) (0 : Int32).toNatClampNeg (0 : Int32).toNatClampNeg (8 : Int32).toNatClampNeg) → ∃ b3 : Nat, hpR h2 x1 1 = some b3 ∧ ∃ b4 : Nat, hpR h2 x0 1 = some b4 ∧ hpK h2 b3 = 14 ∧ hpK h2 b4 = 14 ∧ (0 : Int32).toNatClampNeg + (8 : Int32).toNatClampNeg ≤ hpZ h2 b3 ∧ (0 : Int32).toNatClampNeg + (8 : Int32).toNatClampNeg ≤ hpZ h2 b4 ∧ ∀ h3 : mxH, h3 = hrI h2 b4 (va_cpy (hpI h2 b3) (hpI h2 b4) (0 : Int32).toNatClampNeg (0 : Int32).toNatClampNeg (8 : Int32).toNatClampNeg) → ∃ b5 : Nat, hpR h3 x1 2 = some b5 ∧ ∃ b6 : Nat, hpR h3 x0 2 = some b6 ∧ hpK h3 b5 = 14 ∧ hpK h3 b6 = 14 ∧ (0 : Int32).toNatClampNeg + (320 : Int32).toNatClampNeg ≤ hpZ h3 b5 ∧ (0 : Int32).toNatClampNeg + (320 : Int32).toNatClampNeg ≤ hpZ h3 b6 ∧ ∀ h4 : mxH, h4 = hrI h3 b6 (va_cpy (hpI h3 b5) (hpI h3 b6) (0 : Int32).toNatClampNeg (0 : Int32).toNatClampNeg (320 : Int32).toNatClampNeg) → ∀ h5 : mxH, h5 = hsI h4 x0 5 (hpI h4 x1 5) → ∃ b7 : Nat, hpR h5 x1 4 = some b7 ∧ ∃ b8 : Nat, hpR h5 x0 4 = some b8 ∧ hpK h5 b7 = 14 ∧ hpK h5 b8 = 14 ∧ (0 : Int32).toNatClampNeg + (40 : Int32).toNatClampNeg ≤ hpZ h5 b7 ∧ (0 : Int32).toNatClampNeg + (40 : Int32).toNatClampNeg ≤ hpZ h5 b8 ∧ ∀ h6 : mxH, h6 = hrI h5 b8 (va_cpy (hpI h5 b7) (hpI h5 b8) (0 : Int32).toNatClampNeg (0 : Int32).toNatClampNeg (40 : Int32).toNatClampNeg) → ∀ h7 : mxH, h7 = hsI h6 x0 7 (hpI h6 x1 7) → ∃ b9 : Nat, hpR h7 x1 6 = some b9 ∧ ∃ b10 : Nat, hpR h7 x0 6 = some b10 ∧ hpK h7 b9 = 14 ∧ hpK h7 b10 = 14 ∧ (0 : Int32).toNatClampNeg + (100 : Int32).toNatClampNeg ≤ hpZ h7 b9 ∧ (0 : Int32).toNatClampNeg + (100 : Int32).toNatClampNeg ≤ hpZ h7 b10 ∧ ∀ h8 : mxH, h8 = hrI h7 b10 (va_cpy (hpI h7 b9) (hpI h7 b10) (0 : Int32).toNatClampNeg (0 : Int32).toNatClampNeg (100 : Int32).toNatClampNeg) → ∃ b11 : Nat, hpR h8 x0 8 = some b11 ∧ ∃ b12 : Nat, hpR h8 x1 8 = some b12 ∧ hpK h8 b11 = 8 ∧ mx_SM mY_X8_copyFrom (d - 1) [.ref b11, .ref b12] h8 (mx_KV (fun h9 => hpK h9 x1 = 10 ∧ hpK h9 x0 = 10 ∧ ∀ h10 : mxH, h10 = hsI h9 x0 10 (hpI h9 x1 10) → ∃ b13 : Nat, hpR h10 x1 9 = some b13 ∧ ∃ b14 : Nat, hpR h10 x0 9 = some b14 ∧ hpK h10 b13 = 14 ∧ hpK h10 b14 = 14 ∧ (0 : Int32).toNatClampNeg + (180 : Int32).toNatClampNeg ≤ hpZ h10 b13 ∧ (0 : Int32).toNatClampNeg + (180 : Int32).toNatClampNeg ≤ hpZ h10 b14 ∧ ∀ h11 : mxH, h11 = hrI h10 b14 (va_cpy (hpI h10 b13) (hpI h10 b14) (0 : Int32).toNatClampNeg (0 : Int32).toNatClampNeg (180 : Int32).toNatClampNeg) → ∀ h12 : mxH, h12 = hsI h11 x0 11 (hpI h11 x1 11) → ∀ h13 : mxH, h13 = hsI h12 x0 12 (hpI h12 x1 12) → (hpI h13 x1 13 = 0 ∨ hpI h13 x1 13 = 1) ∧ ∀ h14 : mxH, h14 = hsI h13 x0 13 (hpI h13 x1 13) → Q (.inl none) h14) (mx_XX mY_X10_copyFrom Q))) : mx_SM mY_X10_copyFrom d [.ref x0, .ref x1] h Q := by
  refine mx_SM_of (by decide) (Nat.le_of_ble_eq_true rfl) ?_
  show mx_SX mY_X10_copyFrom d 0 [(0, .ref x0), (1, .ref x1)] [] h Q
  refine mx_aload_n (pc := 0) 0 (mx_dd dd_X10_copyFrom_0 0 (0, .aload_n 0, 1) rfl) rfl rfl ?_
  refine mx_aload_n (pc := 1) 1 (mx_dd dd_X10_copyFrom_0 1 (1, .aload_n 1, 1) rfl) rfl rfl ?_
  obtain ⟨g1, P⟩ := P
  refine mx_getI (pc := 2) mx_fl_X10_60 g1 rfl (mx_dd dd_X10_copyFrom_0 2 (2, .getfield 60, 3) rfl) ?_
  obtain ⟨g2, P⟩ := P
  refine mx_putI (pc := 5) mx_fl_X10_60 g2 rfl (.inl rfl) rfl rfl (mx_dd dd_X10_copyFrom_0 3 (5, .putfield 60, 3) rfl) ?_
  have P := P _ rfl
  refine mx_aload_n (pc := 8) 1 (mx_dd dd_X10_copyFrom_0 4 (8, .aload_n 1, 1) rfl) rfl rfl ?_
  obtain ⟨b1, g3, P⟩ := P
  refine mx_getR (pc := 9) mx_fl_X10_11 g1 rfl g3 (mx_dd dd_X10_copyFrom_0 5 (9, .getfield 11, 3) rfl) ?_
  refine mx_iconst (pc := 12) (v := (0 : Int32)) (mx_dd dd_X10_copyFrom_0 6 (12, .iconst 0, 1) rfl) (by decide) ?_
  refine mx_aload_n (pc := 13) 0 (mx_dd dd_X10_copyFrom_0 7 (13, .aload_n 0, 1) rfl) rfl rfl ?_
  obtain ⟨b2, g4, P⟩ := P
  refine mx_getR (pc := 14) mx_fl_X10_11 g2 rfl g4 (mx_dd dd_X10_copyFrom_0 8 (14, .getfield 11, 3) rfl) ?_
  refine mx_iconst (pc := 17) (v := (0 : Int32)) (mx_dd dd_X10_copyFrom_0 9 (17, .iconst 0, 1) rfl) (by decide) ?_
  refine mx_bipush (pc := 18) (v := (8 : Int32)) (mx_dd dd_X10_copyFrom_0 10 (18, .bipush 8, 2) rfl) (by decide) ?_
  obtain ⟨g5, P⟩ := P
  obtain ⟨g6, P⟩ := P
  obtain ⟨g7, P⟩ := P
  obtain ⟨g8, P⟩ := P
  obtain ⟨g9, P⟩ := P
  refine mx_copyL (pc := 20) g5 g6 (by decide) (by decide) (by decide) g7 g8 mx_cl_X10_63 mx_cpn mx_cps mx_cpi (by decide) (mx_dd dd_X10_copyFrom_0 11 (20, .invokestatic 63, 3) rfl) g9 ?_
  have P := P _ rfl
  refine mx_aload_n (pc := 23) 1 (mx_dd dd_X10_copyFrom_0 12 (23, .aload_n 1, 1) rfl) rfl rfl ?_
  obtain ⟨b3, g10, P⟩ := P
  refine mx_getR (pc := 24) mx_fl_X10_15 g1 rfl g10 (mx_dd dd_X10_copyFrom_0 13 (24, .getfield 15, 3) rfl) ?_
  refine mx_iconst (pc := 27) (v := (0 : Int32)) (mx_dd dd_X10_copyFrom_0 14 (27, .iconst 0, 1) rfl) (by decide) ?_
  refine mx_aload_n (pc := 28) 0 (mx_dd dd_X10_copyFrom_0 15 (28, .aload_n 0, 1) rfl) rfl rfl ?_
  obtain ⟨b4, g11, P⟩ := P
  refine mx_getR (pc := 29) mx_fl_X10_15 g2 rfl g11 (mx_dd dd_X10_copyFrom_0 16 (29, .getfield 15, 3) rfl) ?_
  refine mx_iconst (pc := 32) (v := (0 : Int32)) (mx_dd dd_X10_copyFrom_0 17 (32, .iconst 0, 1) rfl) (by decide) ?_
  refine mx_bipush (pc := 33) (v := (8 : Int32)) (mx_dd dd_X10_copyFrom_0 18 (33, .bipush 8, 2) rfl) (by decide) ?_
  obtain ⟨g12, P⟩ := P
  obtain ⟨g13, P⟩ := P
  obtain ⟨g14, P⟩ := P
  obtain ⟨g15, P⟩ := P
  refine mx_copyI (pc := 35) g12 g13 (by decide) (by decide) (by decide) (by decide) g14 g15 (fun q => absurd q (by decide)) mx_cl_X10_63 mx_cpn mx_cps mx_cpi (by decide) (mx_dd dd_X10_copyFrom_0 19 (35, .invokestatic 63, 3) rfl) g9 ?_
  have P := P _ rfl
  refine mx_aload_n (pc := 38) 1 (mx_dd dd_X10_copyFrom_0 20 (38, .aload_n 1, 1) rfl) rfl rfl ?_
  obtain ⟨b5, g16, P⟩ := P
  refine mx_getR (pc := 39) mx_fl_X10_19 g1 rfl g16 (mx_dd dd_X10_copyFrom_0 21 (39, .getfield 19, 3) rfl) ?_
  refine mx_iconst (pc := 42) (v := (0 : Int32)) (mx_dd dd_X10_copyFrom_0 22 (42, .iconst 0, 1) rfl) (by decide) ?_
  refine mx_aload_n (pc := 43) 0 (mx_dd dd_X10_copyFrom_0 23 (43, .aload_n 0, 1) rfl) rfl rfl ?_
  obtain ⟨b6, g17, P⟩ := P
  refine mx_getR (pc := 44) mx_fl_X10_19 g2 rfl g17 (mx_dd dd_X10_copyFrom_0 24 (44, .getfield 19, 3) rfl) ?_
  refine mx_iconst (pc := 47) (v := (0 : Int32)) (mx_dd dd_X10_copyFrom_0 25 (47, .iconst 0, 1) rfl) (by decide) ?_
  refine mx_sipush (pc := 48) (v := (320 : Int32)) (mx_dd dd_X10_copyFrom_0 26 (48, .sipush 320, 3) rfl) (by decide) ?_
  obtain ⟨g18, P⟩ := P
  obtain ⟨g19, P⟩ := P
  obtain ⟨g20, P⟩ := P
  obtain ⟨g21, P⟩ := P
  refine mx_copyI (pc := 51) g18 g19 (by decide) (by decide) (by decide) (by decide) g20 g21 (fun q => absurd q (by decide)) mx_cl_X10_63 mx_cpn mx_cps mx_cpi (by decide) (mx_dd dd_X10_copyFrom_0 27 (51, .invokestatic 63, 3) rfl) g9 ?_
  have P := P _ rfl
  refine mx_aload_n (pc := 54) 0 (mx_dd dd_X10_copyFrom_0 28 (54, .aload_n 0, 1) rfl) rfl rfl ?_
  refine mx_aload_n (pc := 55) 1 (mx_dd dd_X10_copyFrom_0 29 (55, .aload_n 1, 1) rfl) rfl rfl ?_
  refine mx_getI (pc := 56) mx_fl_X10_69 g1 rfl (mx_dd dd_X10_copyFrom_0 30 (56, .getfield 69, 3) rfl) ?_
  refine mx_putI (pc := 59) mx_fl_X10_69 g2 rfl (.inl rfl) rfl rfl (mx_dd dd_X10_copyFrom_0 31 (59, .putfield 69, 3) rfl) ?_
  have P := P _ rfl
  refine mx_aload_n (pc := 62) 1 (mx_dd dd_X10_copyFrom_0 32 (62, .aload_n 1, 1) rfl) rfl rfl ?_
  obtain ⟨b7, g22, P⟩ := P
  refine mx_getR (pc := 63) mx_fl_X10_22 g1 rfl g22 (mx_dd dd_X10_copyFrom_0 33 (63, .getfield 22, 3) rfl) ?_
  refine mx_iconst (pc := 66) (v := (0 : Int32)) (mx_dd dd_X10_copyFrom_0 34 (66, .iconst 0, 1) rfl) (by decide) ?_
  refine mx_aload_n (pc := 67) 0 (mx_dd dd_X10_copyFrom_0 35 (67, .aload_n 0, 1) rfl) rfl rfl ?_
  obtain ⟨b8, g23, P⟩ := P
  refine mx_getR (pc := 68) mx_fl_X10_22 g2 rfl g23 (mx_dd dd_X10_copyFrom_0 36 (68, .getfield 22, 3) rfl) ?_
  refine mx_iconst (pc := 71) (v := (0 : Int32)) (mx_dd dd_X10_copyFrom_0 37 (71, .iconst 0, 1) rfl) (by decide) ?_
  refine mx_bipush (pc := 72) (v := (40 : Int32)) (mx_dd dd_X10_copyFrom_0 38 (72, .bipush 40, 2) rfl) (by decide) ?_
  obtain ⟨g24, P⟩ := P
  obtain ⟨g25, P⟩ := P
  obtain ⟨g26, P⟩ := P
  obtain ⟨g27, P⟩ := P
  refine mx_copyI (pc := 74) g24 g25 (by decide) (by decide) (by decide) (by decide) g26 g27 (fun q => absurd q (by decide)) mx_cl_X10_63 mx_cpn mx_cps mx_cpi (by decide) (mx_dd dd_X10_copyFrom_0 39 (74, .invokestatic 63, 3) rfl) g9 ?_
  have P := P _ rfl
  refine mx_aload_n (pc := 77) 0 (mx_dd dd_X10_copyFrom_1 0 (77, .aload_n 0, 1) rfl) rfl rfl ?_
  refine mx_aload_n (pc := 78) 1 (mx_dd dd_X10_copyFrom_1 1 (78, .aload_n 1, 1) rfl) rfl rfl ?_
  refine mx_getI (pc := 79) mx_fl_X10_72 g1 rfl (mx_dd dd_X10_copyFrom_1 2 (79, .getfield 72, 3) rfl) ?_
  refine mx_putI (pc := 82) mx_fl_X10_72 g2 rfl (.inl rfl) rfl rfl (mx_dd dd_X10_copyFrom_1 3 (82, .putfield 72, 3) rfl) ?_
  have P := P _ rfl
  refine mx_aload_n (pc := 85) 1 (mx_dd dd_X10_copyFrom_1 4 (85, .aload_n 1, 1) rfl) rfl rfl ?_
  obtain ⟨b9, g28, P⟩ := P
  refine mx_getR (pc := 86) mx_fl_X10_25 g1 rfl g28 (mx_dd dd_X10_copyFrom_1 5 (86, .getfield 25, 3) rfl) ?_
  refine mx_iconst (pc := 89) (v := (0 : Int32)) (mx_dd dd_X10_copyFrom_1 6 (89, .iconst 0, 1) rfl) (by decide) ?_
  refine mx_aload_n (pc := 90) 0 (mx_dd dd_X10_copyFrom_1 7 (90, .aload_n 0, 1) rfl) rfl rfl ?_
  obtain ⟨b10, g29, P⟩ := P
  refine mx_getR (pc := 91) mx_fl_X10_25 g2 rfl g29 (mx_dd dd_X10_copyFrom_1 8 (91, .getfield 25, 3) rfl) ?_
  refine mx_iconst (pc := 94) (v := (0 : Int32)) (mx_dd dd_X10_copyFrom_1 9 (94, .iconst 0, 1) rfl) (by decide) ?_
  refine mx_bipush (pc := 95) (v := (100 : Int32)) (mx_dd dd_X10_copyFrom_1 10 (95, .bipush 100, 2) rfl) (by decide) ?_
  obtain ⟨g30, P⟩ := P
  obtain ⟨g31, P⟩ := P
  obtain ⟨g32, P⟩ := P
  obtain ⟨g33, P⟩ := P
  refine mx_copyI (pc := 97) g30 g31 (by decide) (by decide) (by decide) (by decide) g32 g33 (fun q => absurd q (by decide)) mx_cl_X10_63 mx_cpn mx_cps mx_cpi (by decide) (mx_dd dd_X10_copyFrom_1 11 (97, .invokestatic 63, 3) rfl) g9 ?_
  have P := P _ rfl
  refine mx_aload_n (pc := 100) 0 (mx_dd dd_X10_copyFrom_1 12 (100, .aload_n 0, 1) rfl) rfl rfl ?_
  obtain ⟨b11, g34, P⟩ := P
  refine mx_getR (pc := 101) mx_fl_X10_33 g2 rfl g34 (mx_dd dd_X10_copyFrom_1 13 (101, .getfield 33, 3) rfl) ?_
  refine mx_aload_n (pc := 104) 1 (mx_dd dd_X10_copyFrom_1 14 (104, .aload_n 1, 1) rfl) rfl rfl ?_
  obtain ⟨b12, g35, P⟩ := P
  refine mx_getR (pc := 105) mx_fl_X10_33 g1 rfl g35 (mx_dd dd_X10_copyFrom_1 15 (105, .getfield 33, 3) rfl) ?_
  obtain ⟨g36, P⟩ := P
  refine mx_cVV (pc := 108) (Y := mY_X8_copyFrom) (As := [.ref b12]) mx_ml_X10_75 mx_y_X8_copyFrom rfl g36 (by decide) rfl (by decide) rfl (mx_dd dd_X10_copyFrom_1 16 (108, .invokevirtual 75, 3) rfl) g9 (by decide) P (fun h9 P => ?_)
  refine mx_aload_n (pc := 111) 0 (mx_dd dd_X10_copyFrom_1 17 (111, .aload_n 0, 1) rfl) rfl rfl ?_
  refine mx_aload_n (pc := 112) 1 (mx_dd dd_X10_copyFrom_1 18 (112, .aload_n 1, 1) rfl) rfl rfl ?_
  obtain ⟨g37, P⟩ := P
  refine mx_getI (pc := 113) mx_fl_X10_46 g37 rfl (mx_dd dd_X10_copyFrom_1 19 (113, .getfield 46, 3) rfl) ?_
  obtain ⟨g38, P⟩ := P
  refine mx_putI (pc := 116) mx_fl_X10_46 g38 rfl (.inl rfl) rfl rfl (mx_dd dd_X10_copyFrom_1 20 (116, .putfield 46, 3) rfl) ?_
  have P := P _ rfl
  refine mx_aload_n (pc := 119) 1 (mx_dd dd_X10_copyFrom_1 21 (119, .aload_n 1, 1) rfl) rfl rfl ?_
  obtain ⟨b13, g39, P⟩ := P
  refine mx_getR (pc := 120) mx_fl_X10_37 g37 rfl g39 (mx_dd dd_X10_copyFrom_1 22 (120, .getfield 37, 3) rfl) ?_
  refine mx_iconst (pc := 123) (v := (0 : Int32)) (mx_dd dd_X10_copyFrom_1 23 (123, .iconst 0, 1) rfl) (by decide) ?_
  refine mx_aload_n (pc := 124) 0 (mx_dd dd_X10_copyFrom_1 24 (124, .aload_n 0, 1) rfl) rfl rfl ?_
  obtain ⟨b14, g40, P⟩ := P
  refine mx_getR (pc := 125) mx_fl_X10_37 g38 rfl g40 (mx_dd dd_X10_copyFrom_1 25 (125, .getfield 37, 3) rfl) ?_
  refine mx_iconst (pc := 128) (v := (0 : Int32)) (mx_dd dd_X10_copyFrom_1 26 (128, .iconst 0, 1) rfl) (by decide) ?_
  refine mx_sipush (pc := 129) (v := (180 : Int32)) (mx_dd dd_X10_copyFrom_1 27 (129, .sipush 180, 3) rfl) (by decide) ?_
  obtain ⟨g41, P⟩ := P
  obtain ⟨g42, P⟩ := P
  obtain ⟨g43, P⟩ := P
  obtain ⟨g44, P⟩ := P
  refine mx_copyI (pc := 132) g41 g42 (by decide) (by decide) (by decide) (by decide) g43 g44 (fun q => absurd q (by decide)) mx_cl_X10_63 mx_cpn mx_cps mx_cpi (by decide) (mx_dd dd_X10_copyFrom_1 28 (132, .invokestatic 63, 3) rfl) g9 ?_
  have P := P _ rfl
  refine mx_aload_n (pc := 135) 0 (mx_dd dd_X10_copyFrom_1 29 (135, .aload_n 0, 1) rfl) rfl rfl ?_
  refine mx_aload_n (pc := 136) 1 (mx_dd dd_X10_copyFrom_1 30 (136, .aload_n 1, 1) rfl) rfl rfl ?_
  refine mx_getI (pc := 137) mx_fl_X10_50 g37 rfl (mx_dd dd_X10_copyFrom_1 31 (137, .getfield 50, 3) rfl) ?_
  refine mx_putI (pc := 140) mx_fl_X10_50 g38 rfl (.inl rfl) rfl rfl (mx_dd dd_X10_copyFrom_1 32 (140, .putfield 50, 3) rfl) ?_
  have P := P _ rfl
  refine mx_aload_n (pc := 143) 0 (mx_dd dd_X10_copyFrom_1 33 (143, .aload_n 0, 1) rfl) rfl rfl ?_
  refine mx_aload_n (pc := 144) 1 (mx_dd dd_X10_copyFrom_1 34 (144, .aload_n 1, 1) rfl) rfl rfl ?_
  refine mx_getI (pc := 145) mx_fl_X10_53 g37 rfl (mx_dd dd_X10_copyFrom_1 35 (145, .getfield 53, 3) rfl) ?_
  refine mx_putI (pc := 148) mx_fl_X10_53 g38 rfl (.inl rfl) rfl rfl (mx_dd dd_X10_copyFrom_1 36 (148, .putfield 53, 3) rfl) ?_
  have P := P _ rfl
  refine mx_aload_n (pc := 151) 0 (mx_dd dd_X10_copyFrom_1 37 (151, .aload_n 0, 1) rfl) rfl rfl ?_
  refine mx_aload_n (pc := 152) 1 (mx_dd dd_X10_copyFrom_1 38 (152, .aload_n 1, 1) rfl) rfl rfl ?_
  refine mx_getI (pc := 153) mx_fl_X10_56 g37 rfl (mx_dd dd_X10_copyFrom_1 39 (153, .getfield 56, 3) rfl) ?_
  obtain ⟨g45, P⟩ := P
  refine mx_putI (pc := 156) mx_fl_X10_56 g38 rfl (.inl rfl) (mx_nb g45).1 (mx_nb g45).2 (mx_dd dd_X10_copyFrom_2 0 (156, .putfield 56, 3) rfl) ?_
  have P := P _ rfl
  exact mx_return (pc := 159) (mx_dd dd_X10_copyFrom_2 1 (159, .return_, 1) rfl) rfl P
theorem b_X10_markLines {d : Nat} {h : mxH} {Q : mxRes → mxH → Prop} (x0 : Nat) (x1 : Nat)
    (P : mx_SX mY_X10_markLines d 2 [(0, .ref x0), (1, .ref x1), (2, .int (0 : Int32))] [] h Q) : mx_SM mY_X10_markLines d [.ref x0, .ref x1] h Q := by
  refine mx_SM_of (by decide) (Nat.le_of_ble_eq_true rfl) ?_
  show mx_SX mY_X10_markLines d 0 [(0, .ref x0), (1, .ref x1)] [] h Q
  refine mx_iconst (pc := 0) (v := (0 : Int32)) (mx_dd dd_X10_markLines 0 (0, .iconst 0, 1) rfl) (by decide) ?_
  refine mx_istore_n (pc := 1) (mx_dd dd_X10_markLines 1 (1, .istore_n 2, 1) rfl) rfl (by decide) (lv' := [(2, _), (0, _), (1, _)]) rfl ?_
  refine mx_sel [1, 2, 0] rfl ?_
  exact P
theorem b_X10_markLines_2 {d : Nat} {h : mxH} {Q : mxRes → mxH → Prop} (x0 : Nat) (x1 : Nat) (x2 : Int32)
    (P : hpK h x0 = 10 ∧ (((hpI h x0 3) ≤ x2 → ∃ b1 : Nat, hpR h x0 4 = some b1 ∧ 1 ≤ d ∧ hpK h x1 = 3 ∧ mx_SM mY_X3_markAll (d - 1) [.ref x1, .ref b1, .int (0 : Int32), .int (hpI h x0 5)] h (mx_KV (fun h1 => hpK h1 x0 = 10 ∧ ∃ b2 : Nat, hpR h1 x0 6 = some b2 ∧ hpK h1 x1 = 3 ∧ mx_SM mY_X3_markAll (d - 1) [.ref x1, .ref b2, .int (0 : Int32), .int (hpI h1 x0 7)] h1 (mx_KV (fun h2 => hpK h2 x0 = 10 ∧ ∃ b3 : Nat, hpR h2 x0 8 = some b3 ∧ hpK h2 b3 = 8 ∧ ∃ b4 : Nat, hpR h2 b3 0 = some b4 ∧ hpK h2 b4 = 9 ∧ mx_SM mY_X9_markLines (d - 1) [.ref b4, .ref x1] h2 (mx_KV (fun h3 => Q (.inl none) h3) (mx_XX mY_X10_markLines Q))) (mx_XX mY_X10_markLines Q))) (mx_XX mY_X10_markLines Q))) ∧ (¬ (hpI h x0 3) ≤ x2 → ∃ b5 : Nat, hpR h x0 2 = some b5 ∧ 1 ≤ d ∧ mx_SM mY_X10_fileLength (d - 1) [.ref x0, .int x2] h (mx_KI (fun v1 h4 => hpK h4 x1 = 3 ∧ mx_SM mY_X3_markAll (d - 1) [.ref x1, .ref b5, .int (x2 * (40 : Int32)), .int v1] h4 (mx_KV (fun h5 => mx_SX mY_X10_markLines d 2 [(0, .ref x0), (1, .ref x1), (2, .int (x2 + (1 : Int32)))] [] h5 Q) (mx_XX mY_X10_markLines Q))) (mx_XX mY_X10_markLines Q))))) : mx_SX mY_X10_markLines d 2 [(0, .ref x0), (1, .ref x1), (2, .int x2)] [] h Q := by
  refine mx_iload_n (pc := 2) 2 (mx_dd dd_X10_markLines 2 (2, .iload_n 2, 1) rfl) rfl rfl ?_
  refine mx_aload_n (pc := 3) 0 (mx_dd dd_X10_markLines 3 (3, .aload_n 0, 1) rfl) rfl rfl ?_
  obtain ⟨g1, P⟩ := P
  refine mx_getI (pc := 4) mx_fl_X10_60 g1 rfl (mx_dd dd_X10_markLines 4 (4, .getfield 60, 3) rfl) ?_
  refine mx_icmp_ge (pc := 7) 33 (mx_dd dd_X10_markLines 5 (7, .if_icmp .ge 26, 3) rfl) rfl (fun c7 => ?_) (fun c7 => ?_)
  · have P := P.1 c7
    refine mx_aload_n (pc := 33) 1 (mx_dd dd_X10_markLines 18 (33, .aload_n 1, 1) rfl) rfl rfl ?_
    refine mx_aload_n (pc := 34) 0 (mx_dd dd_X10_markLines 19 (34, .aload_n 0, 1) rfl) rfl rfl ?_
    obtain ⟨b1, g2, P⟩ := P
    refine mx_getR (pc := 35) mx_fl_X10_22 g1 rfl g2 (mx_dd dd_X10_markLines 20 (35, .getfield 22, 3) rfl) ?_
    refine mx_iconst (pc := 38) (v := (0 : Int32)) (mx_dd dd_X10_markLines 21 (38, .iconst 0, 1) rfl) (by decide) ?_
    refine mx_aload_n (pc := 39) 0 (mx_dd dd_X10_markLines 22 (39, .aload_n 0, 1) rfl) rfl rfl ?_
    refine mx_getI (pc := 40) mx_fl_X10_69 g1 rfl (mx_dd dd_X10_markLines 23 (40, .getfield 69, 3) rfl) ?_
    obtain ⟨g3, P⟩ := P
    obtain ⟨g4, P⟩ := P
    refine mx_cVV (pc := 43) (Y := mY_X3_markAll) (As := [.ref b1, .int (0 : Int32), .int (hpI h x0 5)]) mx_ml_X10_83 mx_y_X3_markAll rfl g4 (by decide) rfl (by decide) rfl (mx_dd dd_X10_markLines 24 (43, .invokevirtual 83, 3) rfl) g3 (by decide) P (fun h1 P => ?_)
    refine mx_aload_n (pc := 46) 1 (mx_dd dd_X10_markLines 25 (46, .aload_n 1, 1) rfl) rfl rfl ?_
    refine mx_aload_n (pc := 47) 0 (mx_dd dd_X10_markLines 26 (47, .aload_n 0, 1) rfl) rfl rfl ?_
    obtain ⟨g5, P⟩ := P
    obtain ⟨b2, g6, P⟩ := P
    refine mx_getR (pc := 48) mx_fl_X10_25 g5 rfl g6 (mx_dd dd_X10_markLines 27 (48, .getfield 25, 3) rfl) ?_
    refine mx_iconst (pc := 51) (v := (0 : Int32)) (mx_dd dd_X10_markLines 28 (51, .iconst 0, 1) rfl) (by decide) ?_
    refine mx_aload_n (pc := 52) 0 (mx_dd dd_X10_markLines 29 (52, .aload_n 0, 1) rfl) rfl rfl ?_
    refine mx_getI (pc := 53) mx_fl_X10_72 g5 rfl (mx_dd dd_X10_markLines 30 (53, .getfield 72, 3) rfl) ?_
    obtain ⟨g7, P⟩ := P
    refine mx_cVV (pc := 56) (Y := mY_X3_markAll) (As := [.ref b2, .int (0 : Int32), .int (hpI h1 x0 7)]) mx_ml_X10_83 mx_y_X3_markAll rfl g7 (by decide) rfl (by decide) rfl (mx_dd dd_X10_markLines 31 (56, .invokevirtual 83, 3) rfl) g3 (by decide) P (fun h2 P => ?_)
    refine mx_aload_n (pc := 59) 0 (mx_dd dd_X10_markLines 32 (59, .aload_n 0, 1) rfl) rfl rfl ?_
    obtain ⟨g8, P⟩ := P
    obtain ⟨b3, g9, P⟩ := P
    refine mx_getR (pc := 60) mx_fl_X10_33 g8 rfl g9 (mx_dd dd_X10_markLines 33 (60, .getfield 33, 3) rfl) ?_
    obtain ⟨g10, P⟩ := P
    obtain ⟨b4, g11, P⟩ := P
    refine mx_getR (pc := 63) mx_fl_X10_89 g10 rfl g11 (mx_dd dd_X10_markLines 34 (63, .getfield 89, 3) rfl) ?_
    refine mx_aload_n (pc := 66) 1 (mx_dd dd_X10_markLines 35 (66, .aload_n 1, 1) rfl) rfl rfl ?_
    obtain ⟨g12, P⟩ := P
    refine mx_cVV (pc := 67) (Y := mY_X9_markLines) (As := [.ref x1]) mx_ml_X10_93 mx_y_X9_markLines rfl g12 (by decide) rfl (by decide) rfl (mx_dd dd_X10_markLines 36 (67, .invokevirtual 93, 3) rfl) g3 (by decide) P (fun h3 P => ?_)
    exact mx_return (pc := 70) (mx_dd dd_X10_markLines 37 (70, .return_, 1) rfl) rfl P
  · have P := P.2 c7
    refine mx_aload_n (pc := 10) 1 (mx_dd dd_X10_markLines 6 (10, .aload_n 1, 1) rfl) rfl rfl ?_
    refine mx_aload_n (pc := 11) 0 (mx_dd dd_X10_markLines 7 (11, .aload_n 0, 1) rfl) rfl rfl ?_
    obtain ⟨b5, g13, P⟩ := P
    refine mx_getR (pc := 12) mx_fl_X10_19 g1 rfl g13 (mx_dd dd_X10_markLines 8 (12, .getfield 19, 3) rfl) ?_
    refine mx_iload_n (pc := 15) 2 (mx_dd dd_X10_markLines 9 (15, .iload_n 2, 1) rfl) rfl rfl ?_
    refine mx_bipush (pc := 16) (v := (40 : Int32)) (mx_dd dd_X10_markLines 10 (16, .bipush 40, 2) rfl) (by decide) ?_
    refine mx_imul (pc := 18) (mx_dd dd_X10_markLines 11 (18, .imul, 1) rfl) ?_
    refine mx_aload_n (pc := 19) 0 (mx_dd dd_X10_markLines 12 (19, .aload_n 0, 1) rfl) rfl rfl ?_
    refine mx_iload_n (pc := 20) 2 (mx_dd dd_X10_markLines 13 (20, .iload_n 2, 1) rfl) rfl rfl ?_
    obtain ⟨g14, P⟩ := P
    refine mx_cVI (pc := 21) (Y := mY_X10_fileLength) (As := [.int x2]) mx_ml_X10_79 mx_y_X10_fileLength rfl g1 (by decide) rfl (by simp [Value.category]) rfl (mx_dd dd_X10_markLines 14 (21, .invokevirtual 79, 3) rfl) g14 (by decide) P (fun v1 h4 P => ?_)
    obtain ⟨g15, P⟩ := P
    refine mx_cVV (pc := 24) (Y := mY_X3_markAll) (As := [.ref b5, .int (x2 * (40 : Int32)), .int v1]) mx_ml_X10_83 mx_y_X3_markAll rfl g15 (by decide) rfl (by decide) rfl (mx_dd dd_X10_markLines 15 (24, .invokevirtual 83, 3) rfl) g14 (by decide) P (fun h5 P => ?_)
    refine mx_iinc (pc := 27) 2 (mx_dd dd_X10_markLines 16 (27, .iinc 2 1, 3) rfl) rfl (mx_kadd (by decide : Int32.ofInt 1 = (1 : Int32))) (by decide) (lv' := [(2, _), (0, _), (1, _)]) rfl ?_
    refine mx_goto (pc := 30) 2 (mx_dd dd_X10_markLines 17 (30, .goto (-28), 3) rfl) rfl ?_
    refine mx_sel [1, 2, 0] rfl ?_
    exact P
theorem b_X10_findFile {d : Nat} {h : mxH} {Q : mxRes → mxH → Prop} (x0 : Nat) (x1 : Int64)
    (P : mx_SX mY_X10_findFile d 2 [(0, .ref x0), (1, .long x1), (3, .int (0 : Int32))] [] h Q) : mx_SM mY_X10_findFile d [.ref x0, .long x1] h Q := by
  refine mx_SM_of (by decide) (Nat.le_of_ble_eq_true rfl) ?_
  show mx_SX mY_X10_findFile d 0 [(0, .ref x0), (1, .long x1)] [] h Q
  refine mx_iconst (pc := 0) (v := (0 : Int32)) (mx_dd dd_X10_findFile 0 (0, .iconst 0, 1) rfl) (by decide) ?_
  refine mx_istore_n (pc := 1) (mx_dd dd_X10_findFile 1 (1, .istore_n 3, 1) rfl) rfl (by decide) (lv' := [(3, _), (0, _), (1, _)]) rfl ?_
  refine mx_sel [1, 2, 0] rfl ?_
  exact P
theorem b_X10_findFile_2 {d : Nat} {h : mxH} {Q : mxRes → mxH → Prop} (x0 : Nat) (x1 : Int64) (x3 : Int32)
    (P : hpK h x0 = 10 ∧ (((hpI h x0 3) ≤ x3 → Q (.inl (some (.int (-1 : Int32)))) h) ∧ (¬ (hpI h x0 3) ≤ x3 → (((8 : Int32) ≤ x3 → Q (.inl (some (.int (-1 : Int32)))) h) ∧ (¬ (8 : Int32) ≤ x3 → ∃ b1 : Nat, hpR h x0 0 = some b1 ∧ hpK h b1 = 15 ∧ vp_in x3 (hpZ h b1) ∧ ((¬ (lg_cmp (hpL h b1 x3.toNatClampNeg) x1) = 0 → mx_SX mY_X10_findFile d 2 [(0, .ref x0), (1, .long x1), (3, .int (x3 + (1 : Int32)))] [] h Q) ∧ ((lg_cmp (hpL h b1 x3.toNatClampNeg) x1) = 0 → Q (.inl (some (.int x3))) h))))))) : mx_SX mY_X10_findFile d 2 [(0, .ref x0), (1, .long x1), (3, .int x3)] [] h Q := by
  refine mx_iload_n (pc := 2) 2 (mx_dd dd_X10_findFile 2 (2, .iload_n 3, 1) rfl) rfl rfl ?_
  refine mx_aload_n (pc := 3) 0 (mx_dd dd_X10_findFile 3 (3, .aload_n 0, 1) rfl) rfl rfl ?_
  obtain ⟨g1, P⟩ := P
  refine mx_getI (pc := 4) mx_fl_X10_60 g1 rfl (mx_dd dd_X10_findFile 4 (4, .getfield 60, 3) rfl) ?_
  refine mx_icmp_ge (pc := 7) 35 (mx_dd dd_X10_findFile 5 (7, .if_icmp .ge 28, 3) rfl) rfl (fun c7 => ?_) (fun c7 => ?_)
  · have P := P.1 c7
    refine mx_iconst (pc := 35) (v := (-1 : Int32)) (mx_dd dd_X10_findFile 20 (35, .iconst (-1), 1) rfl) (by decide) ?_
    exact mx_ireturn (pc := 36) (mx_dd dd_X10_findFile 21 (36, .ireturn, 1) rfl) rfl rfl P
  · have P := P.2 c7
    refine mx_iload_n (pc := 10) 2 (mx_dd dd_X10_findFile 6 (10, .iload_n 3, 1) rfl) rfl rfl ?_
    refine mx_bipush (pc := 11) (v := (8 : Int32)) (mx_dd dd_X10_findFile 7 (11, .bipush 8, 2) rfl) (by decide) ?_
    refine mx_icmp_ge (pc := 13) 35 (mx_dd dd_X10_findFile 8 (13, .if_icmp .ge 22, 3) rfl) rfl (fun c13 => ?_) (fun c13 => ?_)
    · have P := P.1 c13
      refine mx_iconst (pc := 35) (v := (-1 : Int32)) (mx_dd dd_X10_findFile 20 (35, .iconst (-1), 1) rfl) (by decide) ?_
      exact mx_ireturn (pc := 36) (mx_dd dd_X10_findFile 21 (36, .ireturn, 1) rfl) rfl rfl P
    · have P := P.2 c13
      refine mx_aload_n (pc := 16) 0 (mx_dd dd_X10_findFile 9 (16, .aload_n 0, 1) rfl) rfl rfl ?_
      obtain ⟨b1, g2, P⟩ := P
      refine mx_getR (pc := 17) mx_fl_X10_11 g1 rfl g2 (mx_dd dd_X10_findFile 10 (17, .getfield 11, 3) rfl) ?_
      refine mx_iload_n (pc := 20) 2 (mx_dd dd_X10_findFile 11 (20, .iload_n 3, 1) rfl) rfl rfl ?_
      obtain ⟨g3, P⟩ := P
      obtain ⟨g4, P⟩ := P
      refine mx_lald (pc := 21) g3 g4 (mx_dd dd_X10_findFile 12 (21, .laload, 1) rfl) ?_
      refine mx_lload_n (pc := 22) 1 (mx_dd dd_X10_findFile 13 (22, .lload_n 1, 1) rfl) rfl rfl ?_
      refine mx_lcmp (pc := 23) (mx_dd dd_X10_findFile 14 (23, .lcmp, 1) rfl) ?_
      refine mx_if_ne (pc := 24) 29 (mx_dd dd_X10_findFile 15 (24, .ifCond .ne 5, 3) rfl) rfl (fun c24 => ?_) (fun c24 => ?_)
      · have P := P.1 c24
        refine mx_iinc (pc := 29) 2 (mx_dd dd_X10_findFile 18 (29, .iinc 3 1, 3) rfl) rfl (mx_kadd (by decide : Int32.ofInt 1 = (1 : Int32))) (by decide) (lv' := [(3, _), (0, _), (1, _)]) rfl ?_
        refine mx_goto (pc := 32) 2 (mx_dd dd_X10_findFile 19 (32, .goto (-30), 3) rfl) rfl ?_
        refine mx_sel [1, 2, 0] rfl ?_
        exact P
      · have P := P.2 c24
        refine mx_iload_n (pc := 27) 2 (mx_dd dd_X10_findFile 16 (27, .iload_n 3, 1) rfl) rfl rfl ?_
        exact mx_ireturn (pc := 28) (mx_dd dd_X10_findFile 17 (28, .ireturn, 1) rfl) rfl rfl P
theorem b_X10_findOrMake {d : Nat} {h : mxH} {Q : mxRes → mxH → Prop} (x0 : Nat) (x1 : Int64)
    (P : 1 ≤ d ∧ hpK h x0 = 10 ∧ mx_SM mY_X10_findFile (d - 1) [.ref x0, .long x1] h (mx_KI (fun v1 h1 => ((0 ≤ v1 → Q (.inl (some (.int v1))) h1) ∧ (¬ 0 ≤ v1 → hpK h1 x0 = 10 ∧ (((hpI h1 x0 3) < 0 → Q (.inl (some (.int v1))) h1) ∧ (¬ (hpI h1 x0 3) < 0 → (((8 : Int32) ≤ (hpI h1 x0 3) → Q (.inl (some (.int v1))) h1) ∧ (¬ (8 : Int32) ≤ (hpI h1 x0 3) → ∃ b1 : Nat, hpR h1 x0 0 = some b1 ∧ hpK h1 b1 = 15 ∧ vp_in (hpI h1 x0 3) (hpZ h1 b1) ∧ ∀ h2 : mxH, h2 = hsL h1 b1 (hpI h1 x0 3).toNatClampNeg x1 → ∃ b2 : Nat, hpR h2 x0 1 = some b2 ∧ hpK h2 b2 = 14 ∧ vp_in (hpI h1 x0 3) (hpZ h2 b2) ∧ ∀ h3 : mxH, h3 = hsI h2 b2 (hpI h1 x0 3).toNatClampNeg (0 : Int32) → ∀ h4 : mxH, h4 = hsI h3 x0 3 ((hpI h3 x0 3) + (1 : Int32)) → Q (.inl (some (.int (hpI h1 x0 3)))) h4))))))) (mx_XX mY_X10_findOrMake Q))) : mx_SM mY_X10_findOrMake d [.ref x0, .long x1] h Q := by
  refine mx_SM_of (by decide) (Nat.le_of_ble_eq_true rfl) ?_
  show mx_SX mY_X10_findOrMake d 0 [(0, .ref x0), (1, .long x1)] [] h Q
  refine mx_aload_n (pc := 0) 0 (mx_dd dd_X10_findOrMake 0 (0, .aload_n 0, 1) rfl) rfl rfl ?_
  refine mx_lload_n (pc := 1) 1 (mx_dd dd_X10_findOrMake 1 (1, .lload_n 1, 1) rfl) rfl rfl ?_
  obtain ⟨g1, P⟩ := P
  obtain ⟨g2, P⟩ := P
  refine mx_cVI (pc := 2) (Y := mY_X10_findFile) (As := [.long x1]) mx_ml_X10_99 mx_y_X10_findFile rfl g2 (by decide) rfl (by decide) rfl (mx_dd dd_X10_findOrMake 2 (2, .invokevirtual 99, 3) rfl) g1 (by decide) P (fun v1 h1 P => ?_)
  refine mx_istore_n (pc := 5) (mx_dd dd_X10_findOrMake 3 (5, .istore_n 3, 1) rfl) rfl (by decide) (lv' := [(3, _), (0, _), (1, _)]) rfl ?_
  refine mx_iload_n (pc := 6) 0 (mx_dd dd_X10_findOrMake 4 (6, .iload_n 3, 1) rfl) rfl rfl ?_
  refine mx_if_ge (pc := 7) 55 (mx_dd dd_X10_findOrMake 5 (7, .ifCond .ge 48, 3) rfl) rfl (fun c7 => ?_) (fun c7 => ?_)
  · have P := P.1 c7
    refine mx_iload_n (pc := 55) 0 (mx_dd dd_X10_findOrMake 32 (55, .iload_n 3, 1) rfl) rfl rfl ?_
    exact mx_ireturn (pc := 56) (mx_dd dd_X10_findOrMake 33 (56, .ireturn, 1) rfl) rfl rfl P
  · have P := P.2 c7
    refine mx_aload_n (pc := 10) 1 (mx_dd dd_X10_findOrMake 6 (10, .aload_n 0, 1) rfl) rfl rfl ?_
    obtain ⟨g3, P⟩ := P
    refine mx_getI (pc := 11) mx_fl_X10_60 g3 rfl (mx_dd dd_X10_findOrMake 7 (11, .getfield 60, 3) rfl) ?_
    refine mx_if_lt (pc := 14) 55 (mx_dd dd_X10_findOrMake 8 (14, .ifCond .lt 41, 3) rfl) rfl (fun c14 => ?_) (fun c14 => ?_)
    · have P := P.1 c14
      refine mx_iload_n (pc := 55) 0 (mx_dd dd_X10_findOrMake 32 (55, .iload_n 3, 1) rfl) rfl rfl ?_
      exact mx_ireturn (pc := 56) (mx_dd dd_X10_findOrMake 33 (56, .ireturn, 1) rfl) rfl rfl P
    · have P := P.2 c14
      refine mx_aload_n (pc := 17) 1 (mx_dd dd_X10_findOrMake 9 (17, .aload_n 0, 1) rfl) rfl rfl ?_
      refine mx_getI (pc := 18) mx_fl_X10_60 g3 rfl (mx_dd dd_X10_findOrMake 10 (18, .getfield 60, 3) rfl) ?_
      refine mx_bipush (pc := 21) (v := (8 : Int32)) (mx_dd dd_X10_findOrMake 11 (21, .bipush 8, 2) rfl) (by decide) ?_
      refine mx_icmp_ge (pc := 23) 55 (mx_dd dd_X10_findOrMake 12 (23, .if_icmp .ge 32, 3) rfl) rfl (fun c23 => ?_) (fun c23 => ?_)
      · have P := P.1 c23
        refine mx_iload_n (pc := 55) 0 (mx_dd dd_X10_findOrMake 32 (55, .iload_n 3, 1) rfl) rfl rfl ?_
        exact mx_ireturn (pc := 56) (mx_dd dd_X10_findOrMake 33 (56, .ireturn, 1) rfl) rfl rfl P
      · have P := P.2 c23
        refine mx_aload_n (pc := 26) 1 (mx_dd dd_X10_findOrMake 13 (26, .aload_n 0, 1) rfl) rfl rfl ?_
        refine mx_getI (pc := 27) mx_fl_X10_60 g3 rfl (mx_dd dd_X10_findOrMake 14 (27, .getfield 60, 3) rfl) ?_
        refine mx_istore_n (pc := 30) (mx_dd dd_X10_findOrMake 15 (30, .istore_n 3, 1) rfl) rfl (by decide) (lv' := [(3, _), (0, _), (1, _)]) rfl ?_
        refine mx_aload_n (pc := 31) 1 (mx_dd dd_X10_findOrMake 16 (31, .aload_n 0, 1) rfl) rfl rfl ?_
        obtain ⟨b1, g4, P⟩ := P
        refine mx_getR (pc := 32) mx_fl_X10_11 g3 rfl g4 (mx_dd dd_X10_findOrMake 17 (32, .getfield 11, 3) rfl) ?_
        refine mx_iload_n (pc := 35) 0 (mx_dd dd_X10_findOrMake 18 (35, .iload_n 3, 1) rfl) rfl rfl ?_
        refine mx_lload_n (pc := 36) 2 (mx_dd dd_X10_findOrMake 19 (36, .lload_n 1, 1) rfl) rfl rfl ?_
        obtain ⟨g5, P⟩ := P
        obtain ⟨g6, P⟩ := P
        refine mx_last (pc := 37) g5 g6 (mx_dd dd_X10_findOrMake 20 (37, .lastore, 1) rfl) ?_
        have P := P _ rfl
        refine mx_aload_n (pc := 38) 1 (mx_dd dd_X10_findOrMake 21 (38, .aload_n 0, 1) rfl) rfl rfl ?_
        obtain ⟨b2, g7, P⟩ := P
        refine mx_getR (pc := 39) mx_fl_X10_15 g3 rfl g7 (mx_dd dd_X10_findOrMake 22 (39, .getfield 15, 3) rfl) ?_
        refine mx_iload_n (pc := 42) 0 (mx_dd dd_X10_findOrMake 23 (42, .iload_n 3, 1) rfl) rfl rfl ?_
        refine mx_iconst (pc := 43) (v := (0 : Int32)) (mx_dd dd_X10_findOrMake 24 (43, .iconst 0, 1) rfl) (by decide) ?_
        obtain ⟨g8, P⟩ := P
        obtain ⟨g9, P⟩ := P
        refine mx_iast (pc := 44) g8 g9 (mx_dd dd_X10_findOrMake 25 (44, .iastore, 1) rfl) ?_
        have P := P _ rfl
        refine mx_aload_n (pc := 45) 1 (mx_dd dd_X10_findOrMake 26 (45, .aload_n 0, 1) rfl) rfl rfl ?_
        refine mx_dup (pc := 46) (mx_dd dd_X10_findOrMake 27 (46, .dup, 1) rfl) rfl ?_
        refine mx_getI (pc := 47) mx_fl_X10_60 g3 rfl (mx_dd dd_X10_findOrMake 28 (47, .getfield 60, 3) rfl) ?_
        refine mx_iconst (pc := 50) (v := (1 : Int32)) (mx_dd dd_X10_findOrMake 29 (50, .iconst 1, 1) rfl) (by decide) ?_
        refine mx_iadd (pc := 51) (mx_dd dd_X10_findOrMake 30 (51, .iadd, 1) rfl) ?_
        refine mx_putI (pc := 52) mx_fl_X10_60 g3 rfl (.inl rfl) rfl rfl (mx_dd dd_X10_findOrMake 31 (52, .putfield 60, 3) rfl) ?_
        have P := P _ rfl
        refine mx_iload_n (pc := 55) 0 (mx_dd dd_X10_findOrMake 32 (55, .iload_n 3, 1) rfl) rfl rfl ?_
        exact mx_ireturn (pc := 56) (mx_dd dd_X10_findOrMake 33 (56, .ireturn, 1) rfl) rfl rfl P
theorem b_X10_loseLines {d : Nat} {h : mxH} {Q : mxRes → mxH → Prop} (x0 : Nat) (x1 : Int32)
    (P : ((x1 < 0 → Q (.inl none) h) ∧ (¬ x1 < 0 → (((8 : Int32) ≤ x1 → Q (.inl none) h) ∧ (¬ (8 : Int32) ≤ x1 → hpK h x0 = 10 ∧ ∃ b1 : Nat, hpR h x0 1 = some b1 ∧ hpK h b1 = 14 ∧ vp_in x1 (hpZ h b1) ∧ ∀ h1 : mxH, h1 = hsI h b1 x1.toNatClampNeg (0 : Int32) → Q (.inl none) h1))))) : mx_SM mY_X10_loseLines d [.ref x0, .int x1] h Q := by
  refine mx_SM_of (by decide) (Nat.le_of_ble_eq_true rfl) ?_
  show mx_SX mY_X10_loseLines d 0 [(0, .ref x0), (1, .int x1)] [] h Q
  refine mx_iload_n (pc := 0) 1 (mx_dd dd_X10_loseLines 0 (0, .iload_n 1, 1) rfl) rfl rfl ?_
  refine mx_if_lt (pc := 1) 17 (mx_dd dd_X10_loseLines 1 (1, .ifCond .lt 16, 3) rfl) rfl (fun c1 => ?_) (fun c1 => ?_)
  · have P := P.1 c1
    exact mx_return (pc := 17) (mx_dd dd_X10_loseLines 10 (17, .return_, 1) rfl) rfl P
  · have P := P.2 c1
    refine mx_iload_n (pc := 4) 1 (mx_dd dd_X10_loseLines 2 (4, .iload_n 1, 1) rfl) rfl rfl ?_
    refine mx_bipush (pc := 5) (v := (8 : Int32)) (mx_dd dd_X10_loseLines 3 (5, .bipush 8, 2) rfl) (by decide) ?_
    refine mx_icmp_ge (pc := 7) 17 (mx_dd dd_X10_loseLines 4 (7, .if_icmp .ge 10, 3) rfl) rfl (fun c7 => ?_) (fun c7 => ?_)
    · have P := P.1 c7
      exact mx_return (pc := 17) (mx_dd dd_X10_loseLines 10 (17, .return_, 1) rfl) rfl P
    · have P := P.2 c7
      refine mx_aload_n (pc := 10) 0 (mx_dd dd_X10_loseLines 5 (10, .aload_n 0, 1) rfl) rfl rfl ?_
      obtain ⟨g1, P⟩ := P
      obtain ⟨b1, g2, P⟩ := P
      refine mx_getR (pc := 11) mx_fl_X10_15 g1 rfl g2 (mx_dd dd_X10_loseLines 6 (11, .getfield 15, 3) rfl) ?_
      refine mx_iload_n (pc := 14) 1 (mx_dd dd_X10_loseLines 7 (14, .iload_n 1, 1) rfl) rfl rfl ?_
      refine mx_iconst (pc := 15) (v := (0 : Int32)) (mx_dd dd_X10_loseLines 8 (15, .iconst 0, 1) rfl) (by decide) ?_
      obtain ⟨g3, P⟩ := P
      obtain ⟨g4, P⟩ := P
      refine mx_iast (pc := 16) g3 g4 (mx_dd dd_X10_loseLines 9 (16, .iastore, 1) rfl) ?_
      have P := P _ rfl
      exact mx_return (pc := 17) (mx_dd dd_X10_loseLines 10 (17, .return_, 1) rfl) rfl P
theorem b_X10_fileName {d : Nat} {h : mxH} {Q : mxRes → mxH → Prop} (x0 : Nat) (x1 : Int32)
    (P : ((x1 < 0 → Q (.inl (some (.long (0 : Int64)))) h) ∧ (¬ x1 < 0 → (((8 : Int32) ≤ x1 → Q (.inl (some (.long (0 : Int64)))) h) ∧ (¬ (8 : Int32) ≤ x1 → hpK h x0 = 10 ∧ ∃ b1 : Nat, hpR h x0 0 = some b1 ∧ hpK h b1 = 15 ∧ vp_in x1 (hpZ h b1) ∧ Q (.inl (some (.long (hpL h b1 x1.toNatClampNeg)))) h))))) : mx_SM mY_X10_fileName d [.ref x0, .int x1] h Q := by
  refine mx_SM_of (by decide) (Nat.le_of_ble_eq_true rfl) ?_
  show mx_SX mY_X10_fileName d 0 [(0, .ref x0), (1, .int x1)] [] h Q
  refine mx_iload_n (pc := 0) 1 (mx_dd dd_X10_fileName 0 (0, .iload_n 1, 1) rfl) rfl rfl ?_
  refine mx_if_lt (pc := 1) 19 (mx_dd dd_X10_fileName 1 (1, .ifCond .lt 18, 3) rfl) rfl (fun c1 => ?_) (fun c1 => ?_)
  · have P := P.1 c1
    refine mx_lconst (pc := 19) (v := (0 : Int64)) (mx_dd dd_X10_fileName 10 (19, .lconst 0, 1) rfl) (by decide) ?_
    exact mx_lreturn (pc := 20) (mx_dd dd_X10_fileName 11 (20, .lreturn, 1) rfl) rfl P
  · have P := P.2 c1
    refine mx_iload_n (pc := 4) 1 (mx_dd dd_X10_fileName 2 (4, .iload_n 1, 1) rfl) rfl rfl ?_
    refine mx_bipush (pc := 5) (v := (8 : Int32)) (mx_dd dd_X10_fileName 3 (5, .bipush 8, 2) rfl) (by decide) ?_
    refine mx_icmp_ge (pc := 7) 19 (mx_dd dd_X10_fileName 4 (7, .if_icmp .ge 12, 3) rfl) rfl (fun c7 => ?_) (fun c7 => ?_)
    · have P := P.1 c7
      refine mx_lconst (pc := 19) (v := (0 : Int64)) (mx_dd dd_X10_fileName 10 (19, .lconst 0, 1) rfl) (by decide) ?_
      exact mx_lreturn (pc := 20) (mx_dd dd_X10_fileName 11 (20, .lreturn, 1) rfl) rfl P
    · have P := P.2 c7
      refine mx_aload_n (pc := 10) 0 (mx_dd dd_X10_fileName 5 (10, .aload_n 0, 1) rfl) rfl rfl ?_
      obtain ⟨g1, P⟩ := P
      obtain ⟨b1, g2, P⟩ := P
      refine mx_getR (pc := 11) mx_fl_X10_11 g1 rfl g2 (mx_dd dd_X10_fileName 6 (11, .getfield 11, 3) rfl) ?_
      refine mx_iload_n (pc := 14) 1 (mx_dd dd_X10_fileName 7 (14, .iload_n 1, 1) rfl) rfl rfl ?_
      obtain ⟨g3, P⟩ := P
      obtain ⟨g4, P⟩ := P
      refine mx_lald (pc := 15) g3 g4 (mx_dd dd_X10_fileName 8 (15, .laload, 1) rfl) ?_
      refine mx_goto (pc := 16) 20 (mx_dd dd_X10_fileName 9 (16, .goto 4, 3) rfl) rfl ?_
      exact mx_lreturn (pc := 20) (mx_dd dd_X10_fileName 11 (20, .lreturn, 1) rfl) rfl P
theorem b_X10_fileLength {d : Nat} {h : mxH} {Q : mxRes → mxH → Prop} (x0 : Nat) (x1 : Int32)
    (P : ((x1 < 0 → Q (.inl (some (.int (0 : Int32)))) h) ∧ (¬ x1 < 0 → (((8 : Int32) ≤ x1 → Q (.inl (some (.int (0 : Int32)))) h) ∧ (¬ (8 : Int32) ≤ x1 → hpK h x0 = 10 ∧ ∃ b1 : Nat, hpR h x0 1 = some b1 ∧ hpK h b1 = 14 ∧ vp_in x1 (hpZ h b1) ∧ Q (.inl (some (.int (hpI h b1 x1.toNatClampNeg)))) h))))) : mx_SM mY_X10_fileLength d [.ref x0, .int x1] h Q := by
  refine mx_SM_of (by decide) (Nat.le_of_ble_eq_true rfl) ?_
  show mx_SX mY_X10_fileLength d 0 [(0, .ref x0), (1, .int x1)] [] h Q
  refine mx_iload_n (pc := 0) 1 (mx_dd dd_X10_fileLength 0 (0, .iload_n 1, 1) rfl) rfl rfl ?_
  refine mx_if_lt (pc := 1) 19 (mx_dd dd_X10_fileLength 1 (1, .ifCond .lt 18, 3) rfl) rfl (fun c1 => ?_) (fun c1 => ?_)
  · have P := P.1 c1
    refine mx_iconst (pc := 19) (v := (0 : Int32)) (mx_dd dd_X10_fileLength 10 (19, .iconst 0, 1) rfl) (by decide) ?_
    exact mx_ireturn (pc := 20) (mx_dd dd_X10_fileLength 11 (20, .ireturn, 1) rfl) rfl rfl P
  · have P := P.2 c1
    refine mx_iload_n (pc := 4) 1 (mx_dd dd_X10_fileLength 2 (4, .iload_n 1, 1) rfl) rfl rfl ?_
    refine mx_bipush (pc := 5) (v := (8 : Int32)) (mx_dd dd_X10_fileLength 3 (5, .bipush 8, 2) rfl) (by decide) ?_
    refine mx_icmp_ge (pc := 7) 19 (mx_dd dd_X10_fileLength 4 (7, .if_icmp .ge 12, 3) rfl) rfl (fun c7 => ?_) (fun c7 => ?_)
    · have P := P.1 c7
      refine mx_iconst (pc := 19) (v := (0 : Int32)) (mx_dd dd_X10_fileLength 10 (19, .iconst 0, 1) rfl) (by decide) ?_
      exact mx_ireturn (pc := 20) (mx_dd dd_X10_fileLength 11 (20, .ireturn, 1) rfl) rfl rfl P
    · have P := P.2 c7
      refine mx_aload_n (pc := 10) 0 (mx_dd dd_X10_fileLength 5 (10, .aload_n 0, 1) rfl) rfl rfl ?_
      obtain ⟨g1, P⟩ := P
      obtain ⟨b1, g2, P⟩ := P
      refine mx_getR (pc := 11) mx_fl_X10_15 g1 rfl g2 (mx_dd dd_X10_fileLength 6 (11, .getfield 15, 3) rfl) ?_
      refine mx_iload_n (pc := 14) 1 (mx_dd dd_X10_fileLength 7 (14, .iload_n 1, 1) rfl) rfl rfl ?_
      obtain ⟨g3, P⟩ := P
      obtain ⟨g4, P⟩ := P
      refine mx_iald (pc := 15) g3 g4 (mx_dd dd_X10_fileLength 8 (15, .iaload, 1) rfl) ?_
      refine mx_goto (pc := 16) 20 (mx_dd dd_X10_fileLength 9 (16, .goto 4, 3) rfl) rfl ?_
      exact mx_ireturn (pc := 20) (mx_dd dd_X10_fileLength 11 (20, .ireturn, 1) rfl) rfl rfl P
theorem b_X10_lineAt {d : Nat} {h : mxH} {Q : mxRes → mxH → Prop} (x0 : Nat) (x1 : Int32) (x2 : Int32)
    (P : ((x1 < 0 → Q (.inl (some (.int (-1 : Int32)))) h) ∧ (¬ x1 < 0 → (((8 : Int32) ≤ x1 → Q (.inl (some (.int (-1 : Int32)))) h) ∧ (¬ (8 : Int32) ≤ x1 → ((x2 < 0 → Q (.inl (some (.int (-1 : Int32)))) h) ∧ (¬ x2 < 0 → hpK h x0 = 10 ∧ ∃ b1 : Nat, hpR h x0 1 = some b1 ∧ hpK h b1 = 14 ∧ vp_in x1 (hpZ h b1) ∧ (((hpI h b1 x1.toNatClampNeg) ≤ x2 → Q (.inl (some (.int (-1 : Int32)))) h) ∧ (¬ (hpI h b1 x1.toNatClampNeg) ≤ x2 → ((x2 < (40 : Int32) → ∃ b2 : Nat, hpR h x0 2 = some b2 ∧ hpK h b2 = 14 ∧ vp_in ((x1 * (40 : Int32)) + x2) (hpZ h b2) ∧ Q (.inl (some (.int (hpI h b2 ((x1 * (40 : Int32)) + x2).toNatClampNeg)))) h) ∧ (¬ x2 < (40 : Int32) → Q (.inl (some (.int (-1 : Int32)))) h))))))))))) : mx_SM mY_X10_lineAt d [.ref x0, .int x1, .int x2] h Q := by
  refine mx_SM_of (by decide) (Nat.le_of_ble_eq_true rfl) ?_
  show mx_SX mY_X10_lineAt d 0 [(0, .ref x0), (1, .int x1), (2, .int x2)] [] h Q
  refine mx_iload_n (pc := 0) 1 (mx_dd dd_X10_lineAt 0 (0, .iload_n 1, 1) rfl) rfl rfl ?_
  refine mx_if_lt (pc := 1) 30 (mx_dd dd_X10_lineAt 1 (1, .ifCond .lt 29, 3) rfl) rfl (fun c1 => ?_) (fun c1 => ?_)
  · have P := P.1 c1
    refine mx_iconst (pc := 30) (v := (-1 : Int32)) (mx_dd dd_X10_lineAt 16 (30, .iconst (-1), 1) rfl) (by decide) ?_
    exact mx_ireturn (pc := 31) (mx_dd dd_X10_lineAt 17 (31, .ireturn, 1) rfl) rfl rfl P
  · have P := P.2 c1
    refine mx_iload_n (pc := 4) 1 (mx_dd dd_X10_lineAt 2 (4, .iload_n 1, 1) rfl) rfl rfl ?_
    refine mx_bipush (pc := 5) (v := (8 : Int32)) (mx_dd dd_X10_lineAt 3 (5, .bipush 8, 2) rfl) (by decide) ?_
    refine mx_icmp_ge (pc := 7) 30 (mx_dd dd_X10_lineAt 4 (7, .if_icmp .ge 23, 3) rfl) rfl (fun c7 => ?_) (fun c7 => ?_)
    · have P := P.1 c7
      refine mx_iconst (pc := 30) (v := (-1 : Int32)) (mx_dd dd_X10_lineAt 16 (30, .iconst (-1), 1) rfl) (by decide) ?_
      exact mx_ireturn (pc := 31) (mx_dd dd_X10_lineAt 17 (31, .ireturn, 1) rfl) rfl rfl P
    · have P := P.2 c7
      refine mx_iload_n (pc := 10) 2 (mx_dd dd_X10_lineAt 5 (10, .iload_n 2, 1) rfl) rfl rfl ?_
      refine mx_if_lt (pc := 11) 30 (mx_dd dd_X10_lineAt 6 (11, .ifCond .lt 19, 3) rfl) rfl (fun c11 => ?_) (fun c11 => ?_)
      · have P := P.1 c11
        refine mx_iconst (pc := 30) (v := (-1 : Int32)) (mx_dd dd_X10_lineAt 16 (30, .iconst (-1), 1) rfl) (by decide) ?_
        exact mx_ireturn (pc := 31) (mx_dd dd_X10_lineAt 17 (31, .ireturn, 1) rfl) rfl rfl P
      · have P := P.2 c11
        refine mx_iload_n (pc := 14) 2 (mx_dd dd_X10_lineAt 7 (14, .iload_n 2, 1) rfl) rfl rfl ?_
        refine mx_aload_n (pc := 15) 0 (mx_dd dd_X10_lineAt 8 (15, .aload_n 0, 1) rfl) rfl rfl ?_
        obtain ⟨g1, P⟩ := P
        obtain ⟨b1, g2, P⟩ := P
        refine mx_getR (pc := 16) mx_fl_X10_15 g1 rfl g2 (mx_dd dd_X10_lineAt 9 (16, .getfield 15, 3) rfl) ?_
        refine mx_iload_n (pc := 19) 1 (mx_dd dd_X10_lineAt 10 (19, .iload_n 1, 1) rfl) rfl rfl ?_
        obtain ⟨g3, P⟩ := P
        obtain ⟨g4, P⟩ := P
        refine mx_iald (pc := 20) g3 g4 (mx_dd dd_X10_lineAt 11 (20, .iaload, 1) rfl) ?_
        refine mx_icmp_ge (pc := 21) 30 (mx_dd dd_X10_lineAt 12 (21, .if_icmp .ge 9, 3) rfl) rfl (fun c21 => ?_) (fun c21 => ?_)
        · have P := P.1 c21
          refine mx_iconst (pc := 30) (v := (-1 : Int32)) (mx_dd dd_X10_lineAt 16 (30, .iconst (-1), 1) rfl) (by decide) ?_
          exact mx_ireturn (pc := 31) (mx_dd dd_X10_lineAt 17 (31, .ireturn, 1) rfl) rfl rfl P
        · have P := P.2 c21
          refine mx_iload_n (pc := 24) 2 (mx_dd dd_X10_lineAt 13 (24, .iload_n 2, 1) rfl) rfl rfl ?_
          refine mx_bipush (pc := 25) (v := (40 : Int32)) (mx_dd dd_X10_lineAt 14 (25, .bipush 40, 2) rfl) (by decide) ?_
          refine mx_icmp_lt (pc := 27) 32 (mx_dd dd_X10_lineAt 15 (27, .if_icmp .lt 5, 3) rfl) rfl (fun c27 => ?_) (fun c27 => ?_)
          · have P := P.1 c27
            refine mx_aload_n (pc := 32) 0 (mx_dd dd_X10_lineAt 18 (32, .aload_n 0, 1) rfl) rfl rfl ?_
            obtain ⟨b2, g5, P⟩ := P
            refine mx_getR (pc := 33) mx_fl_X10_19 g1 rfl g5 (mx_dd dd_X10_lineAt 19 (33, .getfield 19, 3) rfl) ?_
            refine mx_iload_n (pc := 36) 1 (mx_dd dd_X10_lineAt 20 (36, .iload_n 1, 1) rfl) rfl rfl ?_
            refine mx_bipush (pc := 37) (v := (40 : Int32)) (mx_dd dd_X10_lineAt 21 (37, .bipush 40, 2) rfl) (by decide) ?_
            refine mx_imul (pc := 39) (mx_dd dd_X10_lineAt 22 (39, .imul, 1) rfl) ?_
            refine mx_iload_n (pc := 40) 2 (mx_dd dd_X10_lineAt 23 (40, .iload_n 2, 1) rfl) rfl rfl ?_
            refine mx_iadd (pc := 41) (mx_dd dd_X10_lineAt 24 (41, .iadd, 1) rfl) ?_
            obtain ⟨g6, P⟩ := P
            obtain ⟨g7, P⟩ := P
            refine mx_iald (pc := 42) g6 g7 (mx_dd dd_X10_lineAt 25 (42, .iaload, 1) rfl) ?_
            exact mx_ireturn (pc := 43) (mx_dd dd_X10_lineAt 26 (43, .ireturn, 1) rfl) rfl rfl P
          · have P := P.2 c27
            refine mx_iconst (pc := 30) (v := (-1 : Int32)) (mx_dd dd_X10_lineAt 16 (30, .iconst (-1), 1) rfl) (by decide) ?_
            exact mx_ireturn (pc := 31) (mx_dd dd_X10_lineAt 17 (31, .ireturn, 1) rfl) rfl rfl P
theorem b_X10_putLine {d : Nat} {h : mxH} {Q : mxRes → mxH → Prop} (x0 : Nat) (x1 : Int32) (x2 : Int32) (x3 : Int32)
    (P : ((x1 < 0 → Q (.inl (some (.int (0 : Int32)))) h) ∧ (¬ x1 < 0 → (((8 : Int32) ≤ x1 → Q (.inl (some (.int (0 : Int32)))) h) ∧ (¬ (8 : Int32) ≤ x1 → ((x2 < 0 → Q (.inl (some (.int (0 : Int32)))) h) ∧ (¬ x2 < 0 → ((x2 < (40 : Int32) → hpK h x0 = 10 ∧ ∃ b1 : Nat, hpR h x0 1 = some b1 ∧ hpK h b1 = 14 ∧ vp_in x1 (hpZ h b1) ∧ mx_SX mY_X10_putLine d 30 [(0, .ref x0), (1, .int x1), (2, .int x2), (3, .int x3), (4, .int (hpI h b1 x1.toNatClampNeg))] [] h Q) ∧ (¬ x2 < (40 : Int32) → Q (.inl (some (.int (0 : Int32)))) h))))))))) : mx_SM mY_X10_putLine d [.ref x0, .int x1, .int x2, .int x3] h Q := by
  refine mx_SM_of (by decide) (Nat.le_of_ble_eq_true rfl) ?_
  show mx_SX mY_X10_putLine d 0 [(0, .ref x0), (1, .int x1), (2, .int x2), (3, .int x3)] [] h Q
  refine mx_iload_n (pc := 0) 1 (mx_dd dd_X10_putLine 0 (0, .iload_n 1, 1) rfl) rfl rfl ?_
  refine mx_if_lt (pc := 1) 20 (mx_dd dd_X10_putLine 1 (1, .ifCond .lt 19, 3) rfl) rfl (fun c1 => ?_) (fun c1 => ?_)
  · have P := P.1 c1
    refine mx_iconst (pc := 20) (v := (0 : Int32)) (mx_dd dd_X10_putLine 10 (20, .iconst 0, 1) rfl) (by decide) ?_
    exact mx_ireturn (pc := 21) (mx_dd dd_X10_putLine 11 (21, .ireturn, 1) rfl) rfl rfl P
  · have P := P.2 c1
    refine mx_iload_n (pc := 4) 1 (mx_dd dd_X10_putLine 2 (4, .iload_n 1, 1) rfl) rfl rfl ?_
    refine mx_bipush (pc := 5) (v := (8 : Int32)) (mx_dd dd_X10_putLine 3 (5, .bipush 8, 2) rfl) (by decide) ?_
    refine mx_icmp_ge (pc := 7) 20 (mx_dd dd_X10_putLine 4 (7, .if_icmp .ge 13, 3) rfl) rfl (fun c7 => ?_) (fun c7 => ?_)
    · have P := P.1 c7
      refine mx_iconst (pc := 20) (v := (0 : Int32)) (mx_dd dd_X10_putLine 10 (20, .iconst 0, 1) rfl) (by decide) ?_
      exact mx_ireturn (pc := 21) (mx_dd dd_X10_putLine 11 (21, .ireturn, 1) rfl) rfl rfl P
    · have P := P.2 c7
      refine mx_iload_n (pc := 10) 2 (mx_dd dd_X10_putLine 5 (10, .iload_n 2, 1) rfl) rfl rfl ?_
      refine mx_if_lt (pc := 11) 20 (mx_dd dd_X10_putLine 6 (11, .ifCond .lt 9, 3) rfl) rfl (fun c11 => ?_) (fun c11 => ?_)
      · have P := P.1 c11
        refine mx_iconst (pc := 20) (v := (0 : Int32)) (mx_dd dd_X10_putLine 10 (20, .iconst 0, 1) rfl) (by decide) ?_
        exact mx_ireturn (pc := 21) (mx_dd dd_X10_putLine 11 (21, .ireturn, 1) rfl) rfl rfl P
      · have P := P.2 c11
        refine mx_iload_n (pc := 14) 2 (mx_dd dd_X10_putLine 7 (14, .iload_n 2, 1) rfl) rfl rfl ?_
        refine mx_bipush (pc := 15) (v := (40 : Int32)) (mx_dd dd_X10_putLine 8 (15, .bipush 40, 2) rfl) (by decide) ?_
        refine mx_icmp_lt (pc := 17) 22 (mx_dd dd_X10_putLine 9 (17, .if_icmp .lt 5, 3) rfl) rfl (fun c17 => ?_) (fun c17 => ?_)
        · have P := P.1 c17
          refine mx_aload_n (pc := 22) 0 (mx_dd dd_X10_putLine 12 (22, .aload_n 0, 1) rfl) rfl rfl ?_
          obtain ⟨g1, P⟩ := P
          obtain ⟨b1, g2, P⟩ := P
          refine mx_getR (pc := 23) mx_fl_X10_15 g1 rfl g2 (mx_dd dd_X10_putLine 13 (23, .getfield 15, 3) rfl) ?_
          refine mx_iload_n (pc := 26) 1 (mx_dd dd_X10_putLine 14 (26, .iload_n 1, 1) rfl) rfl rfl ?_
          obtain ⟨g3, P⟩ := P
          obtain ⟨g4, P⟩ := P
          refine mx_iald (pc := 27) g3 g4 (mx_dd dd_X10_putLine 15 (27, .iaload, 1) rfl) ?_
          refine mx_istore (pc := 28) (mx_dd dd_X10_putLine 16 (28, .istore 4, 2) rfl) (by decide) (lv' := [(4, _), (0, _), (1, _), (2, _), (3, _)]) rfl ?_
          refine mx_sel [1, 2, 3, 4, 0] rfl ?_
          exact P
        · have P := P.2 c17
          refine mx_iconst (pc := 20) (v := (0 : Int32)) (mx_dd dd_X10_putLine 10 (20, .iconst 0, 1) rfl) (by decide) ?_
          exact mx_ireturn (pc := 21) (mx_dd dd_X10_putLine 11 (21, .ireturn, 1) rfl) rfl rfl P
theorem b_X10_putLine_30 {d : Nat} {h : mxH} {Q : mxRes → mxH → Prop} (x0 : Nat) (x1 : Int32) (x2 : Int32) (x3 : Int32) (x4 : Int32)
    (P : ((x4 < 0 → mx_SX mY_X10_putLine d 60 [(0, .ref x0), (1, .int x1), (2, .int x2), (3, .int x3)] [] h Q) ∧ (¬ x4 < 0 → ((x2 ≤ x4 → mx_SX mY_X10_putLine d 60 [(0, .ref x0), (1, .int x1), (2, .int x2), (3, .int x3)] [] h Q) ∧ (¬ x2 ≤ x4 → hpK h x0 = 10 ∧ ∃ b1 : Nat, hpR h x0 2 = some b1 ∧ hpK h b1 = 14 ∧ vp_in ((x1 * (40 : Int32)) + x4) (hpZ h b1) ∧ ∀ h1 : mxH, h1 = hsI h b1 ((x1 * (40 : Int32)) + x4).toNatClampNeg (0 : Int32) → mx_SX mY_X10_putLine d 30 [(0, .ref x0), (1, .int x1), (2, .int x2), (3, .int x3), (4, .int (x4 + (1 : Int32)))] [] h1 Q))))) : mx_SX mY_X10_putLine d 30 [(0, .ref x0), (1, .int x1), (2, .int x2), (3, .int x3), (4, .int x4)] [] h Q := by
  refine mx_iload (pc := 30) 4 (mx_dd dd_X10_putLine 17 (30, .iload 4, 2) rfl) rfl ?_
  refine mx_if_lt (pc := 32) 60 (mx_dd dd_X10_putLine 18 (32, .ifCond .lt 28, 3) rfl) rfl (fun c32 => ?_) (fun c32 => ?_)
  · have P := P.1 c32
    refine mx_sel [0, 1, 2, 3] rfl ?_
    exact P
  · have P := P.2 c32
    refine mx_iload (pc := 35) 4 (mx_dd dd_X10_putLine 19 (35, .iload 4, 2) rfl) rfl ?_
    refine mx_iload_n (pc := 37) 2 (mx_dd dd_X10_putLine 20 (37, .iload_n 2, 1) rfl) rfl rfl ?_
    refine mx_icmp_ge (pc := 38) 60 (mx_dd dd_X10_putLine 21 (38, .if_icmp .ge 22, 3) rfl) rfl (fun c38 => ?_) (fun c38 => ?_)
    · have P := P.1 c38
      refine mx_sel [0, 1, 2, 3] rfl ?_
      exact P
    · have P := P.2 c38
      refine mx_aload_n (pc := 41) 0 (mx_dd dd_X10_putLine 22 (41, .aload_n 0, 1) rfl) rfl rfl ?_
      obtain ⟨g1, P⟩ := P
      obtain ⟨b1, g2, P⟩ := P
      refine mx_getR (pc := 42) mx_fl_X10_19 g1 rfl g2 (mx_dd dd_X10_putLine 23 (42, .getfield 19, 3) rfl) ?_
      refine mx_iload_n (pc := 45) 1 (mx_dd dd_X10_putLine 24 (45, .iload_n 1, 1) rfl) rfl rfl ?_
      refine mx_bipush (pc := 46) (v := (40 : Int32)) (mx_dd dd_X10_putLine 25 (46, .bipush 40, 2) rfl) (by decide) ?_
      refine mx_imul (pc := 48) (mx_dd dd_X10_putLine 26 (48, .imul, 1) rfl) ?_
      refine mx_iload (pc := 49) 4 (mx_dd dd_X10_putLine 27 (49, .iload 4, 2) rfl) rfl ?_
      refine mx_iadd (pc := 51) (mx_dd dd_X10_putLine 28 (51, .iadd, 1) rfl) ?_
      refine mx_iconst (pc := 52) (v := (0 : Int32)) (mx_dd dd_X10_putLine 29 (52, .iconst 0, 1) rfl) (by decide) ?_
      obtain ⟨g3, P⟩ := P
      obtain ⟨g4, P⟩ := P
      refine mx_iast (pc := 53) g3 g4 (mx_dd dd_X10_putLine 30 (53, .iastore, 1) rfl) ?_
      have P := P _ rfl
      refine mx_iinc (pc := 54) 4 (mx_dd dd_X10_putLine 31 (54, .iinc 4 1, 3) rfl) rfl (mx_kadd (by decide : Int32.ofInt 1 = (1 : Int32))) (by decide) (lv' := [(4, _), (0, _), (1, _), (2, _), (3, _)]) rfl ?_
      refine mx_goto (pc := 57) 30 (mx_dd dd_X10_putLine 32 (57, .goto (-27), 3) rfl) rfl ?_
      refine mx_sel [1, 2, 3, 4, 0] rfl ?_
      exact P
theorem b_X10_putLine_60 {d : Nat} {h : mxH} {Q : mxRes → mxH → Prop} (x0 : Nat) (x1 : Int32) (x2 : Int32) (x3 : Int32)
    (P : hpK h x0 = 10 ∧ ∃ b1 : Nat, hpR h x0 2 = some b1 ∧ hpK h b1 = 14 ∧ vp_in ((x1 * (40 : Int32)) + x2) (hpZ h b1) ∧ ∀ h1 : mxH, h1 = hsI h b1 ((x1 * (40 : Int32)) + x2).toNatClampNeg x3 → ∃ b2 : Nat, hpR h1 x0 1 = some b2 ∧ hpK h1 b2 = 14 ∧ vp_in x1 (hpZ h1 b2) ∧ ((x2 < (hpI h1 b2 x1.toNatClampNeg) → Q (.inl (some (.int (1 : Int32)))) h1) ∧ (¬ x2 < (hpI h1 b2 x1.toNatClampNeg) → ∀ h2 : mxH, h2 = hsI h1 b2 x1.toNatClampNeg (x2 + (1 : Int32)) → Q (.inl (some (.int (1 : Int32)))) h2))) : mx_SX mY_X10_putLine d 60 [(0, .ref x0), (1, .int x1), (2, .int x2), (3, .int x3)] [] h Q := by
  refine mx_aload_n (pc := 60) 0 (mx_dd dd_X10_putLine 33 (60, .aload_n 0, 1) rfl) rfl rfl ?_
  obtain ⟨g1, P⟩ := P
  obtain ⟨b1, g2, P⟩ := P
  refine mx_getR (pc := 61) mx_fl_X10_19 g1 rfl g2 (mx_dd dd_X10_putLine 34 (61, .getfield 19, 3) rfl) ?_
  refine mx_iload_n (pc := 64) 1 (mx_dd dd_X10_putLine 35 (64, .iload_n 1, 1) rfl) rfl rfl ?_
  refine mx_bipush (pc := 65) (v := (40 : Int32)) (mx_dd dd_X10_putLine 36 (65, .bipush 40, 2) rfl) (by decide) ?_
  refine mx_imul (pc := 67) (mx_dd dd_X10_putLine 37 (67, .imul, 1) rfl) ?_
  refine mx_iload_n (pc := 68) 2 (mx_dd dd_X10_putLine 38 (68, .iload_n 2, 1) rfl) rfl rfl ?_
  refine mx_iadd (pc := 69) (mx_dd dd_X10_putLine 39 (69, .iadd, 1) rfl) ?_
  refine mx_iload_n (pc := 70) 3 (mx_dd dd_X10_putLine 40 (70, .iload_n 3, 1) rfl) rfl rfl ?_
  obtain ⟨g3, P⟩ := P
  obtain ⟨g4, P⟩ := P
  refine mx_iast (pc := 71) g3 g4 (mx_dd dd_X10_putLine 41 (71, .iastore, 1) rfl) ?_
  have P := P _ rfl
  refine mx_aload_n (pc := 72) 0 (mx_dd dd_X10_putLine 42 (72, .aload_n 0, 1) rfl) rfl rfl ?_
  obtain ⟨b2, g5, P⟩ := P
  refine mx_getR (pc := 73) mx_fl_X10_15 g1 rfl g5 (mx_dd dd_X10_putLine 43 (73, .getfield 15, 3) rfl) ?_
  refine mx_iload_n (pc := 76) 1 (mx_dd dd_X10_putLine 44 (76, .iload_n 1, 1) rfl) rfl rfl ?_
  obtain ⟨g6, P⟩ := P
  obtain ⟨g7, P⟩ := P
  refine mx_iald (pc := 77) g6 g7 (mx_dd dd_X10_putLine 45 (77, .iaload, 1) rfl) ?_
  refine mx_iload_n (pc := 78) 2 (mx_dd dd_X10_putLine 46 (78, .iload_n 2, 1) rfl) rfl rfl ?_
  refine mx_icmp_gt (pc := 79) 91 (mx_dd dd_X10_putLine 47 (79, .if_icmp .gt 12, 3) rfl) rfl (fun c79 => ?_) (fun c79 => ?_)
  · have P := P.1 c79
    refine mx_iconst (pc := 91) (v := (1 : Int32)) (mx_dd dd_X10_putLine 55 (91, .iconst 1, 1) rfl) (by decide) ?_
    exact mx_ireturn (pc := 92) (mx_dd dd_X10_putLine 56 (92, .ireturn, 1) rfl) rfl rfl P
  · have P := P.2 c79
    refine mx_aload_n (pc := 82) 0 (mx_dd dd_X10_putLine 48 (82, .aload_n 0, 1) rfl) rfl rfl ?_
    refine mx_getR (pc := 83) mx_fl_X10_15 g1 rfl g5 (mx_dd dd_X10_putLine 49 (83, .getfield 15, 3) rfl) ?_
    refine mx_iload_n (pc := 86) 1 (mx_dd dd_X10_putLine 50 (86, .iload_n 1, 1) rfl) rfl rfl ?_
    refine mx_iload_n (pc := 87) 2 (mx_dd dd_X10_putLine 51 (87, .iload_n 2, 1) rfl) rfl rfl ?_
    refine mx_iconst (pc := 88) (v := (1 : Int32)) (mx_dd dd_X10_putLine 52 (88, .iconst 1, 1) rfl) (by decide) ?_
    refine mx_iadd (pc := 89) (mx_dd dd_X10_putLine 53 (89, .iadd, 1) rfl) ?_
    refine mx_iast (pc := 90) g6 g7 (mx_dd dd_X10_putLine 54 (90, .iastore, 1) rfl) ?_
    have P := P _ rfl
    refine mx_iconst (pc := 91) (v := (1 : Int32)) (mx_dd dd_X10_putLine 55 (91, .iconst 1, 1) rfl) (by decide) ?_
    exact mx_ireturn (pc := 92) (mx_dd dd_X10_putLine 56 (92, .ireturn, 1) rfl) rfl rfl P
theorem b_X10_addInput {d : Nat} {h : mxH} {Q : mxRes → mxH → Prop} (x0 : Nat) (x1 : Int32)
    (P : hpK h x0 = 10 ∧ (((hpI h x0 5) < 0 → Q (.inl none) h) ∧ (¬ (hpI h x0 5) < 0 → (((40 : Int32) ≤ (hpI h x0 5) → Q (.inl none) h) ∧ (¬ (40 : Int32) ≤ (hpI h x0 5) → ∃ b1 : Nat, hpR h x0 4 = some b1 ∧ hpK h b1 = 14 ∧ vp_in (hpI h x0 5) (hpZ h b1) ∧ ∀ h1 : mxH, h1 = hsI h b1 (hpI h x0 5).toNatClampNeg x1 → ∀ h2 : mxH, h2 = hsI h1 x0 5 ((hpI h1 x0 5) + (1 : Int32)) → Q (.inl none) h2))))) : mx_SM mY_X10_addInput d [.ref x0, .int x1] h Q := by
  refine mx_SM_of (by decide) (Nat.le_of_ble_eq_true rfl) ?_
  show mx_SX mY_X10_addInput d 0 [(0, .ref x0), (1, .int x1)] [] h Q
  refine mx_aload_n (pc := 0) 0 (mx_dd dd_X10_addInput 0 (0, .aload_n 0, 1) rfl) rfl rfl ?_
  obtain ⟨g1, P⟩ := P
  refine mx_getI (pc := 1) mx_fl_X10_69 g1 rfl (mx_dd dd_X10_addInput 1 (1, .getfield 69, 3) rfl) ?_
  refine mx_if_lt (pc := 4) 36 (mx_dd dd_X10_addInput 2 (4, .ifCond .lt 32, 3) rfl) rfl (fun c4 => ?_) (fun c4 => ?_)
  · have P := P.1 c4
    exact mx_return (pc := 36) (mx_dd dd_X10_addInput 19 (36, .return_, 1) rfl) rfl P
  · have P := P.2 c4
    refine mx_aload_n (pc := 7) 0 (mx_dd dd_X10_addInput 3 (7, .aload_n 0, 1) rfl) rfl rfl ?_
    refine mx_getI (pc := 8) mx_fl_X10_69 g1 rfl (mx_dd dd_X10_addInput 4 (8, .getfield 69, 3) rfl) ?_
    refine mx_bipush (pc := 11) (v := (40 : Int32)) (mx_dd dd_X10_addInput 5 (11, .bipush 40, 2) rfl) (by decide) ?_
    refine mx_icmp_ge (pc := 13) 36 (mx_dd dd_X10_addInput 6 (13, .if_icmp .ge 23, 3) rfl) rfl (fun c13 => ?_) (fun c13 => ?_)
    · have P := P.1 c13
      exact mx_return (pc := 36) (mx_dd dd_X10_addInput 19 (36, .return_, 1) rfl) rfl P
    · have P := P.2 c13
      refine mx_aload_n (pc := 16) 0 (mx_dd dd_X10_addInput 7 (16, .aload_n 0, 1) rfl) rfl rfl ?_
      obtain ⟨b1, g2, P⟩ := P
      refine mx_getR (pc := 17) mx_fl_X10_22 g1 rfl g2 (mx_dd dd_X10_addInput 8 (17, .getfield 22, 3) rfl) ?_
      refine mx_aload_n (pc := 20) 0 (mx_dd dd_X10_addInput 9 (20, .aload_n 0, 1) rfl) rfl rfl ?_
      refine mx_getI (pc := 21) mx_fl_X10_69 g1 rfl (mx_dd dd_X10_addInput 10 (21, .getfield 69, 3) rfl) ?_
      refine mx_iload_n (pc := 24) 1 (mx_dd dd_X10_addInput 11 (24, .iload_n 1, 1) rfl) rfl rfl ?_
      obtain ⟨g3, P⟩ := P
      obtain ⟨g4, P⟩ := P
      refine mx_iast (pc := 25) g3 g4 (mx_dd dd_X10_addInput 12 (25, .iastore, 1) rfl) ?_
      have P := P _ rfl
      refine mx_aload_n (pc := 26) 0 (mx_dd dd_X10_addInput 13 (26, .aload_n 0, 1) rfl) rfl rfl ?_
      refine mx_dup (pc := 27) (mx_dd dd_X10_addInput 14 (27, .dup, 1) rfl) rfl ?_
      refine mx_getI (pc := 28) mx_fl_X10_69 g1 rfl (mx_dd dd_X10_addInput 15 (28, .getfield 69, 3) rfl) ?_
      refine mx_iconst (pc := 31) (v := (1 : Int32)) (mx_dd dd_X10_addInput 16 (31, .iconst 1, 1) rfl) (by decide) ?_
      refine mx_iadd (pc := 32) (mx_dd dd_X10_addInput 17 (32, .iadd, 1) rfl) ?_
      refine mx_putI (pc := 33) mx_fl_X10_69 g1 rfl (.inl rfl) rfl rfl (mx_dd dd_X10_addInput 18 (33, .putfield 69, 3) rfl) ?_
      have P := P _ rfl
      exact mx_return (pc := 36) (mx_dd dd_X10_addInput 19 (36, .return_, 1) rfl) rfl P
theorem b_X10_takeInput {d : Nat} {h : mxH} {Q : mxRes → mxH → Prop} (x0 : Nat)
    (P : hpK h x0 = 10 ∧ (((hpI h x0 5) ≤ 0 → Q (.inl (some (.int (-1 : Int32)))) h) ∧ (¬ (hpI h x0 5) ≤ 0 → (((hpI h x0 5) ≤ (40 : Int32) → ∃ b1 : Nat, hpR h x0 4 = some b1 ∧ hpK h b1 = 14 ∧ vp_in (0 : Int32) (hpZ h b1) ∧ ¬ ((hpI h x0 5) - (1 : Int32)) < 0 ∧ (1 : Int32).toNatClampNeg + ((hpI h x0 5) - (1 : Int32)).toNatClampNeg ≤ hpZ h b1 ∧ (0 : Int32).toNatClampNeg + ((hpI h x0 5) - (1 : Int32)).toNatClampNeg ≤ hpZ h b1 ∧ 1 ≤ d ∧ ∀ h1 : mxH, h1 = hrI h b1 (va_cpy (hpI h b1) (hpI h b1) (1 : Int32).toNatClampNeg (0 : Int32).toNatClampNeg ((hpI h x0 5) - (1 : Int32)).toNatClampNeg) → ∀ h2 : mxH, h2 = hsI h1 x0 5 ((hpI h1 x0 5) - (1 : Int32)) → Q (.inl (some (.int (hpI h b1 (0 : Int32).toNatClampNeg)))) h2) ∧ (¬ (hpI h x0 5) ≤ (40 : Int32) → Q (.inl (some (.int (-1 : Int32)))) h))))) : mx_SM mY_X10_takeInput d [.ref x0] h Q := by
  refine mx_SM_of (by decide) (Nat.le_of_ble_eq_true rfl) ?_
  show mx_SX mY_X10_takeInput d 0 [(0, .ref x0)] [] h Q
  refine mx_aload_n (pc := 0) 0 (mx_dd dd_X10_takeInput 0 (0, .aload_n 0, 1) rfl) rfl rfl ?_
  obtain ⟨g1, P⟩ := P
  refine mx_getI (pc := 1) mx_fl_X10_69 g1 rfl (mx_dd dd_X10_takeInput 1 (1, .getfield 69, 3) rfl) ?_
  refine mx_if_le (pc := 4) 16 (mx_dd dd_X10_takeInput 2 (4, .ifCond .le 12, 3) rfl) rfl (fun c4 => ?_) (fun c4 => ?_)
  · have P := P.1 c4
    refine mx_iconst (pc := 16) (v := (-1 : Int32)) (mx_dd dd_X10_takeInput 7 (16, .iconst (-1), 1) rfl) (by decide) ?_
    exact mx_ireturn (pc := 17) (mx_dd dd_X10_takeInput 8 (17, .ireturn, 1) rfl) rfl rfl P
  · have P := P.2 c4
    refine mx_aload_n (pc := 7) 0 (mx_dd dd_X10_takeInput 3 (7, .aload_n 0, 1) rfl) rfl rfl ?_
    refine mx_getI (pc := 8) mx_fl_X10_69 g1 rfl (mx_dd dd_X10_takeInput 4 (8, .getfield 69, 3) rfl) ?_
    refine mx_bipush (pc := 11) (v := (40 : Int32)) (mx_dd dd_X10_takeInput 5 (11, .bipush 40, 2) rfl) (by decide) ?_
    refine mx_icmp_le (pc := 13) 18 (mx_dd dd_X10_takeInput 6 (13, .if_icmp .le 5, 3) rfl) rfl (fun c13 => ?_) (fun c13 => ?_)
    · have P := P.1 c13
      refine mx_aload_n (pc := 18) 0 (mx_dd dd_X10_takeInput 9 (18, .aload_n 0, 1) rfl) rfl rfl ?_
      obtain ⟨b1, g2, P⟩ := P
      refine mx_getR (pc := 19) mx_fl_X10_22 g1 rfl g2 (mx_dd dd_X10_takeInput 10 (19, .getfield 22, 3) rfl) ?_
      refine mx_iconst (pc := 22) (v := (0 : Int32)) (mx_dd dd_X10_takeInput 11 (22, .iconst 0, 1) rfl) (by decide) ?_
      obtain ⟨g3, P⟩ := P
      obtain ⟨g4, P⟩ := P
      refine mx_iald (pc := 23) g3 g4 (mx_dd dd_X10_takeInput 12 (23, .iaload, 1) rfl) ?_
      refine mx_istore_n (pc := 24) (mx_dd dd_X10_takeInput 13 (24, .istore_n 1, 1) rfl) rfl (by decide) (lv' := [(1, _), (0, _)]) rfl ?_
      refine mx_aload_n (pc := 25) 1 (mx_dd dd_X10_takeInput 14 (25, .aload_n 0, 1) rfl) rfl rfl ?_
      refine mx_getR (pc := 26) mx_fl_X10_22 g1 rfl g2 (mx_dd dd_X10_takeInput 15 (26, .getfield 22, 3) rfl) ?_
      refine mx_iconst (pc := 29) (v := (1 : Int32)) (mx_dd dd_X10_takeInput 16 (29, .iconst 1, 1) rfl) (by decide) ?_
      refine mx_aload_n (pc := 30) 1 (mx_dd dd_X10_takeInput 17 (30, .aload_n 0, 1) rfl) rfl rfl ?_
      refine mx_getR (pc := 31) mx_fl_X10_22 g1 rfl g2 (mx_dd dd_X10_takeInput 18 (31, .getfield 22, 3) rfl) ?_
      refine mx_iconst (pc := 34) (v := (0 : Int32)) (mx_dd dd_X10_takeInput 19 (34, .iconst 0, 1) rfl) (by decide) ?_
      refine mx_aload_n (pc := 35) 1 (mx_dd dd_X10_takeInput 20 (35, .aload_n 0, 1) rfl) rfl rfl ?_
      refine mx_getI (pc := 36) mx_fl_X10_69 g1 rfl (mx_dd dd_X10_takeInput 21 (36, .getfield 69, 3) rfl) ?_
      refine mx_iconst (pc := 39) (v := (1 : Int32)) (mx_dd dd_X10_takeInput 22 (39, .iconst 1, 1) rfl) (by decide) ?_
      refine mx_isub (pc := 40) (mx_dd dd_X10_takeInput 23 (40, .isub, 1) rfl) ?_
      obtain ⟨g5, P⟩ := P
      obtain ⟨g6, P⟩ := P
      obtain ⟨g7, P⟩ := P
      obtain ⟨g8, P⟩ := P
      refine mx_copyI (pc := 41) g3 g3 (by decide) (by decide) (by decide) g5 g6 g7 (fun q => absurd q (by decide)) mx_cl_X10_63 mx_cpn mx_cps mx_cpi (by decide) (mx_dd dd_X10_takeInput 24 (41, .invokestatic 63, 3) rfl) g8 ?_
      have P := P _ rfl
      refine mx_aload_n (pc := 44) 1 (mx_dd dd_X10_takeInput 25 (44, .aload_n 0, 1) rfl) rfl rfl ?_
      refine mx_dup (pc := 45) (mx_dd dd_X10_takeInput 26 (45, .dup, 1) rfl) rfl ?_
      refine mx_getI (pc := 46) mx_fl_X10_69 g1 rfl (mx_dd dd_X10_takeInput 27 (46, .getfield 69, 3) rfl) ?_
      refine mx_iconst (pc := 49) (v := (1 : Int32)) (mx_dd dd_X10_takeInput 28 (49, .iconst 1, 1) rfl) (by decide) ?_
      refine mx_isub (pc := 50) (mx_dd dd_X10_takeInput 29 (50, .isub, 1) rfl) ?_
      refine mx_putI (pc := 51) mx_fl_X10_69 g1 rfl (.inl rfl) rfl rfl (mx_dd dd_X10_takeInput 30 (51, .putfield 69, 3) rfl) ?_
      have P := P _ rfl
      refine mx_iload_n (pc := 54) 0 (mx_dd dd_X10_takeInput 31 (54, .iload_n 1, 1) rfl) rfl rfl ?_
      exact mx_ireturn (pc := 55) (mx_dd dd_X10_takeInput 32 (55, .ireturn, 1) rfl) rfl rfl P
    · have P := P.2 c13
      refine mx_iconst (pc := 16) (v := (-1 : Int32)) (mx_dd dd_X10_takeInput 7 (16, .iconst (-1), 1) rfl) (by decide) ?_
      exact mx_ireturn (pc := 17) (mx_dd dd_X10_takeInput 8 (17, .ireturn, 1) rfl) rfl rfl P
theorem b_X10_addOutput {d : Nat} {h : mxH} {Q : mxRes → mxH → Prop} (x0 : Nat) (x1 : Int32)
    (P : hpK h x0 = 10 ∧ (((hpI h x0 7) < 0 → Q (.inl (some (.int (0 : Int32)))) h) ∧ (¬ (hpI h x0 7) < 0 → (((hpI h x0 7) < (100 : Int32) → ∃ b1 : Nat, hpR h x0 6 = some b1 ∧ hpK h b1 = 14 ∧ vp_in (hpI h x0 7) (hpZ h b1) ∧ ∀ h1 : mxH, h1 = hsI h b1 (hpI h x0 7).toNatClampNeg x1 → ∀ h2 : mxH, h2 = hsI h1 x0 7 ((hpI h1 x0 7) + (1 : Int32)) → Q (.inl (some (.int (1 : Int32)))) h2) ∧ (¬ (hpI h x0 7) < (100 : Int32) → Q (.inl (some (.int (0 : Int32)))) h))))) : mx_SM mY_X10_addOutput d [.ref x0, .int x1] h Q := by
  refine mx_SM_of (by decide) (Nat.le_of_ble_eq_true rfl) ?_
  show mx_SX mY_X10_addOutput d 0 [(0, .ref x0), (1, .int x1)] [] h Q
  refine mx_aload_n (pc := 0) 0 (mx_dd dd_X10_addOutput 0 (0, .aload_n 0, 1) rfl) rfl rfl ?_
  obtain ⟨g1, P⟩ := P
  refine mx_getI (pc := 1) mx_fl_X10_72 g1 rfl (mx_dd dd_X10_addOutput 1 (1, .getfield 72, 3) rfl) ?_
  refine mx_if_lt (pc := 4) 16 (mx_dd dd_X10_addOutput 2 (4, .ifCond .lt 12, 3) rfl) rfl (fun c4 => ?_) (fun c4 => ?_)
  · have P := P.1 c4
    refine mx_iconst (pc := 16) (v := (0 : Int32)) (mx_dd dd_X10_addOutput 7 (16, .iconst 0, 1) rfl) (by decide) ?_
    exact mx_ireturn (pc := 17) (mx_dd dd_X10_addOutput 8 (17, .ireturn, 1) rfl) rfl rfl P
  · have P := P.2 c4
    refine mx_aload_n (pc := 7) 0 (mx_dd dd_X10_addOutput 3 (7, .aload_n 0, 1) rfl) rfl rfl ?_
    refine mx_getI (pc := 8) mx_fl_X10_72 g1 rfl (mx_dd dd_X10_addOutput 4 (8, .getfield 72, 3) rfl) ?_
    refine mx_bipush (pc := 11) (v := (100 : Int32)) (mx_dd dd_X10_addOutput 5 (11, .bipush 100, 2) rfl) (by decide) ?_
    refine mx_icmp_lt (pc := 13) 18 (mx_dd dd_X10_addOutput 6 (13, .if_icmp .lt 5, 3) rfl) rfl (fun c13 => ?_) (fun c13 => ?_)
    · have P := P.1 c13
      refine mx_aload_n (pc := 18) 0 (mx_dd dd_X10_addOutput 9 (18, .aload_n 0, 1) rfl) rfl rfl ?_
      obtain ⟨b1, g2, P⟩ := P
      refine mx_getR (pc := 19) mx_fl_X10_25 g1 rfl g2 (mx_dd dd_X10_addOutput 10 (19, .getfield 25, 3) rfl) ?_
      refine mx_aload_n (pc := 22) 0 (mx_dd dd_X10_addOutput 11 (22, .aload_n 0, 1) rfl) rfl rfl ?_
      refine mx_getI (pc := 23) mx_fl_X10_72 g1 rfl (mx_dd dd_X10_addOutput 12 (23, .getfield 72, 3) rfl) ?_
      refine mx_iload_n (pc := 26) 1 (mx_dd dd_X10_addOutput 13 (26, .iload_n 1, 1) rfl) rfl rfl ?_
      obtain ⟨g3, P⟩ := P
      obtain ⟨g4, P⟩ := P
      refine mx_iast (pc := 27) g3 g4 (mx_dd dd_X10_addOutput 14 (27, .iastore, 1) rfl) ?_
      have P := P _ rfl
      refine mx_aload_n (pc := 28) 0 (mx_dd dd_X10_addOutput 15 (28, .aload_n 0, 1) rfl) rfl rfl ?_
      refine mx_dup (pc := 29) (mx_dd dd_X10_addOutput 16 (29, .dup, 1) rfl) rfl ?_
      refine mx_getI (pc := 30) mx_fl_X10_72 g1 rfl (mx_dd dd_X10_addOutput 17 (30, .getfield 72, 3) rfl) ?_
      refine mx_iconst (pc := 33) (v := (1 : Int32)) (mx_dd dd_X10_addOutput 18 (33, .iconst 1, 1) rfl) (by decide) ?_
      refine mx_iadd (pc := 34) (mx_dd dd_X10_addOutput 19 (34, .iadd, 1) rfl) ?_
      refine mx_putI (pc := 35) mx_fl_X10_72 g1 rfl (.inl rfl) rfl rfl (mx_dd dd_X10_addOutput 20 (35, .putfield 72, 3) rfl) ?_
      have P := P _ rfl
      refine mx_iconst (pc := 38) (v := (1 : Int32)) (mx_dd dd_X10_addOutput 21 (38, .iconst 1, 1) rfl) (by decide) ?_
      exact mx_ireturn (pc := 39) (mx_dd dd_X10_addOutput 22 (39, .ireturn, 1) rfl) rfl rfl P
    · have P := P.2 c13
      refine mx_iconst (pc := 16) (v := (0 : Int32)) (mx_dd dd_X10_addOutput 7 (16, .iconst 0, 1) rfl) (by decide) ?_
      exact mx_ireturn (pc := 17) (mx_dd dd_X10_addOutput 8 (17, .ireturn, 1) rfl) rfl rfl P
theorem b_X10_traceLength {d : Nat} {h : mxH} {Q : mxRes → mxH → Prop} (x0 : Nat)
    (P : hpK h x0 = 10 ∧ 1 ≤ d ∧ Q (.inl (some (.int (if (60 : Int32) < (hpI h x0 10) then (60 : Int32) else (hpI h x0 10))))) h) : mx_SM mY_X10_traceLength d [.ref x0] h Q := by
  refine mx_SM_of (by decide) (Nat.le_of_ble_eq_true rfl) ?_
  show mx_SX mY_X10_traceLength d 0 [(0, .ref x0)] [] h Q
  refine mx_aload_n (pc := 0) 0 (mx_dd dd_X10_traceLength 0 (0, .aload_n 0, 1) rfl) rfl rfl ?_
  obtain ⟨g1, P⟩ := P
  refine mx_getI (pc := 1) mx_fl_X10_46 g1 rfl (mx_dd dd_X10_traceLength 1 (1, .getfield 46, 3) rfl) ?_
  refine mx_bipush (pc := 4) (v := (60 : Int32)) (mx_dd dd_X10_traceLength 2 (4, .bipush 60, 2) rfl) (by decide) ?_
  obtain ⟨g2, P⟩ := P
  refine mx_min (pc := 6) mx_mm_X10_103 mx_mmins mx_mini mx_mminc (by decide) (mx_dd dd_X10_traceLength 3 (6, .invokestatic 103, 3) rfl) g2 ?_
  exact mx_ireturn (pc := 9) (mx_dd dd_X10_traceLength 4 (9, .ireturn, 1) rfl) rfl rfl P
theorem b_X10_addRecord {d : Nat} {h : mxH} {Q : mxRes → mxH → Prop} (x0 : Nat) (x1 : Int32) (x2 : Int32) (x3 : Int32)
    (P : hpK h x0 = 10 ∧ (((((hpI h x0 10) - (hpI h x0 10) / (60 : Int32) * (60 : Int32)) * (3 : Int32)) < 0 → Q (.inl none) h) ∧ (¬ (((hpI h x0 10) - (hpI h x0 10) / (60 : Int32) * (60 : Int32)) * (3 : Int32)) < 0 → ∃ b1 : Nat, hpR h x0 9 = some b1 ∧ hpK h b1 = 14 ∧ vp_in (((hpI h x0 10) - (hpI h x0 10) / (60 : Int32) * (60 : Int32)) * (3 : Int32)) (hpZ h b1) ∧ ∀ h1 : mxH, h1 = hsI h b1 (((hpI h x0 10) - (hpI h x0 10) / (60 : Int32) * (60 : Int32)) * (3 : Int32)).toNatClampNeg x1 → ∃ b2 : Nat, hpR h1 x0 9 = some b2 ∧ hpK h1 b2 = 14 ∧ vp_in ((((hpI h x0 10) - (hpI h x0 10) / (60 : Int32) * (60 : Int32)) * (3 : Int32)) + (1 : Int32)) (hpZ h1 b2) ∧ ∀ h2 : mxH, h2 = hsI h1 b2 ((((hpI h x0 10) - (hpI h x0 10) / (60 : Int32) * (60 : Int32)) * (3 : Int32)) + (1 : Int32)).toNatClampNeg x2 → ∃ b3 : Nat, hpR h2 x0 9 = some b3 ∧ hpK h2 b3 = 14 ∧ vp_in ((((hpI h x0 10) - (hpI h x0 10) / (60 : Int32) * (60 : Int32)) * (3 : Int32)) + (2 : Int32)) (hpZ h2 b3) ∧ ∀ h3 : mxH, h3 = hsI h2 b3 ((((hpI h x0 10) - (hpI h x0 10) / (60 : Int32) * (60 : Int32)) * (3 : Int32)) + (2 : Int32)).toNatClampNeg x3 → ∀ h4 : mxH, h4 = hsI h3 x0 10 ((hpI h3 x0 10) + (1 : Int32)) → Q (.inl none) h4))) : mx_SM mY_X10_addRecord d [.ref x0, .int x1, .int x2, .int x3] h Q := by
  refine mx_SM_of (by decide) (Nat.le_of_ble_eq_true rfl) ?_
  show mx_SX mY_X10_addRecord d 0 [(0, .ref x0), (1, .int x1), (2, .int x2), (3, .int x3)] [] h Q
  refine mx_aload_n (pc := 0) 0 (mx_dd dd_X10_addRecord 0 (0, .aload_n 0, 1) rfl) rfl rfl ?_
  obtain ⟨g1, P⟩ := P
  refine mx_getI (pc := 1) mx_fl_X10_46 g1 rfl (mx_dd dd_X10_addRecord 1 (1, .getfield 46, 3) rfl) ?_
  refine mx_bipush (pc := 4) (v := (60 : Int32)) (mx_dd dd_X10_addRecord 2 (4, .bipush 60, 2) rfl) (by decide) ?_
  refine mx_irem (pc := 6) (mx_dd dd_X10_addRecord 3 (6, .irem, 1) rfl) (by decide) ?_
  refine mx_iconst (pc := 7) (v := (3 : Int32)) (mx_dd dd_X10_addRecord 4 (7, .iconst 3, 1) rfl) (by decide) ?_
  refine mx_imul (pc := 8) (mx_dd dd_X10_addRecord 5 (8, .imul, 1) rfl) ?_
  refine mx_istore (pc := 9) (mx_dd dd_X10_addRecord 6 (9, .istore 4, 2) rfl) (by decide) (lv' := [(4, _), (0, _), (1, _), (2, _), (3, _)]) rfl ?_
  refine mx_iload (pc := 11) 0 (mx_dd dd_X10_addRecord 7 (11, .iload 4, 2) rfl) rfl ?_
  refine mx_if_lt (pc := 13) 54 (mx_dd dd_X10_addRecord 8 (13, .ifCond .lt 41, 3) rfl) rfl (fun c13 => ?_) (fun c13 => ?_)
  · have P := P.1 c13
    exact mx_return (pc := 54) (mx_dd dd_X10_addRecord 34 (54, .return_, 1) rfl) rfl P
  · have P := P.2 c13
    refine mx_aload_n (pc := 16) 1 (mx_dd dd_X10_addRecord 9 (16, .aload_n 0, 1) rfl) rfl rfl ?_
    obtain ⟨b1, g2, P⟩ := P
    refine mx_getR (pc := 17) mx_fl_X10_37 g1 rfl g2 (mx_dd dd_X10_addRecord 10 (17, .getfield 37, 3) rfl) ?_
    refine mx_iload (pc := 20) 0 (mx_dd dd_X10_addRecord 11 (20, .iload 4, 2) rfl) rfl ?_
    refine mx_iload_n (pc := 22) 2 (mx_dd dd_X10_addRecord 12 (22, .iload_n 1, 1) rfl) rfl rfl ?_
    obtain ⟨g3, P⟩ := P
    obtain ⟨g4, P⟩ := P
    refine mx_iast (pc := 23) g3 g4 (mx_dd dd_X10_addRecord 13 (23, .iastore, 1) rfl) ?_
    have P := P _ rfl
    refine mx_aload_n (pc := 24) 1 (mx_dd dd_X10_addRecord 14 (24, .aload_n 0, 1) rfl) rfl rfl ?_
    obtain ⟨b2, g5, P⟩ := P
    refine mx_getR (pc := 25) mx_fl_X10_37 g1 rfl g5 (mx_dd dd_X10_addRecord 15 (25, .getfield 37, 3) rfl) ?_
    refine mx_iload (pc := 28) 0 (mx_dd dd_X10_addRecord 16 (28, .iload 4, 2) rfl) rfl ?_
    refine mx_iconst (pc := 30) (v := (1 : Int32)) (mx_dd dd_X10_addRecord 17 (30, .iconst 1, 1) rfl) (by decide) ?_
    refine mx_iadd (pc := 31) (mx_dd dd_X10_addRecord 18 (31, .iadd, 1) rfl) ?_
    refine mx_iload_n (pc := 32) 3 (mx_dd dd_X10_addRecord 19 (32, .iload_n 2, 1) rfl) rfl rfl ?_
    obtain ⟨g6, P⟩ := P
    obtain ⟨g7, P⟩ := P
    refine mx_iast (pc := 33) g6 g7 (mx_dd dd_X10_addRecord 20 (33, .iastore, 1) rfl) ?_
    have P := P _ rfl
    refine mx_aload_n (pc := 34) 1 (mx_dd dd_X10_addRecord 21 (34, .aload_n 0, 1) rfl) rfl rfl ?_
    obtain ⟨b3, g8, P⟩ := P
    refine mx_getR (pc := 35) mx_fl_X10_37 g1 rfl g8 (mx_dd dd_X10_addRecord 22 (35, .getfield 37, 3) rfl) ?_
    refine mx_iload (pc := 38) 0 (mx_dd dd_X10_addRecord 23 (38, .iload 4, 2) rfl) rfl ?_
    refine mx_iconst (pc := 40) (v := (2 : Int32)) (mx_dd dd_X10_addRecord 24 (40, .iconst 2, 1) rfl) (by decide) ?_
    refine mx_iadd (pc := 41) (mx_dd dd_X10_addRecord 25 (41, .iadd, 1) rfl) ?_
    refine mx_iload_n (pc := 42) 4 (mx_dd dd_X10_addRecord 26 (42, .iload_n 3, 1) rfl) rfl rfl ?_
    obtain ⟨g9, P⟩ := P
    obtain ⟨g10, P⟩ := P
    refine mx_iast (pc := 43) g9 g10 (mx_dd dd_X10_addRecord 27 (43, .iastore, 1) rfl) ?_
    have P := P _ rfl
    refine mx_aload_n (pc := 44) 1 (mx_dd dd_X10_addRecord 28 (44, .aload_n 0, 1) rfl) rfl rfl ?_
    refine mx_dup (pc := 45) (mx_dd dd_X10_addRecord 29 (45, .dup, 1) rfl) rfl ?_
    refine mx_getI (pc := 46) mx_fl_X10_46 g1 rfl (mx_dd dd_X10_addRecord 30 (46, .getfield 46, 3) rfl) ?_
    refine mx_iconst (pc := 49) (v := (1 : Int32)) (mx_dd dd_X10_addRecord 31 (49, .iconst 1, 1) rfl) (by decide) ?_
    refine mx_iadd (pc := 50) (mx_dd dd_X10_addRecord 32 (50, .iadd, 1) rfl) ?_
    refine mx_putI (pc := 51) mx_fl_X10_46 g1 rfl (.inl rfl) rfl rfl (mx_dd dd_X10_addRecord 33 (51, .putfield 46, 3) rfl) ?_
    have P := P _ rfl
    exact mx_return (pc := 54) (mx_dd dd_X10_addRecord 34 (54, .return_, 1) rfl) rfl P
theorem b_X10_recordField {d : Nat} {h : mxH} {Q : mxRes → mxH → Prop} (x0 : Nat) (x1 : Int32) (x2 : Int32)
    (P : hpK h x0 = 10 ∧ 1 ≤ d ∧ mx_SM mY_X10_traceLength (d - 1) [.ref x0] h (mx_KI (fun v1 h1 => ((((((((hpI h x0 10) - v1) + x1) - (((hpI h x0 10) - v1) + x1) / (60 : Int32) * (60 : Int32)) * (3 : Int32)) + x2) < 0 → Q (.inl (some (.int (0 : Int32)))) h1) ∧ (¬ ((((((hpI h x0 10) - v1) + x1) - (((hpI h x0 10) - v1) + x1) / (60 : Int32) * (60 : Int32)) * (3 : Int32)) + x2) < 0 → hpK h1 x0 = 10 ∧ ∃ b1 : Nat, hpR h1 x0 9 = some b1 ∧ hpK h1 b1 = 14 ∧ (((nI (hpZ h1 b1)) ≤ ((((((hpI h x0 10) - v1) + x1) - (((hpI h x0 10) - v1) + x1) / (60 : Int32) * (60 : Int32)) * (3 : Int32)) + x2) → Q (.inl (some (.int (0 : Int32)))) h1) ∧ (¬ (nI (hpZ h1 b1)) ≤ ((((((hpI h x0 10) - v1) + x1) - (((hpI h x0 10) - v1) + x1) / (60 : Int32) * (60 : Int32)) * (3 : Int32)) + x2) → vp_in ((((((hpI h x0 10) - v1) + x1) - (((hpI h x0 10) - v1) + x1) / (60 : Int32) * (60 : Int32)) * (3 : Int32)) + x2) (hpZ h1 b1) ∧ Q (.inl (some (.int (hpI h1 b1 ((((((hpI h x0 10) - v1) + x1) - (((hpI h x0 10) - v1) + x1) / (60 : Int32) * (60 : Int32)) * (3 : Int32)) + x2).toNatClampNeg)))) h1))))) (mx_XX mY_X10_recordField Q))) : mx_SM mY_X10_recordField d [.ref x0, .int x1, .int x2] h Q := by
  refine mx_SM_of (by decide) (Nat.le_of_ble_eq_true rfl) ?_
  show mx_SX mY_X10_recordField d 0 [(0, .ref x0), (1, .int x1), (2, .int x2)] [] h Q
  refine mx_aload_n (pc := 0) 0 (mx_dd dd_X10_recordField 0 (0, .aload_n 0, 1) rfl) rfl rfl ?_
  obtain ⟨g1, P⟩ := P
  refine mx_getI (pc := 1) mx_fl_X10_46 g1 rfl (mx_dd dd_X10_recordField 1 (1, .getfield 46, 3) rfl) ?_
  refine mx_aload_n (pc := 4) 0 (mx_dd dd_X10_recordField 2 (4, .aload_n 0, 1) rfl) rfl rfl ?_
  obtain ⟨g2, P⟩ := P
  refine mx_cVI (pc := 5) (Y := mY_X10_traceLength) (As := []) mx_ml_X10_109 mx_y_X10_traceLength rfl g1 (by decide) rfl (by simp [Value.category]) rfl (mx_dd dd_X10_recordField 3 (5, .invokevirtual 109, 3) rfl) g2 (by decide) P (fun v1 h1 P => ?_)
  refine mx_isub (pc := 8) (mx_dd dd_X10_recordField 4 (8, .isub, 1) rfl) ?_
  refine mx_iload_n (pc := 9) 1 (mx_dd dd_X10_recordField 5 (9, .iload_n 1, 1) rfl) rfl rfl ?_
  refine mx_iadd (pc := 10) (mx_dd dd_X10_recordField 6 (10, .iadd, 1) rfl) ?_
  refine mx_bipush (pc := 11) (v := (60 : Int32)) (mx_dd dd_X10_recordField 7 (11, .bipush 60, 2) rfl) (by decide) ?_
  refine mx_irem (pc := 13) (mx_dd dd_X10_recordField 8 (13, .irem, 1) rfl) (by decide) ?_
  refine mx_iconst (pc := 14) (v := (3 : Int32)) (mx_dd dd_X10_recordField 9 (14, .iconst 3, 1) rfl) (by decide) ?_
  refine mx_imul (pc := 15) (mx_dd dd_X10_recordField 10 (15, .imul, 1) rfl) ?_
  refine mx_iload_n (pc := 16) 2 (mx_dd dd_X10_recordField 11 (16, .iload_n 2, 1) rfl) rfl rfl ?_
  refine mx_iadd (pc := 17) (mx_dd dd_X10_recordField 12 (17, .iadd, 1) rfl) ?_
  refine mx_istore_n (pc := 18) (mx_dd dd_X10_recordField 13 (18, .istore_n 3, 1) rfl) rfl (by decide) (lv' := [(3, _), (0, _), (1, _), (2, _)]) rfl ?_
  refine mx_iload_n (pc := 19) 0 (mx_dd dd_X10_recordField 14 (19, .iload_n 3, 1) rfl) rfl rfl ?_
  refine mx_if_lt (pc := 20) 41 (mx_dd dd_X10_recordField 15 (20, .ifCond .lt 21, 3) rfl) rfl (fun c20 => ?_) (fun c20 => ?_)
  · have P := P.1 c20
    refine mx_iconst (pc := 41) (v := (0 : Int32)) (mx_dd dd_X10_recordField 26 (41, .iconst 0, 1) rfl) (by decide) ?_
    exact mx_ireturn (pc := 42) (mx_dd dd_X10_recordField 27 (42, .ireturn, 1) rfl) rfl rfl P
  · have P := P.2 c20
    refine mx_iload_n (pc := 23) 0 (mx_dd dd_X10_recordField 16 (23, .iload_n 3, 1) rfl) rfl rfl ?_
    refine mx_aload_n (pc := 24) 1 (mx_dd dd_X10_recordField 17 (24, .aload_n 0, 1) rfl) rfl rfl ?_
    obtain ⟨g3, P⟩ := P
    obtain ⟨b1, g4, P⟩ := P
    refine mx_getR (pc := 25) mx_fl_X10_37 g3 rfl g4 (mx_dd dd_X10_recordField 18 (25, .getfield 37, 3) rfl) ?_
    obtain ⟨g5, P⟩ := P
    refine mx_alen (pc := 28) g5 (by decide) (mx_dd dd_X10_recordField 19 (28, .arraylength, 1) rfl) ?_
    refine mx_icmp_ge (pc := 29) 41 (mx_dd dd_X10_recordField 20 (29, .if_icmp .ge 12, 3) rfl) rfl (fun c29 => ?_) (fun c29 => ?_)
    · have P := P.1 c29
      refine mx_iconst (pc := 41) (v := (0 : Int32)) (mx_dd dd_X10_recordField 26 (41, .iconst 0, 1) rfl) (by decide) ?_
      exact mx_ireturn (pc := 42) (mx_dd dd_X10_recordField 27 (42, .ireturn, 1) rfl) rfl rfl P
    · have P := P.2 c29
      refine mx_aload_n (pc := 32) 1 (mx_dd dd_X10_recordField 21 (32, .aload_n 0, 1) rfl) rfl rfl ?_
      refine mx_getR (pc := 33) mx_fl_X10_37 g3 rfl g4 (mx_dd dd_X10_recordField 22 (33, .getfield 37, 3) rfl) ?_
      refine mx_iload_n (pc := 36) 0 (mx_dd dd_X10_recordField 23 (36, .iload_n 3, 1) rfl) rfl rfl ?_
      obtain ⟨g6, P⟩ := P
      refine mx_iald (pc := 37) g5 g6 (mx_dd dd_X10_recordField 24 (37, .iaload, 1) rfl) ?_
      refine mx_goto (pc := 38) 42 (mx_dd dd_X10_recordField 25 (38, .goto 4, 3) rfl) rfl ?_
      exact mx_ireturn (pc := 42) (mx_dd dd_X10_recordField 27 (42, .ireturn, 1) rfl) rfl rfl P
