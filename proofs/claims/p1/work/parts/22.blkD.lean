/-! PRINTED by wip/whole/genblocks.py: the blocks of the methods of X4 -/
theorem b_X4_init {d : Nat} {h : mxH} {Q : mxRes → mxH → Prop} (x0 : Nat) (x1 : Nat) (x2 : Nat) (x3 : Nat)
    (P : 1 ≤ d ∧ hpK h x0 = 4 ∧ ∀ h1 : mxH, h1 = hsR h x0 0 (some x1) → ∀ h2 : mxH, h2 = hsR h1 x0 1 (some x2) → ∀ (b1 : Nat) (h3 : mxH), b1 = hpN h2 → h3 = hnw h2 1 0 5 → mx_SM mY_X1_init (d - 1) [.ref b1, .ref x1, .ref x2, .ref x3] h3 (mx_KV (fun h4 => hpK h4 x0 = 4 ∧ ∀ h5 : mxH, h5 = hsR h4 x0 2 (some b1) → ∀ (b2 : Nat) (h6 : mxH), b2 = hpN h5 → h6 = hnw h5 14 12000 12000 → hpK h6 x0 = 4 ∧ ∀ h7 : mxH, h7 = hsR h6 x0 3 (some b2) → ∀ (b3 : Nat) (h8 : mxH), b3 = hpN h7 → h8 = hnw h7 17 300 300 → hpK h8 x0 = 4 ∧ ∀ h9 : mxH, h9 = hsR h8 x0 5 (some b3) → ∀ (b4 : Nat) (h10 : mxH), b4 = hpN h9 → h10 = hnw h9 2 0 2 → mx_SM mY_X2_init (d - 1) [.ref b4, .ref x2] h10 (mx_KV (fun h11 => hpK h11 x0 = 4 ∧ ∀ h12 : mxH, h12 = hsR h11 x0 7 (some b4) → hpK h12 x1 = 10 ∧ ∃ b5 : Nat, hpR h12 x1 8 = some b5 ∧ ∀ h13 : mxH, h13 = hsR h12 x0 10 (some b5) → Q (.inl none) h13) fun _ _ => False)) fun _ _ => False)) : mx_SM mY_X4_init d [.ref x0, .ref x1, .ref x2, .ref x3] h Q := by
  refine mx_SM_of (by decide) (Nat.le_of_ble_eq_true rfl) ?_
  show mx_SX mY_X4_init d 0 [(0, .ref x0), (1, .ref x1), (2, .ref x2), (3, .ref x3)] [] h Q
  refine mx_aload_n (pc := 0) 0 (mx_dd dd_X4_init 0 (0, .aload_n 0, 1) rfl) rfl rfl ?_
  obtain ⟨g1, P⟩ := P
  refine mx_objInit (pc := 1) mx_oi_X4_3 mx_oii mx_oic (by decide) (mx_dd dd_X4_init 1 (1, .invokespecial 3, 3) rfl) g1 ?_
  refine mx_aload_n (pc := 4) 0 (mx_dd dd_X4_init 2 (4, .aload_n 0, 1) rfl) rfl rfl ?_
  refine mx_aload_n (pc := 5) 1 (mx_dd dd_X4_init 3 (5, .aload_n 1, 1) rfl) rfl rfl ?_
  obtain ⟨g2, P⟩ := P
  refine mx_putR (pc := 6) mx_fl_X4_9 g2 rfl (.inr ⟨rfl, rfl, rfl⟩) (mx_dd dd_X4_init 4 (6, .putfield 9, 3) rfl) ?_
  have P := P _ rfl
  refine mx_aload_n (pc := 9) 0 (mx_dd dd_X4_init 5 (9, .aload_n 0, 1) rfl) rfl rfl ?_
  refine mx_aload_n (pc := 10) 2 (mx_dd dd_X4_init 6 (10, .aload_n 2, 1) rfl) rfl rfl ?_
  refine mx_putR (pc := 11) mx_fl_X4_15 g2 rfl (.inr ⟨rfl, rfl, rfl⟩) (mx_dd dd_X4_init 7 (11, .putfield 15, 3) rfl) ?_
  have P := P _ rfl
  refine mx_aload_n (pc := 14) 0 (mx_dd dd_X4_init 8 (14, .aload_n 0, 1) rfl) rfl rfl ?_
  refine mx_new (pc := 15) mx_nw_X4_19 (mx_nofd _) (mx_dd dd_X4_init 9 (15, .new 19, 3) rfl) ?_
  have P := P _ _ rfl rfl
  refine mx_dup (pc := 18) (mx_dd dd_X4_init 10 (18, .dup, 1) rfl) rfl ?_
  refine mx_aload_n (pc := 19) 1 (mx_dd dd_X4_init 11 (19, .aload_n 1, 1) rfl) rfl rfl ?_
  refine mx_aload_n (pc := 20) 2 (mx_dd dd_X4_init 12 (20, .aload_n 2, 1) rfl) rfl rfl ?_
  refine mx_aload_n (pc := 21) 3 (mx_dd dd_X4_init 13 (21, .aload_n 3, 1) rfl) rfl rfl ?_
  refine mx_cI (pc := 22) (Y := mY_X1_init) (As := [.ref _, .ref _, .ref _]) mx_ml_X4_21 mx_y_X1_init rfl rfl (by simp [Value.category]) rfl (mx_dd dd_X4_init 14 (22, .invokespecial 21, 3) rfl) g1 (by decide) P (fun h4 P => ?_)
  obtain ⟨g3, P⟩ := P
  refine mx_putR (pc := 25) mx_fl_X4_24 g3 rfl (.inr ⟨rfl, rfl, rfl⟩) (mx_dd dd_X4_init 15 (25, .putfield 24, 3) rfl) ?_
  have P := P _ rfl
  refine mx_aload_n (pc := 28) 0 (mx_dd dd_X4_init 16 (28, .aload_n 0, 1) rfl) rfl rfl ?_
  refine mx_sipush (pc := 29) (v := (12000 : Int32)) (mx_dd dd_X4_init 17 (29, .sipush 12000, 3) rfl) (by decide) ?_
  refine mx_newa (pc := 32) (N := 12000) (kd := 14) (by decide) rfl mx_ac_14 (by decide) (by decide) (by decide) (mx_dd dd_X4_init 18 (32, .newarray .int, 2) rfl) ?_
  have P := P _ _ rfl rfl
  obtain ⟨g4, P⟩ := P
  refine mx_putR (pc := 34) mx_fl_X4_28 g4 rfl (.inr ⟨rfl, rfl, rfl⟩) (mx_dd dd_X4_init 19 (34, .putfield 28, 3) rfl) ?_
  have P := P _ rfl
  refine mx_aload_n (pc := 37) 0 (mx_dd dd_X4_init 20 (37, .aload_n 0, 1) rfl) rfl rfl ?_
  refine mx_sipush (pc := 38) (v := (300 : Int32)) (mx_dd dd_X4_init 21 (38, .sipush 300, 3) rfl) (by decide) ?_
  refine mx_newq (pc := 41) (N := 300) (kd := 17) (by decide) rfl mx_an_X4_32 (by decide) (by decide) (by decide) (mx_dd dd_X4_init 22 (41, .anewarray 32, 3) rfl) ?_
  have P := P _ _ rfl rfl
  obtain ⟨g5, P⟩ := P
  refine mx_putR (pc := 44) mx_fl_X4_34 g5 rfl (.inr ⟨rfl, rfl, rfl⟩) (mx_dd dd_X4_init 23 (44, .putfield 34, 3) rfl) ?_
  have P := P _ rfl
  refine mx_aload_n (pc := 47) 0 (mx_dd dd_X4_init 24 (47, .aload_n 0, 1) rfl) rfl rfl ?_
  refine mx_new (pc := 48) mx_nw_X4_32 (mx_nofd _) (mx_dd dd_X4_init 25 (48, .new 32, 3) rfl) ?_
  have P := P _ _ rfl rfl
  refine mx_dup (pc := 51) (mx_dd dd_X4_init 26 (51, .dup, 1) rfl) rfl ?_
  refine mx_aload_n (pc := 52) 2 (mx_dd dd_X4_init 27 (52, .aload_n 2, 1) rfl) rfl rfl ?_
  refine mx_cI (pc := 53) (Y := mY_X2_init) (As := [.ref _]) mx_ml_X4_38 mx_y_X2_init rfl rfl (by simp [Value.category]) rfl (mx_dd dd_X4_init 28 (53, .invokespecial 38, 3) rfl) g1 (by decide) P (fun h11 P => ?_)
  obtain ⟨g6, P⟩ := P
  refine mx_putR (pc := 56) mx_fl_X4_41 g6 rfl (.inr ⟨rfl, rfl, rfl⟩) (mx_dd dd_X4_init 29 (56, .putfield 41, 3) rfl) ?_
  have P := P _ rfl
  refine mx_aload_n (pc := 59) 0 (mx_dd dd_X4_init 30 (59, .aload_n 0, 1) rfl) rfl rfl ?_
  refine mx_aload_n (pc := 60) 1 (mx_dd dd_X4_init 31 (60, .aload_n 1, 1) rfl) rfl rfl ?_
  obtain ⟨g7, P⟩ := P
  obtain ⟨b5, g8, P⟩ := P
  refine mx_getR (pc := 61) mx_fl_X4_45 g7 rfl g8 (mx_dd dd_X4_init 32 (61, .getfield 45, 3) rfl) ?_
  refine mx_putR (pc := 64) mx_fl_X4_51 g6 rfl (.inl rfl) (mx_dd dd_X4_init 33 (64, .putfield 51, 3) rfl) ?_
  have P := P _ rfl
  exact mx_return (pc := 67) (mx_dd dd_X4_init 34 (67, .return_, 1) rfl) rfl P
theorem b_X4_execute {d : Nat} {h : mxH} {Q : mxRes → mxH → Prop} (x0 : Nat) (x1 : Nat)
    (P : hpK h x0 = 4 ∧ ∀ h1 : mxH, h1 = hsR h x0 9 (some x1) → ∃ b1 : Nat, hpR h1 x0 0 = some b1 ∧ hpK h1 b1 = 10 ∧ ∃ b2 : Nat, hpR h1 b1 8 = some b2 ∧ ∀ h2 : mxH, h2 = hsR h1 x0 10 (some b2) → ∃ b3 : Nat, hpR h2 x0 10 = some b3 ∧ 1 ≤ d ∧ hpK h2 b3 = 8 ∧ mx_SM mY_X8_prepare (d - 1) [.ref b3] h2 (mx_KV (fun h3 => hpK h3 x0 = 4 ∧ ∃ b4 : Nat, hpR h3 x0 0 = some b4 ∧ hpK h3 b4 = 10 ∧ mx_SM mY_X10_forgetRun (d - 1) [.ref b4] h3 (mx_KV (fun h4 => hpK h4 x0 = 4 ∧ ∃ b5 : Nat, hpR h4 x0 1 = some b5 ∧ hpK h4 b5 = 0 ∧ mx_SM mY_X0_forgetPipes (d - 1) [.ref b5] h4 (mx_KV (fun h5 => hpK h5 x0 = 4 ∧ ∃ b6 : Nat, hpR h5 x0 7 = some b6 ∧ ∃ b7 : Nat, hpR h5 x0 10 = some b7 ∧ hpK h5 b7 = 8 ∧ ∃ b8 : Nat, hpR h5 b7 3 = some b8 ∧ hpK h5 b6 = 2 ∧ mx_SM mY_X2_copyFrom (d - 1) [.ref b6, .ref b8] h5 (mx_KV (fun h6 => hpK h6 x0 = 4 ∧ ∀ h7 : mxH, h7 = hsI h6 x0 4 (0 : Int32) → ∀ h8 : mxH, h8 = hsI h7 x0 6 (0 : Int32) → ∀ h9 : mxH, h9 = hsI h8 x0 11 (0 : Int32) → ∀ h10 : mxH, h10 = hsI h9 x0 12 (1 : Int32) → mx_SX mY_X4_execute d 73 [(0, .ref x0), (2, .int (0 : Int32))] [] h10 Q) (mx_XX mY_X4_execute Q))) (mx_XX mY_X4_execute Q))) (mx_XX mY_X4_execute Q))) (mx_XX mY_X4_execute Q))) : mx_SM mY_X4_execute d [.ref x0, .ref x1] h Q := by
  refine mx_SM_of (by decide) (Nat.le_of_ble_eq_true rfl) ?_
  show mx_SX mY_X4_execute d 0 [(0, .ref x0), (1, .ref x1)] [] h Q
  refine mx_aload_n (pc := 0) 0 (mx_dd dd_X4_execute 0 (0, .aload_n 0, 1) rfl) rfl rfl ?_
  refine mx_aload_n (pc := 1) 1 (mx_dd dd_X4_execute 1 (1, .aload_n 1, 1) rfl) rfl rfl ?_
  obtain ⟨g1, P⟩ := P
  refine mx_putR (pc := 2) mx_fl_X4_54 g1 rfl (.inl rfl) (mx_dd dd_X4_execute 2 (2, .putfield 54, 3) rfl) ?_
  have P := P _ rfl
  refine mx_aload_n (pc := 5) 0 (mx_dd dd_X4_execute 3 (5, .aload_n 0, 1) rfl) rfl rfl ?_
  refine mx_aload_n (pc := 6) 0 (mx_dd dd_X4_execute 4 (6, .aload_n 0, 1) rfl) rfl rfl ?_
  obtain ⟨b1, g2, P⟩ := P
  refine mx_getR (pc := 7) mx_fl_X4_9 g1 rfl g2 (mx_dd dd_X4_execute 5 (7, .getfield 9, 3) rfl) ?_
  obtain ⟨g3, P⟩ := P
  obtain ⟨b2, g4, P⟩ := P
  refine mx_getR (pc := 10) mx_fl_X4_45 g3 rfl g4 (mx_dd dd_X4_execute 6 (10, .getfield 45, 3) rfl) ?_
  refine mx_putR (pc := 13) mx_fl_X4_51 g1 rfl (.inl rfl) (mx_dd dd_X4_execute 7 (13, .putfield 51, 3) rfl) ?_
  have P := P _ rfl
  refine mx_aload_n (pc := 16) 0 (mx_dd dd_X4_execute 8 (16, .aload_n 0, 1) rfl) rfl rfl ?_
  obtain ⟨b3, g5, P⟩ := P
  refine mx_getR (pc := 17) mx_fl_X4_51 g1 rfl g5 (mx_dd dd_X4_execute 9 (17, .getfield 51, 3) rfl) ?_
  obtain ⟨g6, P⟩ := P
  obtain ⟨g7, P⟩ := P
  refine mx_cVV (pc := 20) (Y := mY_X8_prepare) (As := []) mx_ml_X4_58 mx_y_X8_prepare rfl g7 (by decide) rfl (by decide) rfl (mx_dd dd_X4_execute 10 (20, .invokevirtual 58, 3) rfl) g6 (by decide) P (fun h3 P => ?_)
  refine mx_aload_n (pc := 23) 0 (mx_dd dd_X4_execute 11 (23, .aload_n 0, 1) rfl) rfl rfl ?_
  obtain ⟨g8, P⟩ := P
  obtain ⟨b4, g9, P⟩ := P
  refine mx_getR (pc := 24) mx_fl_X4_9 g8 rfl g9 (mx_dd dd_X4_execute 12 (24, .getfield 9, 3) rfl) ?_
  obtain ⟨g10, P⟩ := P
  refine mx_cVV (pc := 27) (Y := mY_X10_forgetRun) (As := []) mx_ml_X4_63 mx_y_X10_forgetRun rfl g10 (by decide) rfl (by decide) rfl (mx_dd dd_X4_execute 13 (27, .invokevirtual 63, 3) rfl) g6 (by decide) P (fun h4 P => ?_)
  refine mx_aload_n (pc := 30) 0 (mx_dd dd_X4_execute 14 (30, .aload_n 0, 1) rfl) rfl rfl ?_
  obtain ⟨g11, P⟩ := P
  obtain ⟨b5, g12, P⟩ := P
  refine mx_getR (pc := 31) mx_fl_X4_15 g11 rfl g12 (mx_dd dd_X4_execute 15 (31, .getfield 15, 3) rfl) ?_
  obtain ⟨g13, P⟩ := P
  refine mx_cVV (pc := 34) (Y := mY_X0_forgetPipes) (As := []) mx_ml_X4_66 mx_y_X0_forgetPipes rfl g13 (by decide) rfl (by decide) rfl (mx_dd dd_X4_execute 16 (34, .invokevirtual 66, 3) rfl) g6 (by decide) P (fun h5 P => ?_)
  refine mx_aload_n (pc := 37) 0 (mx_dd dd_X4_execute 17 (37, .aload_n 0, 1) rfl) rfl rfl ?_
  obtain ⟨g14, P⟩ := P
  obtain ⟨b6, g15, P⟩ := P
  refine mx_getR (pc := 38) mx_fl_X4_41 g14 rfl g15 (mx_dd dd_X4_execute 18 (38, .getfield 41, 3) rfl) ?_
  refine mx_aload_n (pc := 41) 0 (mx_dd dd_X4_execute 19 (41, .aload_n 0, 1) rfl) rfl rfl ?_
  obtain ⟨b7, g16, P⟩ := P
  refine mx_getR (pc := 42) mx_fl_X4_51 g14 rfl g16 (mx_dd dd_X4_execute 20 (42, .getfield 51, 3) rfl) ?_
  obtain ⟨g17, P⟩ := P
  obtain ⟨b8, g18, P⟩ := P
  refine mx_getR (pc := 45) mx_fl_X4_71 g17 rfl g18 (mx_dd dd_X4_execute 21 (45, .getfield 71, 3) rfl) ?_
  obtain ⟨g19, P⟩ := P
  refine mx_cVV (pc := 48) (Y := mY_X2_copyFrom) (As := [.ref _]) mx_ml_X4_74 mx_y_X2_copyFrom rfl g19 (by decide) rfl (by decide) rfl (mx_dd dd_X4_execute 22 (48, .invokevirtual 74, 3) rfl) g6 (by decide) P (fun h6 P => ?_)
  refine mx_aload_n (pc := 51) 0 (mx_dd dd_X4_execute 23 (51, .aload_n 0, 1) rfl) rfl rfl ?_
  refine mx_iconst (pc := 52) (v := (0 : Int32)) (mx_dd dd_X4_execute 24 (52, .iconst 0, 1) rfl) (by decide) ?_
  obtain ⟨g20, P⟩ := P
  refine mx_putI (pc := 53) mx_fl_X4_78 g20 rfl (.inl rfl) rfl rfl (mx_dd dd_X4_execute 25 (53, .putfield 78, 3) rfl) ?_
  have P := P _ rfl
  refine mx_aload_n (pc := 56) 0 (mx_dd dd_X4_execute 26 (56, .aload_n 0, 1) rfl) rfl rfl ?_
  refine mx_iconst (pc := 57) (v := (0 : Int32)) (mx_dd dd_X4_execute 27 (57, .iconst 0, 1) rfl) (by decide) ?_
  refine mx_putI (pc := 58) mx_fl_X4_82 g20 rfl (.inl rfl) rfl rfl (mx_dd dd_X4_execute 28 (58, .putfield 82, 3) rfl) ?_
  have P := P _ rfl
  refine mx_aload_n (pc := 61) 0 (mx_dd dd_X4_execute 29 (61, .aload_n 0, 1) rfl) rfl rfl ?_
  refine mx_iconst (pc := 62) (v := (0 : Int32)) (mx_dd dd_X4_execute 30 (62, .iconst 0, 1) rfl) (by decide) ?_
  refine mx_putI (pc := 63) mx_fl_X4_85 g20 rfl (.inl rfl) rfl rfl (mx_dd dd_X4_execute 31 (63, .putfield 85, 3) rfl) ?_
  have P := P _ rfl
  refine mx_aload_n (pc := 66) 0 (mx_dd dd_X4_execute 32 (66, .aload_n 0, 1) rfl) rfl rfl ?_
  refine mx_iconst (pc := 67) (v := (1 : Int32)) (mx_dd dd_X4_execute 33 (67, .iconst 1, 1) rfl) (by decide) ?_
  refine mx_putI (pc := 68) mx_fl_X4_88 g20 rfl (.inl rfl) rfl rfl (mx_dd dd_X4_execute 34 (68, .putfield 88, 3) rfl) ?_
  have P := P _ rfl
  refine mx_iconst (pc := 71) (v := (0 : Int32)) (mx_dd dd_X4_execute 35 (71, .iconst 0, 1) rfl) (by decide) ?_
  refine mx_istore_n (pc := 72) (mx_dd dd_X4_execute 36 (72, .istore_n 2, 1) rfl) rfl (by decide) (lv' := [(2, _), (0, _), (1, _)]) rfl ?_
  refine mx_sel [1, 0] rfl ?_
  exact P
theorem b_X4_execute_73 {d : Nat} {h : mxH} {Q : mxRes → mxH → Prop} (x0 : Nat) (x2 : Int32)
    (P : (((10000000 : Int32) ≤ x2 → mx_SX mY_X4_execute d 96 [(0, .ref x0)] [] h Q) ∧ (¬ (10000000 : Int32) ≤ x2 → hpK h x0 = 4 ∧ (((hpI h x0 12) = 0 → mx_SX mY_X4_execute d 96 [(0, .ref x0)] [] h Q) ∧ (¬ (hpI h x0 12) = 0 → 1 ≤ d ∧ mx_SM mY_X4_doStep (d - 1) [.ref x0] h (mx_KV (fun h1 => mx_SX mY_X4_execute d 73 [(0, .ref x0), (2, .int (x2 + (1 : Int32)))] [] h1 Q) (mx_XX mY_X4_execute Q))))))) : mx_SX mY_X4_execute d 73 [(0, .ref x0), (2, .int x2)] [] h Q := by
  refine mx_iload_n (pc := 73) 1 (mx_dd dd_X4_execute 37 (73, .iload_n 2, 1) rfl) rfl rfl ?_
  refine mx_ldc (pc := 74) mx_ci_X4_92 (mx_dd dd_X4_execute 38 (74, .ldc 92, 2) rfl) ?_
  refine mx_icmp_ge (pc := 76) 96 (mx_dd dd_X4_execute 39 (76, .if_icmp .ge 20, 3) rfl) rfl (fun c76 => ?_) (fun c76 => ?_)
  · have P := P.1 c76
    refine mx_sel [0] rfl ?_
    exact P
  · have P := P.2 c76
    refine mx_aload_n (pc := 79) 0 (mx_dd dd_X4_execute 40 (79, .aload_n 0, 1) rfl) rfl rfl ?_
    obtain ⟨g1, P⟩ := P
    refine mx_getI (pc := 80) mx_fl_X4_88 g1 rfl (mx_dd dd_X4_execute 41 (80, .getfield 88, 3) rfl) ?_
    refine mx_if_eq (pc := 83) 96 (mx_dd dd_X4_execute 42 (83, .ifCond .eq 13, 3) rfl) rfl (fun c83 => ?_) (fun c83 => ?_)
    · have P := P.1 c83
      refine mx_sel [0] rfl ?_
      exact P
    · have P := P.2 c83
      refine mx_aload_n (pc := 86) 0 (mx_dd dd_X4_execute 43 (86, .aload_n 0, 1) rfl) rfl rfl ?_
      obtain ⟨g2, P⟩ := P
      refine mx_cVV (pc := 87) (Y := mY_X4_doStep) (As := []) mx_ml_X4_93 mx_y_X4_doStep rfl g1 (by decide) rfl (by decide) rfl (mx_dd dd_X4_execute 44 (87, .invokevirtual 93, 3) rfl) g2 (by decide) P (fun h1 P => ?_)
      refine mx_iinc (pc := 90) 1 (mx_dd dd_X4_execute 45 (90, .iinc 2 1, 3) rfl) rfl (mx_kadd (by decide : Int32.ofInt 1 = (1 : Int32))) (by decide) (lv' := [(2, _), (0, _)]) rfl ?_
      refine mx_goto (pc := 93) 73 (mx_dd dd_X4_execute 46 (93, .goto (-20), 3) rfl) rfl ?_
      refine mx_sel [1, 0] rfl ?_
      exact P
theorem b_X4_execute_96 {d : Nat} {h : mxH} {Q : mxRes → mxH → Prop} (x0 : Nat)
    (P : 1 ≤ d ∧ hpK h x0 = 4 ∧ mx_SM mY_X4_letGo (d - 1) [.ref x0] h (mx_KV (fun h1 => Q (.inl none) h1) (mx_XX mY_X4_execute Q))) : mx_SX mY_X4_execute d 96 [(0, .ref x0)] [] h Q := by
  refine mx_aload_n (pc := 96) 0 (mx_dd dd_X4_execute 47 (96, .aload_n 0, 1) rfl) rfl rfl ?_
  obtain ⟨g1, P⟩ := P
  obtain ⟨g2, P⟩ := P
  refine mx_cVV (pc := 97) (Y := mY_X4_letGo) (As := []) mx_ml_X4_96 mx_y_X4_letGo rfl g2 (by decide) rfl (by decide) rfl (mx_dd dd_X4_execute 48 (97, .invokevirtual 96, 3) rfl) g1 (by decide) P (fun h1 P => ?_)
  exact mx_return (pc := 100) (mx_dd dd_X4_execute 49 (100, .return_, 1) rfl) rfl P
theorem b_X4_stop {d : Nat} {h : mxH} {Q : mxRes → mxH → Prop} (x0 : Nat)
    (P : hpK h x0 = 4 ∧ ∃ b1 : Nat, hpR h x0 0 = some b1 ∧ hpK h b1 = 10 ∧ ∀ h1 : mxH, h1 = hsI h b1 13 (1 : Int32) → ∃ b2 : Nat, hpR h1 x0 0 = some b2 ∧ hpK h1 b2 = 10 ∧ ∃ b3 : Nat, hpR h1 b2 8 = some b3 ∧ hpK h1 b3 = 8 ∧ ∃ b4 : Nat, hpR h1 b3 3 = some b4 ∧ ∃ b5 : Nat, hpR h1 x0 7 = some b5 ∧ 1 ≤ d ∧ hpK h1 b4 = 2 ∧ mx_SM mY_X2_copyFrom (d - 1) [.ref b4, .ref b5] h1 (mx_KV (fun h2 => hpK h2 x0 = 4 ∧ ∀ h3 : mxH, h3 = hsI h2 x0 12 (0 : Int32) → Q (.inl none) h3) (mx_XX mY_X4_stop Q))) : mx_SM mY_X4_stop d [.ref x0] h Q := by
  refine mx_SM_of (by decide) (Nat.le_of_ble_eq_true rfl) ?_
  show mx_SX mY_X4_stop d 0 [(0, .ref x0)] [] h Q
  refine mx_aload_n (pc := 0) 0 (mx_dd dd_X4_stop 0 (0, .aload_n 0, 1) rfl) rfl rfl ?_
  obtain ⟨g1, P⟩ := P
  obtain ⟨b1, g2, P⟩ := P
  refine mx_getR (pc := 1) mx_fl_X4_9 g1 rfl g2 (mx_dd dd_X4_stop 1 (1, .getfield 9, 3) rfl) ?_
  refine mx_iconst (pc := 4) (v := (1 : Int32)) (mx_dd dd_X4_stop 2 (4, .iconst 1, 1) rfl) (by decide) ?_
  obtain ⟨g3, P⟩ := P
  refine mx_putI (pc := 5) mx_fl_X4_99 g3 rfl (.inl rfl) rfl rfl (mx_dd dd_X4_stop 3 (5, .putfield 99, 3) rfl) ?_
  have P := P _ rfl
  refine mx_aload_n (pc := 8) 0 (mx_dd dd_X4_stop 4 (8, .aload_n 0, 1) rfl) rfl rfl ?_
  obtain ⟨b2, g4, P⟩ := P
  refine mx_getR (pc := 9) mx_fl_X4_9 g1 rfl g4 (mx_dd dd_X4_stop 5 (9, .getfield 9, 3) rfl) ?_
  obtain ⟨g5, P⟩ := P
  obtain ⟨b3, g6, P⟩ := P
  refine mx_getR (pc := 12) mx_fl_X4_45 g5 rfl g6 (mx_dd dd_X4_stop 6 (12, .getfield 45, 3) rfl) ?_
  obtain ⟨g7, P⟩ := P
  obtain ⟨b4, g8, P⟩ := P
  refine mx_getR (pc := 15) mx_fl_X4_71 g7 rfl g8 (mx_dd dd_X4_stop 7 (15, .getfield 71, 3) rfl) ?_
  refine mx_aload_n (pc := 18) 0 (mx_dd dd_X4_stop 8 (18, .aload_n 0, 1) rfl) rfl rfl ?_
  obtain ⟨b5, g9, P⟩ := P
  refine mx_getR (pc := 19) mx_fl_X4_41 g1 rfl g9 (mx_dd dd_X4_stop 9 (19, .getfield 41, 3) rfl) ?_
  obtain ⟨g10, P⟩ := P
  obtain ⟨g11, P⟩ := P
  refine mx_cVV (pc := 22) (Y := mY_X2_copyFrom) (As := [.ref _]) mx_ml_X4_74 mx_y_X2_copyFrom rfl g11 (by decide) rfl (by decide) rfl (mx_dd dd_X4_stop 10 (22, .invokevirtual 74, 3) rfl) g10 (by decide) P (fun h2 P => ?_)
  refine mx_aload_n (pc := 25) 0 (mx_dd dd_X4_stop 11 (25, .aload_n 0, 1) rfl) rfl rfl ?_
  refine mx_iconst (pc := 26) (v := (0 : Int32)) (mx_dd dd_X4_stop 12 (26, .iconst 0, 1) rfl) (by decide) ?_
  obtain ⟨g12, P⟩ := P
  refine mx_putI (pc := 27) mx_fl_X4_88 g12 rfl (.inl rfl) rfl rfl (mx_dd dd_X4_stop 13 (27, .putfield 88, 3) rfl) ?_
  have P := P _ rfl
  exact mx_return (pc := 30) (mx_dd dd_X4_stop 14 (30, .return_, 1) rfl) rfl P
theorem b_X4_letGo {d : Nat} {h : mxH} {Q : mxRes → mxH → Prop} (x0 : Nat)
    (P : mx_SX mY_X4_letGo d 2 [(0, .ref x0), (1, .int (0 : Int32))] [] h Q) : mx_SM mY_X4_letGo d [.ref x0] h Q := by
  refine mx_SM_of (by decide) (Nat.le_of_ble_eq_true rfl) ?_
  show mx_SX mY_X4_letGo d 0 [(0, .ref x0)] [] h Q
  refine mx_iconst (pc := 0) (v := (0 : Int32)) (mx_dd dd_X4_letGo_0 0 (0, .iconst 0, 1) rfl) (by decide) ?_
  refine mx_istore_n (pc := 1) (mx_dd dd_X4_letGo_0 1 (1, .istore_n 1, 1) rfl) rfl (by decide) (lv' := [(1, _), (0, _)]) rfl ?_
  refine mx_sel [1, 0] rfl ?_
  exact P
theorem b_X4_letGo_2 {d : Nat} {h : mxH} {Q : mxRes → mxH → Prop} (x0 : Nat) (x1 : Int32)
    (P : (((3000 : Int32) ≤ x1 → mx_SX mY_X4_letGo d 68 [(0, .ref x0)] [] h Q) ∧ (¬ (3000 : Int32) ≤ x1 → hpK h x0 = 4 ∧ ∃ b1 : Nat, hpR h x0 10 = some b1 ∧ ∃ b2 : Nat, hpR h x0 0 = some b2 ∧ hpK h b2 = 10 ∧ ∃ b3 : Nat, hpR h b2 8 = some b3 ∧ (∀ b, some b1 = some b → 128 ≤ b) ∧ (∀ b, some b3 = some b → 128 ≤ b) ∧ (((some b1) = (some b3) → mx_SX mY_X4_letGo d 68 [(0, .ref x0)] [] h Q) ∧ (¬ (some b1) = (some b3) → hpK h b1 = 8 ∧ ((hpR h b1 13 = none → mx_SX mY_X4_letGo d 68 [(0, .ref x0)] [] h Q) ∧ (∀ b4 : Nat, hpR h b1 13 = some b4 → 1 ≤ d ∧ mx_SM mY_X4_releaseJobs (d - 1) [.ref x0, .ref b1] h (mx_KV (fun h1 => hpK h1 x0 = 4 ∧ ∃ b5 : Nat, hpR h1 x0 10 = some b5 ∧ mx_SM mY_X4_release (d - 1) [.ref x0, .ref b5] h1 (mx_KV (fun h2 => hpK h2 x0 = 4 ∧ ∀ h3 : mxH, h3 = hsR h2 x0 10 (hpR h b1 13) → mx_SX mY_X4_letGo d 2 [(0, .ref x0), (1, .int (x1 + (1 : Int32)))] [] h3 Q) (mx_XX mY_X4_letGo Q))) (mx_XX mY_X4_letGo Q))))))))) : mx_SX mY_X4_letGo d 2 [(0, .ref x0), (1, .int x1)] [] h Q := by
  refine mx_iload_n (pc := 2) 1 (mx_dd dd_X4_letGo_0 2 (2, .iload_n 1, 1) rfl) rfl rfl ?_
  refine mx_sipush (pc := 3) (v := (3000 : Int32)) (mx_dd dd_X4_letGo_0 3 (3, .sipush 3000, 3) rfl) (by decide) ?_
  refine mx_icmp_ge (pc := 6) 68 (mx_dd dd_X4_letGo_0 4 (6, .if_icmp .ge 62, 3) rfl) rfl (fun c6 => ?_) (fun c6 => ?_)
  · have P := P.1 c6
    refine mx_sel [0] rfl ?_
    exact P
  · have P := P.2 c6
    refine mx_aload_n (pc := 9) 0 (mx_dd dd_X4_letGo_0 5 (9, .aload_n 0, 1) rfl) rfl rfl ?_
    obtain ⟨g1, P⟩ := P
    obtain ⟨b1, g2, P⟩ := P
    refine mx_getR (pc := 10) mx_fl_X4_51 g1 rfl g2 (mx_dd dd_X4_letGo_0 6 (10, .getfield 51, 3) rfl) ?_
    refine mx_aload_n (pc := 13) 0 (mx_dd dd_X4_letGo_0 7 (13, .aload_n 0, 1) rfl) rfl rfl ?_
    obtain ⟨b2, g3, P⟩ := P
    refine mx_getR (pc := 14) mx_fl_X4_9 g1 rfl g3 (mx_dd dd_X4_letGo_0 8 (14, .getfield 9, 3) rfl) ?_
    obtain ⟨g4, P⟩ := P
    obtain ⟨b3, g5, P⟩ := P
    refine mx_getR (pc := 17) mx_fl_X4_45 g4 rfl g5 (mx_dd dd_X4_letGo_0 9 (17, .getfield 45, 3) rfl) ?_
    obtain ⟨g6, P⟩ := P
    obtain ⟨g7, P⟩ := P
    refine mx_acmp_eq (e1 := some _) (e2 := some _) (pc := 20) 68 (mx_dd dd_X4_letGo_0 10 (20, .if_acmp .eq 48, 3) rfl) rfl g6 g7 (fun c20 => ?_) (fun c20 => ?_)
    · have P := P.1 c20
      refine mx_sel [0] rfl ?_
      exact P
    · have P := P.2 c20
      refine mx_aload_n (pc := 23) 0 (mx_dd dd_X4_letGo_0 11 (23, .aload_n 0, 1) rfl) rfl rfl ?_
      refine mx_getR (pc := 24) mx_fl_X4_51 g1 rfl g2 (mx_dd dd_X4_letGo_0 12 (24, .getfield 51, 3) rfl) ?_
      obtain ⟨g8, P⟩ := P
      refine mx_getO (pc := 27) mx_fl_X4_102 g8 rfl (mx_dd dd_X4_letGo_0 13 (27, .getfield 102, 3) rfl) ?_
      refine mx_ifnullO (pc := 30) 68 (mx_dd dd_X4_letGo_0 14 (30, .ifnull 38, 3) rfl) rfl (fun c30 => ?_) (fun b4 g9 => ?_)
      · have P := P.1 c30
        refine mx_sel [0] rfl ?_
        exact P
      · have P := P.2 b4 g9
        refine mx_aload_n (pc := 33) 0 (mx_dd dd_X4_letGo_0 15 (33, .aload_n 0, 1) rfl) rfl rfl ?_
        refine mx_getR (pc := 34) mx_fl_X4_51 g1 rfl g2 (mx_dd dd_X4_letGo_0 16 (34, .getfield 51, 3) rfl) ?_
        refine mx_getO (pc := 37) mx_fl_X4_102 g8 rfl (mx_dd dd_X4_letGo_0 17 (37, .getfield 102, 3) rfl) ?_
        refine mx_astore_nO (pc := 40) (mx_dd dd_X4_letGo_0 18 (40, .astore_n 2, 1) rfl) rfl (by decide) (lv' := [(2, _), (0, _), (1, _)]) rfl ?_
        refine mx_aload_n (pc := 41) 1 (mx_dd dd_X4_letGo_0 19 (41, .aload_n 0, 1) rfl) rfl rfl ?_
        refine mx_aload_n (pc := 42) 1 (mx_dd dd_X4_letGo_0 20 (42, .aload_n 0, 1) rfl) rfl rfl ?_
        refine mx_getR (pc := 43) mx_fl_X4_51 g1 rfl g2 (mx_dd dd_X4_letGo_0 21 (43, .getfield 51, 3) rfl) ?_
        obtain ⟨g10, P⟩ := P
        refine mx_cVV (pc := 46) (Y := mY_X4_releaseJobs) (As := [.ref _]) mx_ml_X4_105 mx_y_X4_releaseJobs rfl g1 (by decide) rfl (by decide) rfl (mx_dd dd_X4_letGo_0 22 (46, .invokevirtual 105, 3) rfl) g10 (by decide) P (fun h1 P => ?_)
        refine mx_aload_n (pc := 49) 1 (mx_dd dd_X4_letGo_0 23 (49, .aload_n 0, 1) rfl) rfl rfl ?_
        refine mx_aload_n (pc := 50) 1 (mx_dd dd_X4_letGo_0 24 (50, .aload_n 0, 1) rfl) rfl rfl ?_
        obtain ⟨g11, P⟩ := P
        obtain ⟨b5, g12, P⟩ := P
        refine mx_getR (pc := 51) mx_fl_X4_51 g11 rfl g12 (mx_dd dd_X4_letGo_0 25 (51, .getfield 51, 3) rfl) ?_
        refine mx_cVV (pc := 54) (Y := mY_X4_release) (As := [.ref _]) mx_ml_X4_109 mx_y_X4_release rfl g11 (by decide) rfl (by decide) rfl (mx_dd dd_X4_letGo_0 26 (54, .invokevirtual 109, 3) rfl) g10 (by decide) P (fun h2 P => ?_)
        refine mx_aload_n (pc := 57) 1 (mx_dd dd_X4_letGo_0 27 (57, .aload_n 0, 1) rfl) rfl rfl ?_
        refine mx_aload_nO (pc := 58) 0 (mx_dd dd_X4_letGo_0 28 (58, .aload_n 2, 1) rfl) rfl rfl ?_
        obtain ⟨g13, P⟩ := P
        refine mx_putO (pc := 59) mx_fl_X4_51 g13 rfl (.inl rfl) (mx_dd dd_X4_letGo_0 29 (59, .putfield 51, 3) rfl) ?_
        have P := P _ rfl
        refine mx_iinc (pc := 62) 2 (mx_dd dd_X4_letGo_0 30 (62, .iinc 1 1, 3) rfl) rfl (mx_kadd (by decide : Int32.ofInt 1 = (1 : Int32))) (by decide) (lv' := [(1, _), (2, _), (0, _)]) rfl ?_
        refine mx_goto (pc := 65) 2 (mx_dd dd_X4_letGo_0 31 (65, .goto (-63), 3) rfl) rfl ?_
        refine mx_sel [2, 0] rfl ?_
        exact P
theorem b_X4_letGo_68 {d : Nat} {h : mxH} {Q : mxRes → mxH → Prop} (x0 : Nat)
    (P : hpK h x0 = 4 ∧ ∃ b1 : Nat, hpR h x0 0 = some b1 ∧ hpK h b1 = 10 ∧ ∃ b2 : Nat, hpR h b1 8 = some b2 ∧ 1 ≤ d ∧ mx_SM mY_X4_releaseJobs (d - 1) [.ref x0, .ref b2] h (mx_KV (fun h1 => mx_SX mY_X4_letGo d 81 [(0, .ref x0), (1, .int (0 : Int32))] [] h1 Q) (mx_XX mY_X4_letGo Q))) : mx_SX mY_X4_letGo d 68 [(0, .ref x0)] [] h Q := by
  refine mx_aload_n (pc := 68) 0 (mx_dd dd_X4_letGo_0 32 (68, .aload_n 0, 1) rfl) rfl rfl ?_
  refine mx_aload_n (pc := 69) 0 (mx_dd dd_X4_letGo_0 33 (69, .aload_n 0, 1) rfl) rfl rfl ?_
  obtain ⟨g1, P⟩ := P
  obtain ⟨b1, g2, P⟩ := P
  refine mx_getR (pc := 70) mx_fl_X4_9 g1 rfl g2 (mx_dd dd_X4_letGo_0 34 (70, .getfield 9, 3) rfl) ?_
  obtain ⟨g3, P⟩ := P
  obtain ⟨b2, g4, P⟩ := P
  refine mx_getR (pc := 73) mx_fl_X4_45 g3 rfl g4 (mx_dd dd_X4_letGo_0 35 (73, .getfield 45, 3) rfl) ?_
  obtain ⟨g5, P⟩ := P
  refine mx_cVV (pc := 76) (Y := mY_X4_releaseJobs) (As := [.ref _]) mx_ml_X4_105 mx_y_X4_releaseJobs rfl g1 (by decide) rfl (by decide) rfl (mx_dd dd_X4_letGo_0 36 (76, .invokevirtual 105, 3) rfl) g5 (by decide) P (fun h1 P => ?_)
  refine mx_iconst (pc := 79) (v := (0 : Int32)) (mx_dd dd_X4_letGo_0 37 (79, .iconst 0, 1) rfl) (by decide) ?_
  refine mx_istore_n (pc := 80) (mx_dd dd_X4_letGo_0 38 (80, .istore_n 1, 1) rfl) rfl (by decide) (lv' := [(1, _), (0, _)]) rfl ?_
  refine mx_sel [1, 0] rfl ?_
  exact P
theorem b_X4_letGo_81 {d : Nat} {h : mxH} {Q : mxRes → mxH → Prop} (x0 : Nat) (x1 : Int32)
    (P : hpK h x0 = 4 ∧ (((hpI h x0 6) ≤ x1 → mx_SX mY_X4_letGo d 120 [(0, .ref x0)] [] h Q) ∧ (¬ (hpI h x0 6) ≤ x1 → (((300 : Int32) ≤ x1 → mx_SX mY_X4_letGo d 120 [(0, .ref x0)] [] h Q) ∧ (¬ (300 : Int32) ≤ x1 → ∃ b1 : Nat, hpR h x0 5 = some b1 ∧ hpK h b1 = 17 ∧ vp_in x1 (hpZ h b1) ∧ ((hpR h b1 x1.toNatClampNeg = none → mx_SX mY_X4_letGo d 114 [(0, .ref x0), (1, .int x1)] [] h Q) ∧ (∀ b2 : Nat, hpR h b1 x1.toNatClampNeg = some b2 → 1 ≤ d ∧ hpK h b2 = 2 ∧ mx_SM mY_X2_closeAll (d - 1) [.ref b2] h (mx_KV (fun h1 => mx_SX mY_X4_letGo d 114 [(0, .ref x0), (1, .int x1)] [] h1 Q) (mx_XX mY_X4_letGo Q))))))))) : mx_SX mY_X4_letGo d 81 [(0, .ref x0), (1, .int x1)] [] h Q := by
  refine mx_iload_n (pc := 81) 1 (mx_dd dd_X4_letGo_0 39 (81, .iload_n 1, 1) rfl) rfl rfl ?_
  refine mx_aload_n (pc := 82) 0 (mx_dd dd_X4_letGo_1 0 (82, .aload_n 0, 1) rfl) rfl rfl ?_
  obtain ⟨g1, P⟩ := P
  refine mx_getI (pc := 83) mx_fl_X4_82 g1 rfl (mx_dd dd_X4_letGo_1 1 (83, .getfield 82, 3) rfl) ?_
  refine mx_icmp_ge (pc := 86) 120 (mx_dd dd_X4_letGo_1 2 (86, .if_icmp .ge 34, 3) rfl) rfl (fun c86 => ?_) (fun c86 => ?_)
  · have P := P.1 c86
    refine mx_sel [0] rfl ?_
    exact P
  · have P := P.2 c86
    refine mx_iload_n (pc := 89) 1 (mx_dd dd_X4_letGo_1 3 (89, .iload_n 1, 1) rfl) rfl rfl ?_
    refine mx_sipush (pc := 90) (v := (300 : Int32)) (mx_dd dd_X4_letGo_1 4 (90, .sipush 300, 3) rfl) (by decide) ?_
    refine mx_icmp_ge (pc := 93) 120 (mx_dd dd_X4_letGo_1 5 (93, .if_icmp .ge 27, 3) rfl) rfl (fun c93 => ?_) (fun c93 => ?_)
    · have P := P.1 c93
      refine mx_sel [0] rfl ?_
      exact P
    · have P := P.2 c93
      refine mx_aload_n (pc := 96) 0 (mx_dd dd_X4_letGo_1 6 (96, .aload_n 0, 1) rfl) rfl rfl ?_
      obtain ⟨b1, g2, P⟩ := P
      refine mx_getR (pc := 97) mx_fl_X4_34 g1 rfl g2 (mx_dd dd_X4_letGo_1 7 (97, .getfield 34, 3) rfl) ?_
      refine mx_iload_n (pc := 100) 1 (mx_dd dd_X4_letGo_1 8 (100, .iload_n 1, 1) rfl) rfl rfl ?_
      obtain ⟨g3, P⟩ := P
      obtain ⟨g4, P⟩ := P
      refine mx_aaldO (pc := 101) g3 (by decide) g4 (mx_dd dd_X4_letGo_1 9 (101, .aaload, 1) rfl) ?_
      refine mx_ifnullO (pc := 102) 114 (mx_dd dd_X4_letGo_1 10 (102, .ifnull 12, 3) rfl) rfl (fun c102 => ?_) (fun b2 g5 => ?_)
      · have P := P.1 c102
        exact P
      · have P := P.2 b2 g5
        refine mx_aload_n (pc := 105) 0 (mx_dd dd_X4_letGo_1 11 (105, .aload_n 0, 1) rfl) rfl rfl ?_
        refine mx_getR (pc := 106) mx_fl_X4_34 g1 rfl g2 (mx_dd dd_X4_letGo_1 12 (106, .getfield 34, 3) rfl) ?_
        refine mx_iload_n (pc := 109) 1 (mx_dd dd_X4_letGo_1 13 (109, .iload_n 1, 1) rfl) rfl rfl ?_
        refine mx_aaldO (pc := 110) g3 (by decide) g4 (mx_dd dd_X4_letGo_1 14 (110, .aaload, 1) rfl) ?_
        refine mx_deref0 g5 ?_
        obtain ⟨g6, P⟩ := P
        obtain ⟨g7, P⟩ := P
        refine mx_cVV (pc := 111) (Y := mY_X2_closeAll) (As := []) mx_ml_X4_112 mx_y_X2_closeAll rfl g7 (by decide) rfl (by decide) rfl (mx_dd dd_X4_letGo_1 15 (111, .invokevirtual 112, 3) rfl) g6 (by decide) P (fun h1 P => ?_)
        exact P
theorem b_X4_letGo_114 {d : Nat} {h : mxH} {Q : mxRes → mxH → Prop} (x0 : Nat) (x1 : Int32)
    (P : mx_SX mY_X4_letGo d 81 [(0, .ref x0), (1, .int (x1 + (1 : Int32)))] [] h Q) : mx_SX mY_X4_letGo d 114 [(0, .ref x0), (1, .int x1)] [] h Q := by
  refine mx_iinc (pc := 114) 1 (mx_dd dd_X4_letGo_1 16 (114, .iinc 1 1, 3) rfl) rfl (mx_kadd (by decide : Int32.ofInt 1 = (1 : Int32))) (by decide) (lv' := [(1, _), (0, _)]) rfl ?_
  refine mx_goto (pc := 117) 81 (mx_dd dd_X4_letGo_1 17 (117, .goto (-36), 3) rfl) rfl ?_
  refine mx_sel [1, 0] rfl ?_
  exact P
theorem b_X4_letGo_120 {d : Nat} {h : mxH} {Q : mxRes → mxH → Prop} (x0 : Nat)
    (P : hpK h x0 = 4 ∧ ∀ h1 : mxH, h1 = hsI h x0 6 (0 : Int32) → ∃ b1 : Nat, hpR h1 x0 7 = some b1 ∧ 1 ≤ d ∧ hpK h1 b1 = 2 ∧ mx_SM mY_X2_closeAll (d - 1) [.ref b1] h1 (mx_KV (fun h2 => Q (.inl none) h2) (mx_XX mY_X4_letGo Q))) : mx_SX mY_X4_letGo d 120 [(0, .ref x0)] [] h Q := by
  refine mx_aload_n (pc := 120) 0 (mx_dd dd_X4_letGo_1 18 (120, .aload_n 0, 1) rfl) rfl rfl ?_
  refine mx_iconst (pc := 121) (v := (0 : Int32)) (mx_dd dd_X4_letGo_1 19 (121, .iconst 0, 1) rfl) (by decide) ?_
  obtain ⟨g1, P⟩ := P
  refine mx_putI (pc := 122) mx_fl_X4_82 g1 rfl (.inl rfl) rfl rfl (mx_dd dd_X4_letGo_1 20 (122, .putfield 82, 3) rfl) ?_
  have P := P _ rfl
  refine mx_aload_n (pc := 125) 0 (mx_dd dd_X4_letGo_1 21 (125, .aload_n 0, 1) rfl) rfl rfl ?_
  obtain ⟨b1, g2, P⟩ := P
  refine mx_getR (pc := 126) mx_fl_X4_41 g1 rfl g2 (mx_dd dd_X4_letGo_1 22 (126, .getfield 41, 3) rfl) ?_
  obtain ⟨g3, P⟩ := P
  obtain ⟨g4, P⟩ := P
  refine mx_cVV (pc := 129) (Y := mY_X2_closeAll) (As := []) mx_ml_X4_112 mx_y_X2_closeAll rfl g4 (by decide) rfl (by decide) rfl (mx_dd dd_X4_letGo_1 23 (129, .invokevirtual 112, 3) rfl) g3 (by decide) P (fun h2 P => ?_)
  exact mx_return (pc := 132) (mx_dd dd_X4_letGo_1 24 (132, .return_, 1) rfl) rfl P
theorem b_X4_doStep {d : Nat} {h : mxH} {Q : mxRes → mxH → Prop} (x0 : Nat)
    (P : hpK h x0 = 4 ∧ ∃ b1 : Nat, hpR h x0 9 = some b1 ∧ 1 ≤ d ∧ hpK h b1 = 7 ∧ mx_SM mY_X7_operandAt (d - 1) [.ref b1, .int (hpI h x0 11)] h (mx_KI (fun v1 h1 => hpK h1 x0 = 4 ∧ ∃ b2 : Nat, hpR h1 x0 9 = some b2 ∧ hpK h1 b2 = 7 ∧ mx_SM mY_X7_targetAt (d - 1) [.ref b2, .int (hpI h x0 11)] h1 (mx_KI (fun v2 h2 => hpK h2 x0 = 4 ∧ ∀ h3 : mxH, h3 = hsI h2 x0 11 ((hpI h x0 11) + (1 : Int32)) → ∃ b3 : Nat, hpR h3 x0 9 = some b3 ∧ hpK h3 b3 = 7 ∧ mx_SM mY_X7_stepAt (d - 1) [.ref b3, .int (hpI h x0 11)] h3 (mx_KI (fun v3 h4 => ((v3.toInt < 1 ∨ 21 < v3.toInt → mx_SX mY_X4_doStep d 404 [] [] h4 Q) ∧ (v3.toInt = 1 → mx_SX mY_X4_doStep d 136 [(0, .ref x0), (2, .int v1), (3, .int v2)] [] h4 Q) ∧ (v3.toInt = 2 → mx_SX mY_X4_doStep d 145 [(0, .ref x0), (2, .int v1)] [] h4 Q) ∧ (v3.toInt = 3 → mx_SX mY_X4_doStep d 153 [(0, .ref x0), (2, .int v1)] [] h4 Q) ∧ (v3.toInt = 4 → mx_SX mY_X4_doStep d 161 [(0, .ref x0), (2, .int v1)] [] h4 Q) ∧ (v3.toInt = 5 → mx_SX mY_X4_doStep d 187 [(0, .ref x0), (2, .int v1), (3, .int v2)] [] h4 Q) ∧ (v3.toInt = 6 → mx_SX mY_X4_doStep d 196 [(0, .ref x0)] [] h4 Q) ∧ (v3.toInt = 7 → mx_SX mY_X4_doStep d 203 [(0, .ref x0)] [] h4 Q) ∧ (v3.toInt = 8 → mx_SX mY_X4_doStep d 214 [(0, .ref x0)] [] h4 Q) ∧ (v3.toInt = 9 → mx_SX mY_X4_doStep d 239 [(0, .ref x0), (3, .int v2)] [] h4 Q) ∧ (v3.toInt = 10 → mx_SX mY_X4_doStep d 247 [(0, .ref x0), (3, .int v2)] [] h4 Q) ∧ (v3.toInt = 11 → mx_SX mY_X4_doStep d 270 [(0, .ref x0), (3, .int v2)] [] h4 Q) ∧ (v3.toInt = 12 → mx_SX mY_X4_doStep d 293 [(0, .ref x0)] [] h4 Q) ∧ (v3.toInt = 13 → mx_SX mY_X4_doStep d 304 [(0, .ref x0), (3, .int v2)] [] h4 Q) ∧ (v3.toInt = 14 → mx_SX mY_X4_doStep d 312 [(0, .ref x0), (3, .int v2)] [] h4 Q) ∧ (v3.toInt = 15 → mx_SX mY_X4_doStep d 332 [(0, .ref x0), (3, .int v2)] [] h4 Q) ∧ (v3.toInt = 16 → mx_SX mY_X4_doStep d 346 [(0, .ref x0), (3, .int v2)] [] h4 Q) ∧ (v3.toInt = 17 → mx_SX mY_X4_doStep d 354 [(0, .ref x0), (3, .int v2)] [] h4 Q) ∧ (v3.toInt = 18 → mx_SX mY_X4_doStep d 372 [(0, .ref x0), (3, .int v2)] [] h4 Q) ∧ (v3.toInt = 19 → mx_SX mY_X4_doStep d 381 [(0, .ref x0), (3, .int v2)] [] h4 Q) ∧ (v3.toInt = 20 → mx_SX mY_X4_doStep d 390 [(0, .ref x0)] [] h4 Q) ∧ (v3.toInt = 21 → mx_SX mY_X4_doStep d 397 [(0, .ref x0)] [] h4 Q))) (mx_XX mY_X4_doStep Q))) (mx_XX mY_X4_doStep Q))) (mx_XX mY_X4_doStep Q))) : mx_SM mY_X4_doStep d [.ref x0] h Q := by
  refine mx_SM_of (by decide) (Nat.le_of_ble_eq_true rfl) ?_
  show mx_SX mY_X4_doStep d 0 [(0, .ref x0)] [] h Q
  refine mx_aload_n (pc := 0) 0 (mx_dd dd_X4_doStep_0 0 (0, .aload_n 0, 1) rfl) rfl rfl ?_
  obtain ⟨g1, P⟩ := P
  refine mx_getI (pc := 1) mx_fl_X4_85 g1 rfl (mx_dd dd_X4_doStep_0 1 (1, .getfield 85, 3) rfl) ?_
  refine mx_istore_n (pc := 4) (mx_dd dd_X4_doStep_0 2 (4, .istore_n 1, 1) rfl) rfl (by decide) (lv' := [(1, _), (0, _)]) rfl ?_
  refine mx_aload_n (pc := 5) 1 (mx_dd dd_X4_doStep_0 3 (5, .aload_n 0, 1) rfl) rfl rfl ?_
  obtain ⟨b1, g2, P⟩ := P
  refine mx_getR (pc := 6) mx_fl_X4_54 g1 rfl g2 (mx_dd dd_X4_doStep_0 4 (6, .getfield 54, 3) rfl) ?_
  refine mx_iload_n (pc := 9) 0 (mx_dd dd_X4_doStep_0 5 (9, .iload_n 1, 1) rfl) rfl rfl ?_
  obtain ⟨g3, P⟩ := P
  obtain ⟨g4, P⟩ := P
  refine mx_cVI (pc := 10) (Y := mY_X7_operandAt) (As := [.int _]) mx_ml_X4_115 mx_y_X7_operandAt rfl g4 (by decide) rfl (by decide) rfl (mx_dd dd_X4_doStep_0 6 (10, .invokevirtual 115, 3) rfl) g3 (by decide) P (fun v1 h1 P => ?_)
  refine mx_istore_n (pc := 13) (mx_dd dd_X4_doStep_0 7 (13, .istore_n 2, 1) rfl) rfl (by decide) (lv' := [(2, _), (1, _), (0, _)]) rfl ?_
  refine mx_aload_n (pc := 14) 2 (mx_dd dd_X4_doStep_0 8 (14, .aload_n 0, 1) rfl) rfl rfl ?_
  obtain ⟨g5, P⟩ := P
  obtain ⟨b2, g6, P⟩ := P
  refine mx_getR (pc := 15) mx_fl_X4_54 g5 rfl g6 (mx_dd dd_X4_doStep_0 9 (15, .getfield 54, 3) rfl) ?_
  refine mx_iload_n (pc := 18) 1 (mx_dd dd_X4_doStep_0 10 (18, .iload_n 1, 1) rfl) rfl rfl ?_
  obtain ⟨g7, P⟩ := P
  refine mx_cVI (pc := 19) (Y := mY_X7_targetAt) (As := [.int _]) mx_ml_X4_121 mx_y_X7_targetAt rfl g7 (by decide) rfl (by decide) rfl (mx_dd dd_X4_doStep_0 11 (19, .invokevirtual 121, 3) rfl) g3 (by decide) P (fun v2 h2 P => ?_)
  refine mx_istore_n (pc := 22) (mx_dd dd_X4_doStep_0 12 (22, .istore_n 3, 1) rfl) rfl (by decide) (lv' := [(3, _), (2, _), (1, _), (0, _)]) rfl ?_
  refine mx_aload_n (pc := 23) 3 (mx_dd dd_X4_doStep_0 13 (23, .aload_n 0, 1) rfl) rfl rfl ?_
  refine mx_iload_n (pc := 24) 2 (mx_dd dd_X4_doStep_0 14 (24, .iload_n 1, 1) rfl) rfl rfl ?_
  refine mx_iconst (pc := 25) (v := (1 : Int32)) (mx_dd dd_X4_doStep_0 15 (25, .iconst 1, 1) rfl) (by decide) ?_
  refine mx_iadd (pc := 26) (mx_dd dd_X4_doStep_0 16 (26, .iadd, 1) rfl) ?_
  obtain ⟨g8, P⟩ := P
  refine mx_putI (pc := 27) mx_fl_X4_85 g8 rfl (.inl rfl) rfl rfl (mx_dd dd_X4_doStep_0 17 (27, .putfield 85, 3) rfl) ?_
  have P := P _ rfl
  refine mx_aload_n (pc := 30) 3 (mx_dd dd_X4_doStep_0 18 (30, .aload_n 0, 1) rfl) rfl rfl ?_
  obtain ⟨b3, g9, P⟩ := P
  refine mx_getR (pc := 31) mx_fl_X4_54 g8 rfl g9 (mx_dd dd_X4_doStep_0 19 (31, .getfield 54, 3) rfl) ?_
  refine mx_iload_n (pc := 34) 2 (mx_dd dd_X4_doStep_0 20 (34, .iload_n 1, 1) rfl) rfl rfl ?_
  obtain ⟨g10, P⟩ := P
  refine mx_cVI (pc := 35) (Y := mY_X7_stepAt) (As := [.int _]) mx_ml_X4_124 mx_y_X7_stepAt rfl g10 (by decide) rfl (by decide) rfl (mx_dd dd_X4_doStep_0 21 (35, .invokevirtual 124, 3) rfl) g3 (by decide) P (fun v3 h4 P => ?_)
  refine mx_tsw (pc := 38) 404 (mx_dd dd_X4_doStep_0 22 (38, .tableswitch 366 1 21 #[98, 107, 115, 123, 149, 158, 165, 176, 201, 209, 232, 255, 266, 274, 294, 308, 316, 334, 343, 352, 359], 98) rfl) rfl [136, 145, 153, 161, 187, 196, 203, 214, 239, 247, 270, 293, 304, 312, 332, 346, 354, 372, 381, 390, 397] rfl rfl (fun c38 => ?_) ?_
  · have P := P.1 c38
    refine mx_sel [] rfl ?_
    exact P
  · intro j t hj hx
    have hj9 : j < 21 := (List.getElem?_eq_some_iff.mp hj).1
    have hj8 : j = 0 ∨ j = 1 ∨ j = 2 ∨ j = 3 ∨ j = 4 ∨ j = 5 ∨ j = 6 ∨ j = 7 ∨ j = 8 ∨ j = 9 ∨ j = 10 ∨ j = 11 ∨ j = 12 ∨ j = 13 ∨ j = 14 ∨ j = 15 ∨ j = 16 ∨ j = 17 ∨ j = 18 ∨ j = 19 ∨ j = 20 := by omega
    rcases hj8 with rfl | rfl | rfl | rfl | rfl | rfl | rfl | rfl | rfl | rfl | rfl | rfl | rfl | rfl | rfl | rfl | rfl | rfl | rfl | rfl | rfl
    · cases hj
      have P := P.2.1 (by omega)
      refine mx_sel [3, 1, 0] rfl ?_
      exact P
    · cases hj
      have P := P.2.2.1 (by omega)
      refine mx_sel [3, 1] rfl ?_
      exact P
    · cases hj
      have P := P.2.2.2.1 (by omega)
      refine mx_sel [3, 1] rfl ?_
      exact P
    · cases hj
      have P := P.2.2.2.2.1 (by omega)
      refine mx_sel [3, 1] rfl ?_
      exact P
    · cases hj
      have P := P.2.2.2.2.2.1 (by omega)
      refine mx_sel [3, 1, 0] rfl ?_
      exact P
    · cases hj
      have P := P.2.2.2.2.2.2.1 (by omega)
      refine mx_sel [3] rfl ?_
      exact P
    · cases hj
      have P := P.2.2.2.2.2.2.2.1 (by omega)
      refine mx_sel [3] rfl ?_
      exact P
    · cases hj
      have P := P.2.2.2.2.2.2.2.2.1 (by omega)
      refine mx_sel [3] rfl ?_
      exact P
    · cases hj
      have P := P.2.2.2.2.2.2.2.2.2.1 (by omega)
      refine mx_sel [3, 0] rfl ?_
      exact P
    · cases hj
      have P := P.2.2.2.2.2.2.2.2.2.2.1 (by omega)
      refine mx_sel [3, 0] rfl ?_
      exact P
    · cases hj
      have P := P.2.2.2.2.2.2.2.2.2.2.2.1 (by omega)
      refine mx_sel [3, 0] rfl ?_
      exact P
    · cases hj
      have P := P.2.2.2.2.2.2.2.2.2.2.2.2.1 (by omega)
      refine mx_sel [3] rfl ?_
      exact P
    · cases hj
      have P := P.2.2.2.2.2.2.2.2.2.2.2.2.2.1 (by omega)
      refine mx_sel [3, 0] rfl ?_
      exact P
    · cases hj
      have P := P.2.2.2.2.2.2.2.2.2.2.2.2.2.2.1 (by omega)
      refine mx_sel [3, 0] rfl ?_
      exact P
    · cases hj
      have P := P.2.2.2.2.2.2.2.2.2.2.2.2.2.2.2.1 (by omega)
      refine mx_sel [3, 0] rfl ?_
      exact P
    · cases hj
      have P := P.2.2.2.2.2.2.2.2.2.2.2.2.2.2.2.2.1 (by omega)
      refine mx_sel [3, 0] rfl ?_
      exact P
    · cases hj
      have P := P.2.2.2.2.2.2.2.2.2.2.2.2.2.2.2.2.2.1 (by omega)
      refine mx_sel [3, 0] rfl ?_
      exact P
    · cases hj
      have P := P.2.2.2.2.2.2.2.2.2.2.2.2.2.2.2.2.2.2.1 (by omega)
      refine mx_sel [3, 0] rfl ?_
      exact P
    · cases hj
      have P := P.2.2.2.2.2.2.2.2.2.2.2.2.2.2.2.2.2.2.2.1 (by omega)
      refine mx_sel [3, 0] rfl ?_
      exact P
    · cases hj
      have P := P.2.2.2.2.2.2.2.2.2.2.2.2.2.2.2.2.2.2.2.2.1 (by omega)
      refine mx_sel [3] rfl ?_
      exact P
    · cases hj
      have P := P.2.2.2.2.2.2.2.2.2.2.2.2.2.2.2.2.2.2.2.2.2 (by omega)
      refine mx_sel [3] rfl ?_
      exact P
theorem b_X4_doStep_136 {d : Nat} {h : mxH} {Q : mxRes → mxH → Prop} (x0 : Nat) (x2 : Int32) (x3 : Int32)
    (P : 1 ≤ d ∧ hpK h x0 = 4 ∧ mx_SM mY_X4_begin (d - 1) [.ref x0, .int x2, .int x3] h (mx_KV (fun h1 => mx_SX mY_X4_doStep d 404 [] [] h1 Q) (mx_XX mY_X4_doStep Q))) : mx_SX mY_X4_doStep d 136 [(0, .ref x0), (2, .int x2), (3, .int x3)] [] h Q := by
  refine mx_aload_n (pc := 136) 0 (mx_dd dd_X4_doStep_0 23 (136, .aload_n 0, 1) rfl) rfl rfl ?_
  refine mx_iload_n (pc := 137) 1 (mx_dd dd_X4_doStep_0 24 (137, .iload_n 2, 1) rfl) rfl rfl ?_
  refine mx_iload_n (pc := 138) 2 (mx_dd dd_X4_doStep_0 25 (138, .iload_n 3, 1) rfl) rfl rfl ?_
  obtain ⟨g1, P⟩ := P
  obtain ⟨g2, P⟩ := P
  refine mx_cVV (pc := 139) (Y := mY_X4_begin) (As := [.int _, .int _]) mx_ml_X4_127 mx_y_X4_begin rfl g2 (by decide) rfl (by decide) rfl (mx_dd dd_X4_doStep_0 26 (139, .invokevirtual 127, 3) rfl) g1 (by decide) P (fun h1 P => ?_)
  refine mx_goto (pc := 142) 404 (mx_dd dd_X4_doStep_0 27 (142, .goto 262, 3) rfl) rfl ?_
  refine mx_sel [] rfl ?_
  exact P
theorem b_X4_doStep_145 {d : Nat} {h : mxH} {Q : mxRes → mxH → Prop} (x0 : Nat) (x2 : Int32)
    (P : 1 ≤ d ∧ hpK h x0 = 4 ∧ mx_SM mY_X4_finish (d - 1) [.ref x0, .int x2] h (mx_KV (fun h1 => mx_SX mY_X4_doStep d 404 [] [] h1 Q) (mx_XX mY_X4_doStep Q))) : mx_SX mY_X4_doStep d 145 [(0, .ref x0), (2, .int x2)] [] h Q := by
  refine mx_aload_n (pc := 145) 0 (mx_dd dd_X4_doStep_0 28 (145, .aload_n 0, 1) rfl) rfl rfl ?_
  refine mx_iload_n (pc := 146) 1 (mx_dd dd_X4_doStep_0 29 (146, .iload_n 2, 1) rfl) rfl rfl ?_
  obtain ⟨g1, P⟩ := P
  obtain ⟨g2, P⟩ := P
  refine mx_cVV (pc := 147) (Y := mY_X4_finish) (As := [.int _]) mx_ml_X4_131 mx_y_X4_finish rfl g2 (by decide) rfl (by decide) rfl (mx_dd dd_X4_doStep_0 30 (147, .invokevirtual 131, 3) rfl) g1 (by decide) P (fun h1 P => ?_)
  refine mx_goto (pc := 150) 404 (mx_dd dd_X4_doStep_0 31 (150, .goto 254, 3) rfl) rfl ?_
  refine mx_sel [] rfl ?_
  exact P
theorem b_X4_doStep_153 {d : Nat} {h : mxH} {Q : mxRes → mxH → Prop} (x0 : Nat) (x2 : Int32)
    (P : 1 ≤ d ∧ hpK h x0 = 4 ∧ mx_SM mY_X4_call (d - 1) [.ref x0, .int x2] h (mx_KV (fun h1 => mx_SX mY_X4_doStep d 404 [] [] h1 Q) (mx_XX mY_X4_doStep Q))) : mx_SX mY_X4_doStep d 153 [(0, .ref x0), (2, .int x2)] [] h Q := by
  refine mx_aload_n (pc := 153) 0 (mx_dd dd_X4_doStep_0 32 (153, .aload_n 0, 1) rfl) rfl rfl ?_
  refine mx_iload_n (pc := 154) 1 (mx_dd dd_X4_doStep_0 33 (154, .iload_n 2, 1) rfl) rfl rfl ?_
  obtain ⟨g1, P⟩ := P
  obtain ⟨g2, P⟩ := P
  refine mx_cVV (pc := 155) (Y := mY_X4_call) (As := [.int _]) mx_ml_X4_135 mx_y_X4_call rfl g2 (by decide) rfl (by decide) rfl (mx_dd dd_X4_doStep_0 34 (155, .invokevirtual 135, 3) rfl) g1 (by decide) P (fun h1 P => ?_)
  refine mx_goto (pc := 158) 404 (mx_dd dd_X4_doStep_0 35 (158, .goto 246, 3) rfl) rfl ?_
  refine mx_sel [] rfl ?_
  exact P
theorem b_X4_doStep_161 {d : Nat} {h : mxH} {Q : mxRes → mxH → Prop} (x0 : Nat) (x2 : Int32)
    (P : hpK h x0 = 4 ∧ ∃ b1 : Nat, hpR h x0 10 = some b1 ∧ ∃ b2 : Nat, hpR h x0 2 = some b2 ∧ ∃ b3 : Nat, hpR h x0 9 = some b3 ∧ 1 ≤ d ∧ hpK h b2 = 1 ∧ mx_SM mY_X1_assign (d - 1) [.ref b2, .ref b3, .ref b1, .int x2] h (mx_KI (fun v1 h1 => hpK h1 b1 = 8 ∧ ∀ h2 : mxH, h2 = hsI h1 b1 6 v1 → mx_SX mY_X4_doStep d 404 [] [] h2 Q) (mx_XX mY_X4_doStep Q))) : mx_SX mY_X4_doStep d 161 [(0, .ref x0), (2, .int x2)] [] h Q := by
  refine mx_aload_n (pc := 161) 0 (mx_dd dd_X4_doStep_0 36 (161, .aload_n 0, 1) rfl) rfl rfl ?_
  obtain ⟨g1, P⟩ := P
  obtain ⟨b1, g2, P⟩ := P
  refine mx_getR (pc := 162) mx_fl_X4_51 g1 rfl g2 (mx_dd dd_X4_doStep_0 37 (162, .getfield 51, 3) rfl) ?_
  refine mx_aload_n (pc := 165) 0 (mx_dd dd_X4_doStep_0 38 (165, .aload_n 0, 1) rfl) rfl rfl ?_
  obtain ⟨b2, g3, P⟩ := P
  refine mx_getR (pc := 166) mx_fl_X4_24 g1 rfl g3 (mx_dd dd_X4_doStep_0 39 (166, .getfield 24, 3) rfl) ?_
  refine mx_aload_n (pc := 169) 0 (mx_dd dd_X4_doStep_1 0 (169, .aload_n 0, 1) rfl) rfl rfl ?_
  obtain ⟨b3, g4, P⟩ := P
  refine mx_getR (pc := 170) mx_fl_X4_54 g1 rfl g4 (mx_dd dd_X4_doStep_1 1 (170, .getfield 54, 3) rfl) ?_
  refine mx_aload_n (pc := 173) 0 (mx_dd dd_X4_doStep_1 2 (173, .aload_n 0, 1) rfl) rfl rfl ?_
  refine mx_getR (pc := 174) mx_fl_X4_51 g1 rfl g2 (mx_dd dd_X4_doStep_1 3 (174, .getfield 51, 3) rfl) ?_
  refine mx_iload_n (pc := 177) 1 (mx_dd dd_X4_doStep_1 4 (177, .iload_n 2, 1) rfl) rfl rfl ?_
  obtain ⟨g5, P⟩ := P
  obtain ⟨g6, P⟩ := P
  refine mx_cVI (pc := 178) (Y := mY_X1_assign) (As := [.ref _, .ref _, .int _]) mx_ml_X4_138 mx_y_X1_assign rfl g6 (by decide) rfl (by simp [Value.category]) rfl (mx_dd dd_X4_doStep_1 5 (178, .invokevirtual 138, 3) rfl) g5 (by decide) P (fun v1 h1 P => ?_)
  obtain ⟨g7, P⟩ := P
  refine mx_putI (pc := 181) mx_fl_X4_142 g7 rfl (.inl rfl) rfl rfl (mx_dd dd_X4_doStep_1 6 (181, .putfield 142, 3) rfl) ?_
  have P := P _ rfl
  refine mx_goto (pc := 184) 404 (mx_dd dd_X4_doStep_1 7 (184, .goto 220, 3) rfl) rfl ?_
  refine mx_sel [] rfl ?_
  exact P
theorem b_X4_doStep_187 {d : Nat} {h : mxH} {Q : mxRes → mxH → Prop} (x0 : Nat) (x2 : Int32) (x3 : Int32)
    (P : 1 ≤ d ∧ hpK h x0 = 4 ∧ mx_SM mY_X4_define (d - 1) [.ref x0, .int x2, .int x3] h (mx_KV (fun h1 => mx_SX mY_X4_doStep d 404 [] [] h1 Q) (mx_XX mY_X4_doStep Q))) : mx_SX mY_X4_doStep d 187 [(0, .ref x0), (2, .int x2), (3, .int x3)] [] h Q := by
  refine mx_aload_n (pc := 187) 0 (mx_dd dd_X4_doStep_1 8 (187, .aload_n 0, 1) rfl) rfl rfl ?_
  refine mx_iload_n (pc := 188) 1 (mx_dd dd_X4_doStep_1 9 (188, .iload_n 2, 1) rfl) rfl rfl ?_
  refine mx_iload_n (pc := 189) 2 (mx_dd dd_X4_doStep_1 10 (189, .iload_n 3, 1) rfl) rfl rfl ?_
  obtain ⟨g1, P⟩ := P
  obtain ⟨g2, P⟩ := P
  refine mx_cVV (pc := 190) (Y := mY_X4_define) (As := [.int _, .int _]) mx_ml_X4_145 mx_y_X4_define rfl g2 (by decide) rfl (by decide) rfl (mx_dd dd_X4_doStep_1 11 (190, .invokevirtual 145, 3) rfl) g1 (by decide) P (fun h1 P => ?_)
  refine mx_goto (pc := 193) 404 (mx_dd dd_X4_doStep_1 12 (193, .goto 211, 3) rfl) rfl ?_
  refine mx_sel [] rfl ?_
  exact P
theorem b_X4_doStep_196 {d : Nat} {h : mxH} {Q : mxRes → mxH → Prop} (x0 : Nat)
    (P : 1 ≤ d ∧ hpK h x0 = 4 ∧ mx_SM mY_X4_returnFromCall (d - 1) [.ref x0] h (mx_KV (fun h1 => mx_SX mY_X4_doStep d 404 [] [] h1 Q) (mx_XX mY_X4_doStep Q))) : mx_SX mY_X4_doStep d 196 [(0, .ref x0)] [] h Q := by
  refine mx_aload_n (pc := 196) 0 (mx_dd dd_X4_doStep_1 13 (196, .aload_n 0, 1) rfl) rfl rfl ?_
  obtain ⟨g1, P⟩ := P
  obtain ⟨g2, P⟩ := P
  refine mx_cVV (pc := 197) (Y := mY_X4_returnFromCall) (As := []) mx_ml_X4_148 mx_y_X4_returnFromCall rfl g2 (by decide) rfl (by decide) rfl (mx_dd dd_X4_doStep_1 14 (197, .invokevirtual 148, 3) rfl) g1 (by decide) P (fun h1 P => ?_)
  refine mx_goto (pc := 200) 404 (mx_dd dd_X4_doStep_1 15 (200, .goto 204, 3) rfl) rfl ?_
  refine mx_sel [] rfl ?_
  exact P
theorem b_X4_doStep_203 {d : Nat} {h : mxH} {Q : mxRes → mxH → Prop} (x0 : Nat)
    (P : hpK h x0 = 4 ∧ ∃ b1 : Nat, hpR h x0 10 = some b1 ∧ hpK h b1 = 8 ∧ ∀ h1 : mxH, h1 = hsI h b1 6 (0 : Int32) → mx_SX mY_X4_doStep d 404 [] [] h1 Q) : mx_SX mY_X4_doStep d 203 [(0, .ref x0)] [] h Q := by
  refine mx_aload_n (pc := 203) 0 (mx_dd dd_X4_doStep_1 16 (203, .aload_n 0, 1) rfl) rfl rfl ?_
  obtain ⟨g1, P⟩ := P
  obtain ⟨b1, g2, P⟩ := P
  refine mx_getR (pc := 204) mx_fl_X4_51 g1 rfl g2 (mx_dd dd_X4_doStep_1 17 (204, .getfield 51, 3) rfl) ?_
  refine mx_iconst (pc := 207) (v := (0 : Int32)) (mx_dd dd_X4_doStep_1 18 (207, .iconst 0, 1) rfl) (by decide) ?_
  obtain ⟨g3, P⟩ := P
  refine mx_putI (pc := 208) mx_fl_X4_142 g3 rfl (.inl rfl) rfl rfl (mx_dd dd_X4_doStep_1 19 (208, .putfield 142, 3) rfl) ?_
  have P := P _ rfl
  refine mx_goto (pc := 211) 404 (mx_dd dd_X4_doStep_1 20 (211, .goto 193, 3) rfl) rfl ?_
  refine mx_sel [] rfl ?_
  exact P
theorem b_X4_doStep_214 {d : Nat} {h : mxH} {Q : mxRes → mxH → Prop} (x0 : Nat)
    (P : hpK h x0 = 4 ∧ ∃ b1 : Nat, hpR h x0 10 = some b1 ∧ hpK h b1 = 8 ∧ ((¬ (hpI h b1 6) = 0 → ∀ h1 : mxH, h1 = hsI h b1 6 (0 : Int32) → mx_SX mY_X4_doStep d 404 [] [] h1 Q) ∧ ((hpI h b1 6) = 0 → ∀ h2 : mxH, h2 = hsI h b1 6 (1 : Int32) → mx_SX mY_X4_doStep d 404 [] [] h2 Q))) : mx_SX mY_X4_doStep d 214 [(0, .ref x0)] [] h Q := by
  refine mx_aload_n (pc := 214) 0 (mx_dd dd_X4_doStep_1 21 (214, .aload_n 0, 1) rfl) rfl rfl ?_
  obtain ⟨g1, P⟩ := P
  obtain ⟨b1, g2, P⟩ := P
  refine mx_getR (pc := 215) mx_fl_X4_51 g1 rfl g2 (mx_dd dd_X4_doStep_1 22 (215, .getfield 51, 3) rfl) ?_
  refine mx_aload_n (pc := 218) 0 (mx_dd dd_X4_doStep_1 23 (218, .aload_n 0, 1) rfl) rfl rfl ?_
  refine mx_getR (pc := 219) mx_fl_X4_51 g1 rfl g2 (mx_dd dd_X4_doStep_1 24 (219, .getfield 51, 3) rfl) ?_
  obtain ⟨g3, P⟩ := P
  refine mx_getI (pc := 222) mx_fl_X4_142 g3 rfl (mx_dd dd_X4_doStep_1 25 (222, .getfield 142, 3) rfl) ?_
  refine mx_if_ne (pc := 225) 232 (mx_dd dd_X4_doStep_1 26 (225, .ifCond .ne 7, 3) rfl) rfl (fun c225 => ?_) (fun c225 => ?_)
  · have P := P.1 c225
    refine mx_iconst (pc := 232) (v := (0 : Int32)) (mx_dd dd_X4_doStep_1 29 (232, .iconst 0, 1) rfl) (by decide) ?_
    refine mx_putI (pc := 233) mx_fl_X4_142 g3 rfl (.inl rfl) rfl rfl (mx_dd dd_X4_doStep_1 30 (233, .putfield 142, 3) rfl) ?_
    have P := P _ rfl
    refine mx_goto (pc := 236) 404 (mx_dd dd_X4_doStep_1 31 (236, .goto 168, 3) rfl) rfl ?_
    refine mx_sel [] rfl ?_
    exact P
  · have P := P.2 c225
    refine mx_iconst (pc := 228) (v := (1 : Int32)) (mx_dd dd_X4_doStep_1 27 (228, .iconst 1, 1) rfl) (by decide) ?_
    refine mx_goto (pc := 229) 233 (mx_dd dd_X4_doStep_1 28 (229, .goto 4, 3) rfl) rfl ?_
    refine mx_putI (pc := 233) mx_fl_X4_142 g3 rfl (.inl rfl) rfl rfl (mx_dd dd_X4_doStep_1 30 (233, .putfield 142, 3) rfl) ?_
    have P := P _ rfl
    refine mx_goto (pc := 236) 404 (mx_dd dd_X4_doStep_1 31 (236, .goto 168, 3) rfl) rfl ?_
    refine mx_sel [] rfl ?_
    exact P
theorem b_X4_doStep_239 {d : Nat} {h : mxH} {Q : mxRes → mxH → Prop} (x0 : Nat) (x3 : Int32)
    (P : hpK h x0 = 4 ∧ ∀ h1 : mxH, h1 = hsI h x0 11 x3 → mx_SX mY_X4_doStep d 404 [] [] h1 Q) : mx_SX mY_X4_doStep d 239 [(0, .ref x0), (3, .int x3)] [] h Q := by
  refine mx_aload_n (pc := 239) 0 (mx_dd dd_X4_doStep_1 32 (239, .aload_n 0, 1) rfl) rfl rfl ?_
  refine mx_iload_n (pc := 240) 1 (mx_dd dd_X4_doStep_1 33 (240, .iload_n 3, 1) rfl) rfl rfl ?_
  obtain ⟨g1, P⟩ := P
  refine mx_putI (pc := 241) mx_fl_X4_85 g1 rfl (.inl rfl) rfl rfl (mx_dd dd_X4_doStep_1 34 (241, .putfield 85, 3) rfl) ?_
  have P := P _ rfl
  refine mx_goto (pc := 244) 404 (mx_dd dd_X4_doStep_1 35 (244, .goto 160, 3) rfl) rfl ?_
  refine mx_sel [] rfl ?_
  exact P
theorem b_X4_doStep_247 {d : Nat} {h : mxH} {Q : mxRes → mxH → Prop} (x0 : Nat) (x3 : Int32)
    (P : hpK h x0 = 4 ∧ ∃ b1 : Nat, hpR h x0 10 = some b1 ∧ hpK h b1 = 8 ∧ ((¬ (hpI h b1 6) = 0 → 1 ≤ d ∧ mx_SM mY_X4_jumpIf (d - 1) [.ref x0, .int (0 : Int32), .int x3] h (mx_KV (fun h1 => mx_SX mY_X4_doStep d 404 [] [] h1 Q) (mx_XX mY_X4_doStep Q))) ∧ ((hpI h b1 6) = 0 → 1 ≤ d ∧ mx_SM mY_X4_jumpIf (d - 1) [.ref x0, .int (1 : Int32), .int x3] h (mx_KV (fun h2 => mx_SX mY_X4_doStep d 404 [] [] h2 Q) (mx_XX mY_X4_doStep Q))))) : mx_SX mY_X4_doStep d 247 [(0, .ref x0), (3, .int x3)] [] h Q := by
  refine mx_aload_n (pc := 247) 0 (mx_dd dd_X4_doStep_1 36 (247, .aload_n 0, 1) rfl) rfl rfl ?_
  refine mx_aload_n (pc := 248) 0 (mx_dd dd_X4_doStep_1 37 (248, .aload_n 0, 1) rfl) rfl rfl ?_
  obtain ⟨g1, P⟩ := P
  obtain ⟨b1, g2, P⟩ := P
  refine mx_getR (pc := 249) mx_fl_X4_51 g1 rfl g2 (mx_dd dd_X4_doStep_1 38 (249, .getfield 51, 3) rfl) ?_
  obtain ⟨g3, P⟩ := P
  refine mx_getI (pc := 252) mx_fl_X4_142 g3 rfl (mx_dd dd_X4_doStep_1 39 (252, .getfield 142, 3) rfl) ?_
  refine mx_if_ne (pc := 255) 262 (mx_dd dd_X4_doStep_2 0 (255, .ifCond .ne 7, 3) rfl) rfl (fun c255 => ?_) (fun c255 => ?_)
  · have P := P.1 c255
    refine mx_iconst (pc := 262) (v := (0 : Int32)) (mx_dd dd_X4_doStep_2 3 (262, .iconst 0, 1) rfl) (by decide) ?_
    refine mx_iload_n (pc := 263) 1 (mx_dd dd_X4_doStep_2 4 (263, .iload_n 3, 1) rfl) rfl rfl ?_
    obtain ⟨g4, P⟩ := P
    refine mx_cVV (pc := 264) (Y := mY_X4_jumpIf) (As := [.int _, .int _]) mx_ml_X4_151 mx_y_X4_jumpIf rfl g1 (by decide) rfl (by decide) rfl (mx_dd dd_X4_doStep_2 5 (264, .invokevirtual 151, 3) rfl) g4 (by decide) P (fun h1 P => ?_)
    refine mx_goto (pc := 267) 404 (mx_dd dd_X4_doStep_2 6 (267, .goto 137, 3) rfl) rfl ?_
    refine mx_sel [] rfl ?_
    exact P
  · have P := P.2 c255
    refine mx_iconst (pc := 258) (v := (1 : Int32)) (mx_dd dd_X4_doStep_2 1 (258, .iconst 1, 1) rfl) (by decide) ?_
    refine mx_goto (pc := 259) 263 (mx_dd dd_X4_doStep_2 2 (259, .goto 4, 3) rfl) rfl ?_
    refine mx_iload_n (pc := 263) 1 (mx_dd dd_X4_doStep_2 4 (263, .iload_n 3, 1) rfl) rfl rfl ?_
    obtain ⟨g5, P⟩ := P
    refine mx_cVV (pc := 264) (Y := mY_X4_jumpIf) (As := [.int _, .int _]) mx_ml_X4_151 mx_y_X4_jumpIf rfl g1 (by decide) rfl (by decide) rfl (mx_dd dd_X4_doStep_2 5 (264, .invokevirtual 151, 3) rfl) g5 (by decide) P (fun h2 P => ?_)
    refine mx_goto (pc := 267) 404 (mx_dd dd_X4_doStep_2 6 (267, .goto 137, 3) rfl) rfl ?_
    refine mx_sel [] rfl ?_
    exact P
theorem b_X4_doStep_270 {d : Nat} {h : mxH} {Q : mxRes → mxH → Prop} (x0 : Nat) (x3 : Int32)
    (P : hpK h x0 = 4 ∧ ∃ b1 : Nat, hpR h x0 10 = some b1 ∧ hpK h b1 = 8 ∧ (((hpI h b1 6) = 0 → 1 ≤ d ∧ mx_SM mY_X4_jumpIf (d - 1) [.ref x0, .int (0 : Int32), .int x3] h (mx_KV (fun h1 => mx_SX mY_X4_doStep d 404 [] [] h1 Q) (mx_XX mY_X4_doStep Q))) ∧ (¬ (hpI h b1 6) = 0 → 1 ≤ d ∧ mx_SM mY_X4_jumpIf (d - 1) [.ref x0, .int (1 : Int32), .int x3] h (mx_KV (fun h2 => mx_SX mY_X4_doStep d 404 [] [] h2 Q) (mx_XX mY_X4_doStep Q))))) : mx_SX mY_X4_doStep d 270 [(0, .ref x0), (3, .int x3)] [] h Q := by
  refine mx_aload_n (pc := 270) 0 (mx_dd dd_X4_doStep_2 7 (270, .aload_n 0, 1) rfl) rfl rfl ?_
  refine mx_aload_n (pc := 271) 0 (mx_dd dd_X4_doStep_2 8 (271, .aload_n 0, 1) rfl) rfl rfl ?_
  obtain ⟨g1, P⟩ := P
  obtain ⟨b1, g2, P⟩ := P
  refine mx_getR (pc := 272) mx_fl_X4_51 g1 rfl g2 (mx_dd dd_X4_doStep_2 9 (272, .getfield 51, 3) rfl) ?_
  obtain ⟨g3, P⟩ := P
  refine mx_getI (pc := 275) mx_fl_X4_142 g3 rfl (mx_dd dd_X4_doStep_2 10 (275, .getfield 142, 3) rfl) ?_
  refine mx_if_eq (pc := 278) 285 (mx_dd dd_X4_doStep_2 11 (278, .ifCond .eq 7, 3) rfl) rfl (fun c278 => ?_) (fun c278 => ?_)
  · have P := P.1 c278
    refine mx_iconst (pc := 285) (v := (0 : Int32)) (mx_dd dd_X4_doStep_2 14 (285, .iconst 0, 1) rfl) (by decide) ?_
    refine mx_iload_n (pc := 286) 1 (mx_dd dd_X4_doStep_2 15 (286, .iload_n 3, 1) rfl) rfl rfl ?_
    obtain ⟨g4, P⟩ := P
    refine mx_cVV (pc := 287) (Y := mY_X4_jumpIf) (As := [.int _, .int _]) mx_ml_X4_151 mx_y_X4_jumpIf rfl g1 (by decide) rfl (by decide) rfl (mx_dd dd_X4_doStep_2 16 (287, .invokevirtual 151, 3) rfl) g4 (by decide) P (fun h1 P => ?_)
    refine mx_goto (pc := 290) 404 (mx_dd dd_X4_doStep_2 17 (290, .goto 114, 3) rfl) rfl ?_
    refine mx_sel [] rfl ?_
    exact P
  · have P := P.2 c278
    refine mx_iconst (pc := 281) (v := (1 : Int32)) (mx_dd dd_X4_doStep_2 12 (281, .iconst 1, 1) rfl) (by decide) ?_
    refine mx_goto (pc := 282) 286 (mx_dd dd_X4_doStep_2 13 (282, .goto 4, 3) rfl) rfl ?_
    refine mx_iload_n (pc := 286) 1 (mx_dd dd_X4_doStep_2 15 (286, .iload_n 3, 1) rfl) rfl rfl ?_
    obtain ⟨g5, P⟩ := P
    refine mx_cVV (pc := 287) (Y := mY_X4_jumpIf) (As := [.int _, .int _]) mx_ml_X4_151 mx_y_X4_jumpIf rfl g1 (by decide) rfl (by decide) rfl (mx_dd dd_X4_doStep_2 16 (287, .invokevirtual 151, 3) rfl) g5 (by decide) P (fun h2 P => ?_)
    refine mx_goto (pc := 290) 404 (mx_dd dd_X4_doStep_2 17 (290, .goto 114, 3) rfl) rfl ?_
    refine mx_sel [] rfl ?_
    exact P
theorem b_X4_doStep_293 {d : Nat} {h : mxH} {Q : mxRes → mxH → Prop} (x0 : Nat)
    (P : 1 ≤ d ∧ hpK h x0 = 4 ∧ mx_SM mY_X4_push (d - 1) [.ref x0, .int (5 : Int32), .int (0 : Int32), .int (0 : Int32), .int (0 : Int32)] h (mx_KV (fun h1 => mx_SX mY_X4_doStep d 404 [] [] h1 Q) (mx_XX mY_X4_doStep Q))) : mx_SX mY_X4_doStep d 293 [(0, .ref x0)] [] h Q := by
  refine mx_aload_n (pc := 293) 0 (mx_dd dd_X4_doStep_2 18 (293, .aload_n 0, 1) rfl) rfl rfl ?_
  refine mx_iconst (pc := 294) (v := (5 : Int32)) (mx_dd dd_X4_doStep_2 19 (294, .iconst 5, 1) rfl) (by decide) ?_
  refine mx_iconst (pc := 295) (v := (0 : Int32)) (mx_dd dd_X4_doStep_2 20 (295, .iconst 0, 1) rfl) (by decide) ?_
  refine mx_iconst (pc := 296) (v := (0 : Int32)) (mx_dd dd_X4_doStep_2 21 (296, .iconst 0, 1) rfl) (by decide) ?_
  refine mx_iconst (pc := 297) (v := (0 : Int32)) (mx_dd dd_X4_doStep_2 22 (297, .iconst 0, 1) rfl) (by decide) ?_
  obtain ⟨g1, P⟩ := P
  obtain ⟨g2, P⟩ := P
  refine mx_cVV (pc := 298) (Y := mY_X4_push) (As := [.int _, .int _, .int _, .int _]) mx_ml_X4_155 mx_y_X4_push rfl g2 (by decide) rfl (by decide) rfl (mx_dd dd_X4_doStep_2 23 (298, .invokevirtual 155, 3) rfl) g1 (by decide) P (fun h1 P => ?_)
  refine mx_goto (pc := 301) 404 (mx_dd dd_X4_doStep_2 24 (301, .goto 103, 3) rfl) rfl ?_
  refine mx_sel [] rfl ?_
  exact P
theorem b_X4_doStep_304 {d : Nat} {h : mxH} {Q : mxRes → mxH → Prop} (x0 : Nat) (x3 : Int32)
    (P : 1 ≤ d ∧ hpK h x0 = 4 ∧ mx_SM mY_X4_testLoop (d - 1) [.ref x0, .int x3] h (mx_KV (fun h1 => mx_SX mY_X4_doStep d 404 [] [] h1 Q) (mx_XX mY_X4_doStep Q))) : mx_SX mY_X4_doStep d 304 [(0, .ref x0), (3, .int x3)] [] h Q := by
  refine mx_aload_n (pc := 304) 0 (mx_dd dd_X4_doStep_2 25 (304, .aload_n 0, 1) rfl) rfl rfl ?_
  refine mx_iload_n (pc := 305) 1 (mx_dd dd_X4_doStep_2 26 (305, .iload_n 3, 1) rfl) rfl rfl ?_
  obtain ⟨g1, P⟩ := P
  obtain ⟨g2, P⟩ := P
  refine mx_cVV (pc := 306) (Y := mY_X4_testLoop) (As := [.int _]) mx_ml_X4_159 mx_y_X4_testLoop rfl g2 (by decide) rfl (by decide) rfl (mx_dd dd_X4_doStep_2 27 (306, .invokevirtual 159, 3) rfl) g1 (by decide) P (fun h1 P => ?_)
  refine mx_goto (pc := 309) 404 (mx_dd dd_X4_doStep_2 28 (309, .goto 95, 3) rfl) rfl ?_
  refine mx_sel [] rfl ?_
  exact P
theorem b_X4_doStep_312 {d : Nat} {h : mxH} {Q : mxRes → mxH → Prop} (x0 : Nat) (x3 : Int32)
    (P : hpK h x0 = 4 ∧ ∃ b1 : Nat, hpR h x0 10 = some b1 ∧ hpK h b1 = 8 ∧ 1 ≤ d ∧ mx_SM mY_X4_setField (d - 1) [.ref x0, .int (1 : Int32), .int (hpI h b1 6)] h (mx_KV (fun h1 => hpK h1 x0 = 4 ∧ ∀ h2 : mxH, h2 = hsI h1 x0 11 x3 → mx_SX mY_X4_doStep d 404 [] [] h2 Q) (mx_XX mY_X4_doStep Q))) : mx_SX mY_X4_doStep d 312 [(0, .ref x0), (3, .int x3)] [] h Q := by
  refine mx_aload_n (pc := 312) 0 (mx_dd dd_X4_doStep_2 29 (312, .aload_n 0, 1) rfl) rfl rfl ?_
  refine mx_iconst (pc := 313) (v := (1 : Int32)) (mx_dd dd_X4_doStep_2 30 (313, .iconst 1, 1) rfl) (by decide) ?_
  refine mx_aload_n (pc := 314) 0 (mx_dd dd_X4_doStep_2 31 (314, .aload_n 0, 1) rfl) rfl rfl ?_
  obtain ⟨g1, P⟩ := P
  obtain ⟨b1, g2, P⟩ := P
  refine mx_getR (pc := 315) mx_fl_X4_51 g1 rfl g2 (mx_dd dd_X4_doStep_2 32 (315, .getfield 51, 3) rfl) ?_
  obtain ⟨g3, P⟩ := P
  refine mx_getI (pc := 318) mx_fl_X4_142 g3 rfl (mx_dd dd_X4_doStep_2 33 (318, .getfield 142, 3) rfl) ?_
  obtain ⟨g4, P⟩ := P
  refine mx_cVV (pc := 321) (Y := mY_X4_setField) (As := [.int _, .int _]) mx_ml_X4_162 mx_y_X4_setField rfl g1 (by decide) rfl (by decide) rfl (mx_dd dd_X4_doStep_2 34 (321, .invokevirtual 162, 3) rfl) g4 (by decide) P (fun h1 P => ?_)
  refine mx_aload_n (pc := 324) 0 (mx_dd dd_X4_doStep_2 35 (324, .aload_n 0, 1) rfl) rfl rfl ?_
  refine mx_iload_n (pc := 325) 1 (mx_dd dd_X4_doStep_2 36 (325, .iload_n 3, 1) rfl) rfl rfl ?_
  obtain ⟨g5, P⟩ := P
  refine mx_putI (pc := 326) mx_fl_X4_85 g5 rfl (.inl rfl) rfl rfl (mx_dd dd_X4_doStep_2 37 (326, .putfield 85, 3) rfl) ?_
  have P := P _ rfl
  refine mx_goto (pc := 329) 404 (mx_dd dd_X4_doStep_2 38 (329, .goto 75, 3) rfl) rfl ?_
  refine mx_sel [] rfl ?_
  exact P
theorem b_X4_doStep_332 {d : Nat} {h : mxH} {Q : mxRes → mxH → Prop} (x0 : Nat) (x3 : Int32)
    (P : 1 ≤ d ∧ hpK h x0 = 4 ∧ mx_SM mY_X4_fork (d - 1) [.ref x0] h (mx_KR (fun v1 h1 => ∃ b1 : Nat, v1 = some b1 ∧ hpK h1 x0 = 4 ∧ mx_SM mY_X4_enter (d - 1) [.ref x0, .ref b1, .int (0 : Int32), .int x3, .int (0 : Int32)] h1 (mx_KV (fun h2 => mx_SX mY_X4_doStep d 404 [] [] h2 Q) (mx_XX mY_X4_doStep Q))) (mx_XX mY_X4_doStep Q))) : mx_SX mY_X4_doStep d 332 [(0, .ref x0), (3, .int x3)] [] h Q := by
  refine mx_aload_n (pc := 332) 0 (mx_dd dd_X4_doStep_2 39 (332, .aload_n 0, 1) rfl) rfl rfl ?_
  refine mx_aload_n (pc := 333) 0 (mx_dd dd_X4_doStep_3 0 (333, .aload_n 0, 1) rfl) rfl rfl ?_
  obtain ⟨g1, P⟩ := P
  obtain ⟨g2, P⟩ := P
  refine mx_cVR (pc := 334) (Y := mY_X4_fork) (As := []) mx_ml_X4_165 mx_y_X4_fork rfl g2 (by decide) rfl (by simp [Value.category]) rfl (mx_dd dd_X4_doStep_3 1 (334, .invokevirtual 165, 3) rfl) g1 (by decide) P (fun v1 h1 P => ?_)
  refine mx_iconst (pc := 337) (v := (0 : Int32)) (mx_dd dd_X4_doStep_3 2 (337, .iconst 0, 1) rfl) (by decide) ?_
  refine mx_iload_n (pc := 338) 1 (mx_dd dd_X4_doStep_3 3 (338, .iload_n 3, 1) rfl) rfl rfl ?_
  refine mx_iconst (pc := 339) (v := (0 : Int32)) (mx_dd dd_X4_doStep_3 4 (339, .iconst 0, 1) rfl) (by decide) ?_
  obtain ⟨b1, g3, P⟩ := P
  refine mx_deref3 g3 ?_
  obtain ⟨g4, P⟩ := P
  refine mx_cVV (pc := 340) (Y := mY_X4_enter) (As := [.ref _, .int _, .int _, .int _]) mx_ml_X4_169 mx_y_X4_enter rfl g4 (by decide) rfl (by decide) rfl (mx_dd dd_X4_doStep_3 5 (340, .invokevirtual 169, 3) rfl) g1 (by decide) P (fun h2 P => ?_)
  refine mx_goto (pc := 343) 404 (mx_dd dd_X4_doStep_3 6 (343, .goto 61, 3) rfl) rfl ?_
  refine mx_sel [] rfl ?_
  exact P
theorem b_X4_doStep_346 {d : Nat} {h : mxH} {Q : mxRes → mxH → Prop} (x0 : Nat) (x3 : Int32)
    (P : 1 ≤ d ∧ hpK h x0 = 4 ∧ mx_SM mY_X4_makeJob (d - 1) [.ref x0, .int x3] h (mx_KV (fun h1 => mx_SX mY_X4_doStep d 404 [] [] h1 Q) (mx_XX mY_X4_doStep Q))) : mx_SX mY_X4_doStep d 346 [(0, .ref x0), (3, .int x3)] [] h Q := by
  refine mx_aload_n (pc := 346) 0 (mx_dd dd_X4_doStep_3 7 (346, .aload_n 0, 1) rfl) rfl rfl ?_
  refine mx_iload_n (pc := 347) 1 (mx_dd dd_X4_doStep_3 8 (347, .iload_n 3, 1) rfl) rfl rfl ?_
  obtain ⟨g1, P⟩ := P
  obtain ⟨g2, P⟩ := P
  refine mx_cVV (pc := 348) (Y := mY_X4_makeJob) (As := [.int _]) mx_ml_X4_173 mx_y_X4_makeJob rfl g2 (by decide) rfl (by decide) rfl (mx_dd dd_X4_doStep_3 9 (348, .invokevirtual 173, 3) rfl) g1 (by decide) P (fun h1 P => ?_)
  refine mx_goto (pc := 351) 404 (mx_dd dd_X4_doStep_3 10 (351, .goto 53, 3) rfl) rfl ?_
  refine mx_sel [] rfl ?_
  exact P
theorem b_X4_doStep_354 {d : Nat} {h : mxH} {Q : mxRes → mxH → Prop} (x0 : Nat) (x3 : Int32)
    (P : 1 ≤ d ∧ hpK h x0 = 4 ∧ mx_SM mY_X4_push (d - 1) [.ref x0, .int (6 : Int32), .int (0 : Int32), .int (0 : Int32), .int (-1 : Int32)] h (mx_KV (fun h1 => hpK h1 x0 = 4 ∧ mx_SM mY_X4_forkPiped (d - 1) [.ref x0, .int (0 : Int32), .int x3] h1 (mx_KV (fun h2 => mx_SX mY_X4_doStep d 404 [] [] h2 Q) (mx_XX mY_X4_doStep Q))) (mx_XX mY_X4_doStep Q))) : mx_SX mY_X4_doStep d 354 [(0, .ref x0), (3, .int x3)] [] h Q := by
  refine mx_aload_n (pc := 354) 0 (mx_dd dd_X4_doStep_3 11 (354, .aload_n 0, 1) rfl) rfl rfl ?_
  refine mx_bipush (pc := 355) (v := (6 : Int32)) (mx_dd dd_X4_doStep_3 12 (355, .bipush 6, 2) rfl) (by decide) ?_
  refine mx_iconst (pc := 357) (v := (0 : Int32)) (mx_dd dd_X4_doStep_3 13 (357, .iconst 0, 1) rfl) (by decide) ?_
  refine mx_iconst (pc := 358) (v := (0 : Int32)) (mx_dd dd_X4_doStep_3 14 (358, .iconst 0, 1) rfl) (by decide) ?_
  refine mx_iconst (pc := 359) (v := (-1 : Int32)) (mx_dd dd_X4_doStep_3 15 (359, .iconst (-1), 1) rfl) (by decide) ?_
  obtain ⟨g1, P⟩ := P
  obtain ⟨g2, P⟩ := P
  refine mx_cVV (pc := 360) (Y := mY_X4_push) (As := [.int _, .int _, .int _, .int _]) mx_ml_X4_155 mx_y_X4_push rfl g2 (by decide) rfl (by decide) rfl (mx_dd dd_X4_doStep_3 16 (360, .invokevirtual 155, 3) rfl) g1 (by decide) P (fun h1 P => ?_)
  refine mx_aload_n (pc := 363) 0 (mx_dd dd_X4_doStep_3 17 (363, .aload_n 0, 1) rfl) rfl rfl ?_
  refine mx_iconst (pc := 364) (v := (0 : Int32)) (mx_dd dd_X4_doStep_3 18 (364, .iconst 0, 1) rfl) (by decide) ?_
  refine mx_iload_n (pc := 365) 1 (mx_dd dd_X4_doStep_3 19 (365, .iload_n 3, 1) rfl) rfl rfl ?_
  obtain ⟨g3, P⟩ := P
  refine mx_cVV (pc := 366) (Y := mY_X4_forkPiped) (As := [.int _, .int _]) mx_ml_X4_176 mx_y_X4_forkPiped rfl g3 (by decide) rfl (by decide) rfl (mx_dd dd_X4_doStep_3 20 (366, .invokevirtual 176, 3) rfl) g1 (by decide) P (fun h2 P => ?_)
  refine mx_goto (pc := 369) 404 (mx_dd dd_X4_doStep_3 21 (369, .goto 35, 3) rfl) rfl ?_
  refine mx_sel [] rfl ?_
  exact P
theorem b_X4_doStep_372 {d : Nat} {h : mxH} {Q : mxRes → mxH → Prop} (x0 : Nat) (x3 : Int32)
    (P : 1 ≤ d ∧ hpK h x0 = 4 ∧ mx_SM mY_X4_forkPiped (d - 1) [.ref x0, .int (0 : Int32), .int x3] h (mx_KV (fun h1 => mx_SX mY_X4_doStep d 404 [] [] h1 Q) (mx_XX mY_X4_doStep Q))) : mx_SX mY_X4_doStep d 372 [(0, .ref x0), (3, .int x3)] [] h Q := by
  refine mx_aload_n (pc := 372) 0 (mx_dd dd_X4_doStep_3 22 (372, .aload_n 0, 1) rfl) rfl rfl ?_
  refine mx_iconst (pc := 373) (v := (0 : Int32)) (mx_dd dd_X4_doStep_3 23 (373, .iconst 0, 1) rfl) (by decide) ?_
  refine mx_iload_n (pc := 374) 1 (mx_dd dd_X4_doStep_3 24 (374, .iload_n 3, 1) rfl) rfl rfl ?_
  obtain ⟨g1, P⟩ := P
  obtain ⟨g2, P⟩ := P
  refine mx_cVV (pc := 375) (Y := mY_X4_forkPiped) (As := [.int _, .int _]) mx_ml_X4_176 mx_y_X4_forkPiped rfl g2 (by decide) rfl (by decide) rfl (mx_dd dd_X4_doStep_3 25 (375, .invokevirtual 176, 3) rfl) g1 (by decide) P (fun h1 P => ?_)
  refine mx_goto (pc := 378) 404 (mx_dd dd_X4_doStep_3 26 (378, .goto 26, 3) rfl) rfl ?_
  refine mx_sel [] rfl ?_
  exact P
theorem b_X4_doStep_381 {d : Nat} {h : mxH} {Q : mxRes → mxH → Prop} (x0 : Nat) (x3 : Int32)
    (P : 1 ≤ d ∧ hpK h x0 = 4 ∧ mx_SM mY_X4_forkPiped (d - 1) [.ref x0, .int (1 : Int32), .int x3] h (mx_KV (fun h1 => mx_SX mY_X4_doStep d 404 [] [] h1 Q) (mx_XX mY_X4_doStep Q))) : mx_SX mY_X4_doStep d 381 [(0, .ref x0), (3, .int x3)] [] h Q := by
  refine mx_aload_n (pc := 381) 0 (mx_dd dd_X4_doStep_3 27 (381, .aload_n 0, 1) rfl) rfl rfl ?_
  refine mx_iconst (pc := 382) (v := (1 : Int32)) (mx_dd dd_X4_doStep_3 28 (382, .iconst 1, 1) rfl) (by decide) ?_
  refine mx_iload_n (pc := 383) 1 (mx_dd dd_X4_doStep_3 29 (383, .iload_n 3, 1) rfl) rfl rfl ?_
  obtain ⟨g1, P⟩ := P
  obtain ⟨g2, P⟩ := P
  refine mx_cVV (pc := 384) (Y := mY_X4_forkPiped) (As := [.int _, .int _]) mx_ml_X4_176 mx_y_X4_forkPiped rfl g2 (by decide) rfl (by decide) rfl (mx_dd dd_X4_doStep_3 30 (384, .invokevirtual 176, 3) rfl) g1 (by decide) P (fun h1 P => ?_)
  refine mx_goto (pc := 387) 404 (mx_dd dd_X4_doStep_3 31 (387, .goto 17, 3) rfl) rfl ?_
  refine mx_sel [] rfl ?_
  exact P
theorem b_X4_doStep_390 {d : Nat} {h : mxH} {Q : mxRes → mxH → Prop} (x0 : Nat)
    (P : 1 ≤ d ∧ hpK h x0 = 4 ∧ mx_SM mY_X4_finishPipeline (d - 1) [.ref x0] h (mx_KV (fun h1 => mx_SX mY_X4_doStep d 404 [] [] h1 Q) (mx_XX mY_X4_doStep Q))) : mx_SX mY_X4_doStep d 390 [(0, .ref x0)] [] h Q := by
  refine mx_aload_n (pc := 390) 0 (mx_dd dd_X4_doStep_3 32 (390, .aload_n 0, 1) rfl) rfl rfl ?_
  obtain ⟨g1, P⟩ := P
  obtain ⟨g2, P⟩ := P
  refine mx_cVV (pc := 391) (Y := mY_X4_finishPipeline) (As := []) mx_ml_X4_179 mx_y_X4_finishPipeline rfl g2 (by decide) rfl (by decide) rfl (mx_dd dd_X4_doStep_3 33 (391, .invokevirtual 179, 3) rfl) g1 (by decide) P (fun h1 P => ?_)
  refine mx_goto (pc := 394) 404 (mx_dd dd_X4_doStep_3 34 (394, .goto 10, 3) rfl) rfl ?_
  refine mx_sel [] rfl ?_
  exact P
theorem b_X4_doStep_397 {d : Nat} {h : mxH} {Q : mxRes → mxH → Prop} (x0 : Nat)
    (P : 1 ≤ d ∧ hpK h x0 = 4 ∧ mx_SM mY_X4_endShell (d - 1) [.ref x0] h (mx_KV (fun h1 => mx_SX mY_X4_doStep d 404 [] [] h1 Q) (mx_XX mY_X4_doStep Q))) : mx_SX mY_X4_doStep d 397 [(0, .ref x0)] [] h Q := by
  refine mx_aload_n (pc := 397) 0 (mx_dd dd_X4_doStep_3 35 (397, .aload_n 0, 1) rfl) rfl rfl ?_
  obtain ⟨g1, P⟩ := P
  obtain ⟨g2, P⟩ := P
  refine mx_cVV (pc := 398) (Y := mY_X4_endShell) (As := []) mx_ml_X4_182 mx_y_X4_endShell rfl g2 (by decide) rfl (by decide) rfl (mx_dd dd_X4_doStep_3 36 (398, .invokevirtual 182, 3) rfl) g1 (by decide) P (fun h1 P => ?_)
  refine mx_goto (pc := 401) 404 (mx_dd dd_X4_doStep_3 37 (401, .goto 3, 3) rfl) rfl ?_
  refine mx_sel [] rfl ?_
  exact P
theorem b_X4_doStep_404 {d : Nat} {h : mxH} {Q : mxRes → mxH → Prop} 
    (P : Q (.inl none) h) : mx_SX mY_X4_doStep d 404 [] [] h Q := by
  exact mx_return (pc := 404) (mx_dd dd_X4_doStep_3 38 (404, .return_, 1) rfl) rfl P
theorem b_X4_jumpIf {d : Nat} {h : mxH} {Q : mxRes → mxH → Prop} (x0 : Nat) (x1 : Int32) (x2 : Int32)
    (P : ((x1 = 0 → Q (.inl none) h) ∧ (¬ x1 = 0 → hpK h x0 = 4 ∧ ∀ h1 : mxH, h1 = hsI h x0 11 x2 → Q (.inl none) h1))) : mx_SM mY_X4_jumpIf d [.ref x0, .int x1, .int x2] h Q := by
  refine mx_SM_of (by decide) (Nat.le_of_ble_eq_true rfl) ?_
  show mx_SX mY_X4_jumpIf d 0 [(0, .ref x0), (1, .int x1), (2, .int x2)] [] h Q
  refine mx_iload_n (pc := 0) 1 (mx_dd dd_X4_jumpIf 0 (0, .iload_n 1, 1) rfl) rfl rfl ?_
  refine mx_if_eq (pc := 1) 9 (mx_dd dd_X4_jumpIf 1 (1, .ifCond .eq 8, 3) rfl) rfl (fun c1 => ?_) (fun c1 => ?_)
  · have P := P.1 c1
    exact mx_return (pc := 9) (mx_dd dd_X4_jumpIf 5 (9, .return_, 1) rfl) rfl P
  · have P := P.2 c1
    refine mx_aload_n (pc := 4) 0 (mx_dd dd_X4_jumpIf 2 (4, .aload_n 0, 1) rfl) rfl rfl ?_
    refine mx_iload_n (pc := 5) 2 (mx_dd dd_X4_jumpIf 3 (5, .iload_n 2, 1) rfl) rfl rfl ?_
    obtain ⟨g1, P⟩ := P
    refine mx_putI (pc := 6) mx_fl_X4_85 g1 rfl (.inl rfl) rfl rfl (mx_dd dd_X4_jumpIf 4 (6, .putfield 85, 3) rfl) ?_
    have P := P _ rfl
    exact mx_return (pc := 9) (mx_dd dd_X4_jumpIf 5 (9, .return_, 1) rfl) rfl P
theorem b_X4_push {d : Nat} {h : mxH} {Q : mxRes → mxH → Prop} (x0 : Nat) (x1 : Int32) (x2 : Int32) (x3 : Int32) (x4 : Int32)
    (P : hpK h x0 = 4 ∧ (((hpI h x0 4) < 0 → ∀ h1 : mxH, h1 = hsI h x0 12 (0 : Int32) → Q (.inl none) h1) ∧ (¬ (hpI h x0 4) < 0 → (((hpI h x0 4) < (3000 : Int32) → ∃ b1 : Nat, hpR h x0 3 = some b1 ∧ hpK h b1 = 14 ∧ vp_in ((hpI h x0 4) * (4 : Int32)) (hpZ h b1) ∧ ∀ h2 : mxH, h2 = hsI h b1 ((hpI h x0 4) * (4 : Int32)).toNatClampNeg x1 → ∃ b2 : Nat, hpR h2 x0 3 = some b2 ∧ hpK h2 b2 = 14 ∧ vp_in (((hpI h x0 4) * (4 : Int32)) + (1 : Int32)) (hpZ h2 b2) ∧ ∀ h3 : mxH, h3 = hsI h2 b2 (((hpI h x0 4) * (4 : Int32)) + (1 : Int32)).toNatClampNeg x2 → ∃ b3 : Nat, hpR h3 x0 3 = some b3 ∧ hpK h3 b3 = 14 ∧ vp_in (((hpI h x0 4) * (4 : Int32)) + (2 : Int32)) (hpZ h3 b3) ∧ ∀ h4 : mxH, h4 = hsI h3 b3 (((hpI h x0 4) * (4 : Int32)) + (2 : Int32)).toNatClampNeg x3 → ∃ b4 : Nat, hpR h4 x0 3 = some b4 ∧ hpK h4 b4 = 14 ∧ vp_in (((hpI h x0 4) * (4 : Int32)) + (3 : Int32)) (hpZ h4 b4) ∧ ∀ h5 : mxH, h5 = hsI h4 b4 (((hpI h x0 4) * (4 : Int32)) + (3 : Int32)).toNatClampNeg x4 → ∀ h6 : mxH, h6 = hsI h5 x0 4 ((hpI h5 x0 4) + (1 : Int32)) → Q (.inl none) h6) ∧ (¬ (hpI h x0 4) < (3000 : Int32) → ∀ h7 : mxH, h7 = hsI h x0 12 (0 : Int32) → Q (.inl none) h7))))) : mx_SM mY_X4_push d [.ref x0, .int x1, .int x2, .int x3, .int x4] h Q := by
  refine mx_SM_of (by decide) (Nat.le_of_ble_eq_true rfl) ?_
  show mx_SX mY_X4_push d 0 [(0, .ref x0), (1, .int x1), (2, .int x2), (3, .int x3), (4, .int x4)] [] h Q
  refine mx_aload_n (pc := 0) 0 (mx_dd dd_X4_push 0 (0, .aload_n 0, 1) rfl) rfl rfl ?_
  obtain ⟨g1, P⟩ := P
  refine mx_getI (pc := 1) mx_fl_X4_78 g1 rfl (mx_dd dd_X4_push 1 (1, .getfield 78, 3) rfl) ?_
  refine mx_if_lt (pc := 4) 17 (mx_dd dd_X4_push 2 (4, .ifCond .lt 13, 3) rfl) rfl (fun c4 => ?_) (fun c4 => ?_)
  · have P := P.1 c4
    refine mx_aload_n (pc := 17) 0 (mx_dd dd_X4_push 7 (17, .aload_n 0, 1) rfl) rfl rfl ?_
    refine mx_iconst (pc := 18) (v := (0 : Int32)) (mx_dd dd_X4_push 8 (18, .iconst 0, 1) rfl) (by decide) ?_
    refine mx_putI (pc := 19) mx_fl_X4_88 g1 rfl (.inl rfl) rfl rfl (mx_dd dd_X4_push 9 (19, .putfield 88, 3) rfl) ?_
    have P := P _ rfl
    exact mx_return (pc := 22) (mx_dd dd_X4_push 10 (22, .return_, 1) rfl) rfl P
  · have P := P.2 c4
    refine mx_aload_n (pc := 7) 0 (mx_dd dd_X4_push 3 (7, .aload_n 0, 1) rfl) rfl rfl ?_
    refine mx_getI (pc := 8) mx_fl_X4_78 g1 rfl (mx_dd dd_X4_push 4 (8, .getfield 78, 3) rfl) ?_
    refine mx_sipush (pc := 11) (v := (3000 : Int32)) (mx_dd dd_X4_push 5 (11, .sipush 3000, 3) rfl) (by decide) ?_
    refine mx_icmp_lt (pc := 14) 23 (mx_dd dd_X4_push 6 (14, .if_icmp .lt 9, 3) rfl) rfl (fun c14 => ?_) (fun c14 => ?_)
    · have P := P.1 c14
      refine mx_aload_n (pc := 23) 0 (mx_dd dd_X4_push 11 (23, .aload_n 0, 1) rfl) rfl rfl ?_
      refine mx_getI (pc := 24) mx_fl_X4_78 g1 rfl (mx_dd dd_X4_push 12 (24, .getfield 78, 3) rfl) ?_
      refine mx_iconst (pc := 27) (v := (4 : Int32)) (mx_dd dd_X4_push 13 (27, .iconst 4, 1) rfl) (by decide) ?_
      refine mx_imul (pc := 28) (mx_dd dd_X4_push 14 (28, .imul, 1) rfl) ?_
      refine mx_istore (pc := 29) (mx_dd dd_X4_push 15 (29, .istore 5, 2) rfl) (by decide) (lv' := [(5, _), (0, _), (1, _), (2, _), (3, _), (4, _)]) rfl ?_
      refine mx_aload_n (pc := 31) 1 (mx_dd dd_X4_push 16 (31, .aload_n 0, 1) rfl) rfl rfl ?_
      obtain ⟨b1, g2, P⟩ := P
      refine mx_getR (pc := 32) mx_fl_X4_28 g1 rfl g2 (mx_dd dd_X4_push 17 (32, .getfield 28, 3) rfl) ?_
      refine mx_iload (pc := 35) 0 (mx_dd dd_X4_push 18 (35, .iload 5, 2) rfl) rfl ?_
      refine mx_iload_n (pc := 37) 2 (mx_dd dd_X4_push 19 (37, .iload_n 1, 1) rfl) rfl rfl ?_
      obtain ⟨g3, P⟩ := P
      obtain ⟨g4, P⟩ := P
      refine mx_iast (pc := 38) g3 g4 (mx_dd dd_X4_push 20 (38, .iastore, 1) rfl) ?_
      have P := P _ rfl
      refine mx_aload_n (pc := 39) 1 (mx_dd dd_X4_push 21 (39, .aload_n 0, 1) rfl) rfl rfl ?_
      obtain ⟨b2, g5, P⟩ := P
      refine mx_getR (pc := 40) mx_fl_X4_28 g1 rfl g5 (mx_dd dd_X4_push 22 (40, .getfield 28, 3) rfl) ?_
      refine mx_iload (pc := 43) 0 (mx_dd dd_X4_push 23 (43, .iload 5, 2) rfl) rfl ?_
      refine mx_iconst (pc := 45) (v := (1 : Int32)) (mx_dd dd_X4_push 24 (45, .iconst 1, 1) rfl) (by decide) ?_
      refine mx_iadd (pc := 46) (mx_dd dd_X4_push 25 (46, .iadd, 1) rfl) ?_
      refine mx_iload_n (pc := 47) 3 (mx_dd dd_X4_push 26 (47, .iload_n 2, 1) rfl) rfl rfl ?_
      obtain ⟨g6, P⟩ := P
      obtain ⟨g7, P⟩ := P
      refine mx_iast (pc := 48) g6 g7 (mx_dd dd_X4_push 27 (48, .iastore, 1) rfl) ?_
      have P := P _ rfl
      refine mx_aload_n (pc := 49) 1 (mx_dd dd_X4_push 28 (49, .aload_n 0, 1) rfl) rfl rfl ?_
      obtain ⟨b3, g8, P⟩ := P
      refine mx_getR (pc := 50) mx_fl_X4_28 g1 rfl g8 (mx_dd dd_X4_push 29 (50, .getfield 28, 3) rfl) ?_
      refine mx_iload (pc := 53) 0 (mx_dd dd_X4_push 30 (53, .iload 5, 2) rfl) rfl ?_
      refine mx_iconst (pc := 55) (v := (2 : Int32)) (mx_dd dd_X4_push 31 (55, .iconst 2, 1) rfl) (by decide) ?_
      refine mx_iadd (pc := 56) (mx_dd dd_X4_push 32 (56, .iadd, 1) rfl) ?_
      refine mx_iload_n (pc := 57) 4 (mx_dd dd_X4_push 33 (57, .iload_n 3, 1) rfl) rfl rfl ?_
      obtain ⟨g9, P⟩ := P
      obtain ⟨g10, P⟩ := P
      refine mx_iast (pc := 58) g9 g10 (mx_dd dd_X4_push 34 (58, .iastore, 1) rfl) ?_
      have P := P _ rfl
      refine mx_aload_n (pc := 59) 1 (mx_dd dd_X4_push 35 (59, .aload_n 0, 1) rfl) rfl rfl ?_
      obtain ⟨b4, g11, P⟩ := P
      refine mx_getR (pc := 60) mx_fl_X4_28 g1 rfl g11 (mx_dd dd_X4_push 36 (60, .getfield 28, 3) rfl) ?_
      refine mx_iload (pc := 63) 0 (mx_dd dd_X4_push 37 (63, .iload 5, 2) rfl) rfl ?_
      refine mx_iconst (pc := 65) (v := (3 : Int32)) (mx_dd dd_X4_push 38 (65, .iconst 3, 1) rfl) (by decide) ?_
      refine mx_iadd (pc := 66) (mx_dd dd_X4_push 39 (66, .iadd, 1) rfl) ?_
      refine mx_iload (pc := 67) 5 (mx_dd dd_X4_push 40 (67, .iload 4, 2) rfl) rfl ?_
      obtain ⟨g12, P⟩ := P
      obtain ⟨g13, P⟩ := P
      refine mx_iast (pc := 69) g12 g13 (mx_dd dd_X4_push 41 (69, .iastore, 1) rfl) ?_
      have P := P _ rfl
      refine mx_aload_n (pc := 70) 1 (mx_dd dd_X4_push 42 (70, .aload_n 0, 1) rfl) rfl rfl ?_
      refine mx_dup (pc := 71) (mx_dd dd_X4_push 43 (71, .dup, 1) rfl) rfl ?_
      refine mx_getI (pc := 72) mx_fl_X4_78 g1 rfl (mx_dd dd_X4_push 44 (72, .getfield 78, 3) rfl) ?_
      refine mx_iconst (pc := 75) (v := (1 : Int32)) (mx_dd dd_X4_push 45 (75, .iconst 1, 1) rfl) (by decide) ?_
      refine mx_iadd (pc := 76) (mx_dd dd_X4_push 46 (76, .iadd, 1) rfl) ?_
      refine mx_putI (pc := 77) mx_fl_X4_78 g1 rfl (.inl rfl) rfl rfl (mx_dd dd_X4_push 47 (77, .putfield 78, 3) rfl) ?_
      have P := P _ rfl
      exact mx_return (pc := 80) (mx_dd dd_X4_push 48 (80, .return_, 1) rfl) rfl P
    · have P := P.2 c14
      refine mx_aload_n (pc := 17) 0 (mx_dd dd_X4_push 7 (17, .aload_n 0, 1) rfl) rfl rfl ?_
      refine mx_iconst (pc := 18) (v := (0 : Int32)) (mx_dd dd_X4_push 8 (18, .iconst 0, 1) rfl) (by decide) ?_
      refine mx_putI (pc := 19) mx_fl_X4_88 g1 rfl (.inl rfl) rfl rfl (mx_dd dd_X4_push 9 (19, .putfield 88, 3) rfl) ?_
      have P := P _ rfl
      exact mx_return (pc := 22) (mx_dd dd_X4_push 10 (22, .return_, 1) rfl) rfl P
theorem b_X4_field {d : Nat} {h : mxH} {Q : mxRes → mxH → Prop} (x0 : Nat) (x1 : Int32)
    (P : hpK h x0 = 4 ∧ ((((((hpI h x0 4) - (1 : Int32)) * (4 : Int32)) + x1) < 0 → Q (.inl (some (.int (0 : Int32)))) h) ∧ (¬ ((((hpI h x0 4) - (1 : Int32)) * (4 : Int32)) + x1) < 0 → ∃ b1 : Nat, hpR h x0 3 = some b1 ∧ hpK h b1 = 14 ∧ (((nI (hpZ h b1)) ≤ ((((hpI h x0 4) - (1 : Int32)) * (4 : Int32)) + x1) → Q (.inl (some (.int (0 : Int32)))) h) ∧ (¬ (nI (hpZ h b1)) ≤ ((((hpI h x0 4) - (1 : Int32)) * (4 : Int32)) + x1) → vp_in ((((hpI h x0 4) - (1 : Int32)) * (4 : Int32)) + x1) (hpZ h b1) ∧ Q (.inl (some (.int (hpI h b1 ((((hpI h x0 4) - (1 : Int32)) * (4 : Int32)) + x1).toNatClampNeg)))) h))))) : mx_SM mY_X4_field d [.ref x0, .int x1] h Q := by
  refine mx_SM_of (by decide) (Nat.le_of_ble_eq_true rfl) ?_
  show mx_SX mY_X4_field d 0 [(0, .ref x0), (1, .int x1)] [] h Q
  refine mx_aload_n (pc := 0) 0 (mx_dd dd_X4_field 0 (0, .aload_n 0, 1) rfl) rfl rfl ?_
  obtain ⟨g1, P⟩ := P
  refine mx_getI (pc := 1) mx_fl_X4_78 g1 rfl (mx_dd dd_X4_field 1 (1, .getfield 78, 3) rfl) ?_
  refine mx_iconst (pc := 4) (v := (1 : Int32)) (mx_dd dd_X4_field 2 (4, .iconst 1, 1) rfl) (by decide) ?_
  refine mx_isub (pc := 5) (mx_dd dd_X4_field 3 (5, .isub, 1) rfl) ?_
  refine mx_iconst (pc := 6) (v := (4 : Int32)) (mx_dd dd_X4_field 4 (6, .iconst 4, 1) rfl) (by decide) ?_
  refine mx_imul (pc := 7) (mx_dd dd_X4_field 5 (7, .imul, 1) rfl) ?_
  refine mx_iload_n (pc := 8) 1 (mx_dd dd_X4_field 6 (8, .iload_n 1, 1) rfl) rfl rfl ?_
  refine mx_iadd (pc := 9) (mx_dd dd_X4_field 7 (9, .iadd, 1) rfl) ?_
  refine mx_istore_n (pc := 10) (mx_dd dd_X4_field 8 (10, .istore_n 2, 1) rfl) rfl (by decide) (lv' := [(2, _), (0, _), (1, _)]) rfl ?_
  refine mx_iload_n (pc := 11) 0 (mx_dd dd_X4_field 9 (11, .iload_n 2, 1) rfl) rfl rfl ?_
  refine mx_if_lt (pc := 12) 33 (mx_dd dd_X4_field 10 (12, .ifCond .lt 21, 3) rfl) rfl (fun c12 => ?_) (fun c12 => ?_)
  · have P := P.1 c12
    refine mx_iconst (pc := 33) (v := (0 : Int32)) (mx_dd dd_X4_field 21 (33, .iconst 0, 1) rfl) (by decide) ?_
    exact mx_ireturn (pc := 34) (mx_dd dd_X4_field 22 (34, .ireturn, 1) rfl) rfl rfl P
  · have P := P.2 c12
    refine mx_iload_n (pc := 15) 0 (mx_dd dd_X4_field 11 (15, .iload_n 2, 1) rfl) rfl rfl ?_
    refine mx_aload_n (pc := 16) 1 (mx_dd dd_X4_field 12 (16, .aload_n 0, 1) rfl) rfl rfl ?_
    obtain ⟨b1, g2, P⟩ := P
    refine mx_getR (pc := 17) mx_fl_X4_28 g1 rfl g2 (mx_dd dd_X4_field 13 (17, .getfield 28, 3) rfl) ?_
    obtain ⟨g3, P⟩ := P
    refine mx_alen (pc := 20) g3 (by decide) (mx_dd dd_X4_field 14 (20, .arraylength, 1) rfl) ?_
    refine mx_icmp_ge (pc := 21) 33 (mx_dd dd_X4_field 15 (21, .if_icmp .ge 12, 3) rfl) rfl (fun c21 => ?_) (fun c21 => ?_)
    · have P := P.1 c21
      refine mx_iconst (pc := 33) (v := (0 : Int32)) (mx_dd dd_X4_field 21 (33, .iconst 0, 1) rfl) (by decide) ?_
      exact mx_ireturn (pc := 34) (mx_dd dd_X4_field 22 (34, .ireturn, 1) rfl) rfl rfl P
    · have P := P.2 c21
      refine mx_aload_n (pc := 24) 1 (mx_dd dd_X4_field 16 (24, .aload_n 0, 1) rfl) rfl rfl ?_
      refine mx_getR (pc := 25) mx_fl_X4_28 g1 rfl g2 (mx_dd dd_X4_field 17 (25, .getfield 28, 3) rfl) ?_
      refine mx_iload_n (pc := 28) 0 (mx_dd dd_X4_field 18 (28, .iload_n 2, 1) rfl) rfl rfl ?_
      obtain ⟨g4, P⟩ := P
      refine mx_iald (pc := 29) g3 g4 (mx_dd dd_X4_field 19 (29, .iaload, 1) rfl) ?_
      refine mx_goto (pc := 30) 34 (mx_dd dd_X4_field 20 (30, .goto 4, 3) rfl) rfl ?_
      exact mx_ireturn (pc := 34) (mx_dd dd_X4_field 22 (34, .ireturn, 1) rfl) rfl rfl P
theorem b_X4_setField {d : Nat} {h : mxH} {Q : mxRes → mxH → Prop} (x0 : Nat) (x1 : Int32) (x2 : Int32)
    (P : hpK h x0 = 4 ∧ ((((((hpI h x0 4) - (1 : Int32)) * (4 : Int32)) + x1) < 0 → Q (.inl none) h) ∧ (¬ ((((hpI h x0 4) - (1 : Int32)) * (4 : Int32)) + x1) < 0 → ∃ b1 : Nat, hpR h x0 3 = some b1 ∧ hpK h b1 = 14 ∧ (((nI (hpZ h b1)) ≤ ((((hpI h x0 4) - (1 : Int32)) * (4 : Int32)) + x1) → Q (.inl none) h) ∧ (¬ (nI (hpZ h b1)) ≤ ((((hpI h x0 4) - (1 : Int32)) * (4 : Int32)) + x1) → vp_in ((((hpI h x0 4) - (1 : Int32)) * (4 : Int32)) + x1) (hpZ h b1) ∧ ∀ h1 : mxH, h1 = hsI h b1 ((((hpI h x0 4) - (1 : Int32)) * (4 : Int32)) + x1).toNatClampNeg x2 → Q (.inl none) h1))))) : mx_SM mY_X4_setField d [.ref x0, .int x1, .int x2] h Q := by
  refine mx_SM_of (by decide) (Nat.le_of_ble_eq_true rfl) ?_
  show mx_SX mY_X4_setField d 0 [(0, .ref x0), (1, .int x1), (2, .int x2)] [] h Q
  refine mx_aload_n (pc := 0) 0 (mx_dd dd_X4_setField 0 (0, .aload_n 0, 1) rfl) rfl rfl ?_
  obtain ⟨g1, P⟩ := P
  refine mx_getI (pc := 1) mx_fl_X4_78 g1 rfl (mx_dd dd_X4_setField 1 (1, .getfield 78, 3) rfl) ?_
  refine mx_iconst (pc := 4) (v := (1 : Int32)) (mx_dd dd_X4_setField 2 (4, .iconst 1, 1) rfl) (by decide) ?_
  refine mx_isub (pc := 5) (mx_dd dd_X4_setField 3 (5, .isub, 1) rfl) ?_
  refine mx_iconst (pc := 6) (v := (4 : Int32)) (mx_dd dd_X4_setField 4 (6, .iconst 4, 1) rfl) (by decide) ?_
  refine mx_imul (pc := 7) (mx_dd dd_X4_setField 5 (7, .imul, 1) rfl) ?_
  refine mx_iload_n (pc := 8) 1 (mx_dd dd_X4_setField 6 (8, .iload_n 1, 1) rfl) rfl rfl ?_
  refine mx_iadd (pc := 9) (mx_dd dd_X4_setField 7 (9, .iadd, 1) rfl) ?_
  refine mx_istore_n (pc := 10) (mx_dd dd_X4_setField 8 (10, .istore_n 3, 1) rfl) rfl (by decide) (lv' := [(3, _), (0, _), (1, _), (2, _)]) rfl ?_
  refine mx_iload_n (pc := 11) 0 (mx_dd dd_X4_setField 9 (11, .iload_n 3, 1) rfl) rfl rfl ?_
  refine mx_if_lt (pc := 12) 31 (mx_dd dd_X4_setField 10 (12, .ifCond .lt 19, 3) rfl) rfl (fun c12 => ?_) (fun c12 => ?_)
  · have P := P.1 c12
    exact mx_return (pc := 31) (mx_dd dd_X4_setField 21 (31, .return_, 1) rfl) rfl P
  · have P := P.2 c12
    refine mx_iload_n (pc := 15) 0 (mx_dd dd_X4_setField 11 (15, .iload_n 3, 1) rfl) rfl rfl ?_
    refine mx_aload_n (pc := 16) 1 (mx_dd dd_X4_setField 12 (16, .aload_n 0, 1) rfl) rfl rfl ?_
    obtain ⟨b1, g2, P⟩ := P
    refine mx_getR (pc := 17) mx_fl_X4_28 g1 rfl g2 (mx_dd dd_X4_setField 13 (17, .getfield 28, 3) rfl) ?_
    obtain ⟨g3, P⟩ := P
    refine mx_alen (pc := 20) g3 (by decide) (mx_dd dd_X4_setField 14 (20, .arraylength, 1) rfl) ?_
    refine mx_icmp_ge (pc := 21) 31 (mx_dd dd_X4_setField 15 (21, .if_icmp .ge 10, 3) rfl) rfl (fun c21 => ?_) (fun c21 => ?_)
    · have P := P.1 c21
      exact mx_return (pc := 31) (mx_dd dd_X4_setField 21 (31, .return_, 1) rfl) rfl P
    · have P := P.2 c21
      refine mx_aload_n (pc := 24) 1 (mx_dd dd_X4_setField 16 (24, .aload_n 0, 1) rfl) rfl rfl ?_
      refine mx_getR (pc := 25) mx_fl_X4_28 g1 rfl g2 (mx_dd dd_X4_setField 17 (25, .getfield 28, 3) rfl) ?_
      refine mx_iload_n (pc := 28) 0 (mx_dd dd_X4_setField 18 (28, .iload_n 3, 1) rfl) rfl rfl ?_
      refine mx_iload_n (pc := 29) 3 (mx_dd dd_X4_setField 19 (29, .iload_n 2, 1) rfl) rfl rfl ?_
      obtain ⟨g4, P⟩ := P
      refine mx_iast (pc := 30) g3 g4 (mx_dd dd_X4_setField 20 (30, .iastore, 1) rfl) ?_
      have P := P _ rfl
      exact mx_return (pc := 31) (mx_dd dd_X4_setField 21 (31, .return_, 1) rfl) rfl P
theorem b_X4_pop {d : Nat} {h : mxH} {Q : mxRes → mxH → Prop} (x0 : Nat)
    (P : hpK h x0 = 4 ∧ (((hpI h x0 4) ≤ 0 → Q (.inl none) h) ∧ (¬ (hpI h x0 4) ≤ 0 → ∀ h1 : mxH, h1 = hsI h x0 4 ((hpI h x0 4) - (1 : Int32)) → Q (.inl none) h1))) : mx_SM mY_X4_pop d [.ref x0] h Q := by
  refine mx_SM_of (by decide) (Nat.le_of_ble_eq_true rfl) ?_
  show mx_SX mY_X4_pop d 0 [(0, .ref x0)] [] h Q
  refine mx_aload_n (pc := 0) 0 (mx_dd dd_X4_pop 0 (0, .aload_n 0, 1) rfl) rfl rfl ?_
  obtain ⟨g1, P⟩ := P
  refine mx_getI (pc := 1) mx_fl_X4_78 g1 rfl (mx_dd dd_X4_pop 1 (1, .getfield 78, 3) rfl) ?_
  refine mx_if_le (pc := 4) 17 (mx_dd dd_X4_pop 2 (4, .ifCond .le 13, 3) rfl) rfl (fun c4 => ?_) (fun c4 => ?_)
  · have P := P.1 c4
    exact mx_return (pc := 17) (mx_dd dd_X4_pop 9 (17, .return_, 1) rfl) rfl P
  · have P := P.2 c4
    refine mx_aload_n (pc := 7) 0 (mx_dd dd_X4_pop 3 (7, .aload_n 0, 1) rfl) rfl rfl ?_
    refine mx_dup (pc := 8) (mx_dd dd_X4_pop 4 (8, .dup, 1) rfl) rfl ?_
    refine mx_getI (pc := 9) mx_fl_X4_78 g1 rfl (mx_dd dd_X4_pop 5 (9, .getfield 78, 3) rfl) ?_
    refine mx_iconst (pc := 12) (v := (1 : Int32)) (mx_dd dd_X4_pop 6 (12, .iconst 1, 1) rfl) (by decide) ?_
    refine mx_isub (pc := 13) (mx_dd dd_X4_pop 7 (13, .isub, 1) rfl) ?_
    refine mx_putI (pc := 14) mx_fl_X4_78 g1 rfl (.inl rfl) rfl rfl (mx_dd dd_X4_pop 8 (14, .putfield 78, 3) rfl) ?_
    have P := P _ rfl
    exact mx_return (pc := 17) (mx_dd dd_X4_pop 9 (17, .return_, 1) rfl) rfl P
theorem b_X4_begin {d : Nat} {h : mxH} {Q : mxRes → mxH → Prop} (x0 : Nat) (x1 : Int32) (x2 : Int32)
    (P : hpK h x0 = 4 ∧ ∃ b1 : Nat, hpR h x0 0 = some b1 ∧ hpK h b1 = 10 ∧ (((hpI h b1 11) < (300 : Int32) → ∀ h1 : mxH, h1 = hsI h b1 11 ((hpI h b1 11) + (1 : Int32)) → ∃ b2 : Nat, hpR h1 x0 9 = some b2 ∧ 1 ≤ d ∧ hpK h1 b2 = 7 ∧ mx_SM mY_X7_redirectionsOf (d - 1) [.ref b2, .int x1] h1 (mx_KI (fun v1 h2 => ((¬ v1 = 0 → hpK h2 x0 = 4 ∧ mx_SM mY_X4_saveHandles (d - 1) [.ref x0] h2 (mx_KV (fun h3 => hpK h3 x0 = 4 ∧ ∃ b3 : Nat, hpR h3 x0 9 = some b3 ∧ hpK h3 b3 = 7 ∧ mx_SM mY_X7_redirectionsOf (d - 1) [.ref b3, .int x1] h3 (mx_KI (fun v2 h4 => mx_SX mY_X4_begin d 59 [(0, .ref x0), (1, .int x1), (2, .int x2), (3, .int v2), (4, .int (0 : Int32))] [] h4 Q) (mx_XX mY_X4_begin Q))) (mx_XX mY_X4_begin Q))) ∧ (v1 = 0 → Q (.inl none) h2))) (mx_XX mY_X4_begin Q))) ∧ (¬ (hpI h b1 11) < (300 : Int32) → 1 ≤ d ∧ mx_SM mY_X4_stop (d - 1) [.ref x0] h (mx_KV (fun h5 => Q (.inl none) h5) (mx_XX mY_X4_begin Q))))) : mx_SM mY_X4_begin d [.ref x0, .int x1, .int x2] h Q := by
  refine mx_SM_of (by decide) (Nat.le_of_ble_eq_true rfl) ?_
  show mx_SX mY_X4_begin d 0 [(0, .ref x0), (1, .int x1), (2, .int x2)] [] h Q
  refine mx_aload_n (pc := 0) 0 (mx_dd dd_X4_begin 0 (0, .aload_n 0, 1) rfl) rfl rfl ?_
  obtain ⟨g1, P⟩ := P
  obtain ⟨b1, g2, P⟩ := P
  refine mx_getR (pc := 1) mx_fl_X4_9 g1 rfl g2 (mx_dd dd_X4_begin 1 (1, .getfield 9, 3) rfl) ?_
  obtain ⟨g3, P⟩ := P
  refine mx_getI (pc := 4) mx_fl_X4_185 g3 rfl (mx_dd dd_X4_begin 2 (4, .getfield 185, 3) rfl) ?_
  refine mx_sipush (pc := 7) (v := (300 : Int32)) (mx_dd dd_X4_begin 3 (7, .sipush 300, 3) rfl) (by decide) ?_
  refine mx_icmp_lt (pc := 10) 18 (mx_dd dd_X4_begin 4 (10, .if_icmp .lt 8, 3) rfl) rfl (fun c10 => ?_) (fun c10 => ?_)
  · have P := P.1 c10
    refine mx_aload_n (pc := 18) 0 (mx_dd dd_X4_begin 8 (18, .aload_n 0, 1) rfl) rfl rfl ?_
    refine mx_getR (pc := 19) mx_fl_X4_9 g1 rfl g2 (mx_dd dd_X4_begin 9 (19, .getfield 9, 3) rfl) ?_
    refine mx_dup (pc := 22) (mx_dd dd_X4_begin 10 (22, .dup, 1) rfl) rfl ?_
    refine mx_getI (pc := 23) mx_fl_X4_185 g3 rfl (mx_dd dd_X4_begin 11 (23, .getfield 185, 3) rfl) ?_
    refine mx_iconst (pc := 26) (v := (1 : Int32)) (mx_dd dd_X4_begin 12 (26, .iconst 1, 1) rfl) (by decide) ?_
    refine mx_iadd (pc := 27) (mx_dd dd_X4_begin 13 (27, .iadd, 1) rfl) ?_
    refine mx_putI (pc := 28) mx_fl_X4_185 g3 rfl (.inl rfl) rfl rfl (mx_dd dd_X4_begin 14 (28, .putfield 185, 3) rfl) ?_
    have P := P _ rfl
    refine mx_aload_n (pc := 31) 0 (mx_dd dd_X4_begin 15 (31, .aload_n 0, 1) rfl) rfl rfl ?_
    obtain ⟨b2, g4, P⟩ := P
    refine mx_getR (pc := 32) mx_fl_X4_54 g1 rfl g4 (mx_dd dd_X4_begin 16 (32, .getfield 54, 3) rfl) ?_
    refine mx_iload_n (pc := 35) 1 (mx_dd dd_X4_begin 17 (35, .iload_n 1, 1) rfl) rfl rfl ?_
    obtain ⟨g5, P⟩ := P
    obtain ⟨g6, P⟩ := P
    refine mx_cVI (pc := 36) (Y := mY_X7_redirectionsOf) (As := [.int _]) mx_ml_X4_191 mx_y_X7_redirectionsOf rfl g6 (by decide) rfl (by decide) rfl (mx_dd dd_X4_begin 18 (36, .invokevirtual 191, 3) rfl) g5 (by decide) P (fun v1 h2 P => ?_)
    refine mx_if_ne (pc := 39) 43 (mx_dd dd_X4_begin 19 (39, .ifCond .ne 4, 3) rfl) rfl (fun c39 => ?_) (fun c39 => ?_)
    · have P := P.1 c39
      refine mx_aload_n (pc := 43) 0 (mx_dd dd_X4_begin 21 (43, .aload_n 0, 1) rfl) rfl rfl ?_
      obtain ⟨g7, P⟩ := P
      refine mx_cVV (pc := 44) (Y := mY_X4_saveHandles) (As := []) mx_ml_X4_194 mx_y_X4_saveHandles rfl g7 (by decide) rfl (by decide) rfl (mx_dd dd_X4_begin 22 (44, .invokevirtual 194, 3) rfl) g5 (by decide) P (fun h3 P => ?_)
      refine mx_aload_n (pc := 47) 0 (mx_dd dd_X4_begin 23 (47, .aload_n 0, 1) rfl) rfl rfl ?_
      obtain ⟨g8, P⟩ := P
      obtain ⟨b3, g9, P⟩ := P
      refine mx_getR (pc := 48) mx_fl_X4_54 g8 rfl g9 (mx_dd dd_X4_begin 24 (48, .getfield 54, 3) rfl) ?_
      refine mx_iload_n (pc := 51) 1 (mx_dd dd_X4_begin 25 (51, .iload_n 1, 1) rfl) rfl rfl ?_
      obtain ⟨g10, P⟩ := P
      refine mx_cVI (pc := 52) (Y := mY_X7_redirectionsOf) (As := [.int _]) mx_ml_X4_191 mx_y_X7_redirectionsOf rfl g10 (by decide) rfl (by decide) rfl (mx_dd dd_X4_begin 26 (52, .invokevirtual 191, 3) rfl) g5 (by decide) P (fun v2 h4 P => ?_)
      refine mx_istore_n (pc := 55) (mx_dd dd_X4_begin 27 (55, .istore_n 3, 1) rfl) rfl (by decide) (lv' := [(3, _), (0, _), (1, _), (2, _)]) rfl ?_
      refine mx_iconst (pc := 56) (v := (0 : Int32)) (mx_dd dd_X4_begin 28 (56, .iconst 0, 1) rfl) (by decide) ?_
      refine mx_istore (pc := 57) (mx_dd dd_X4_begin 29 (57, .istore 4, 2) rfl) (by decide) (lv' := [(4, _), (3, _), (0, _), (1, _), (2, _)]) rfl ?_
      refine mx_sel [2, 3, 4, 1, 0] rfl ?_
      exact P
    · have P := P.2 c39
      exact mx_return (pc := 42) (mx_dd dd_X4_begin 20 (42, .return_, 1) rfl) rfl P
  · have P := P.2 c10
    refine mx_aload_n (pc := 13) 0 (mx_dd dd_X4_begin 5 (13, .aload_n 0, 1) rfl) rfl rfl ?_
    obtain ⟨g11, P⟩ := P
    refine mx_cVV (pc := 14) (Y := mY_X4_stop) (As := []) mx_ml_X4_188 mx_y_X4_stop rfl g1 (by decide) rfl (by decide) rfl (mx_dd dd_X4_begin 6 (14, .invokevirtual 188, 3) rfl) g11 (by decide) P (fun h5 P => ?_)
    exact mx_return (pc := 17) (mx_dd dd_X4_begin 7 (17, .return_, 1) rfl) rfl P
theorem b_X4_begin_59 {d : Nat} {h : mxH} {Q : mxRes → mxH → Prop} (x0 : Nat) (x1 : Int32) (x2 : Int32) (x3 : Int32) (x4 : Int32)
    (P : ((x3 ≤ x4 → Q (.inl none) h) ∧ (¬ x3 ≤ x4 → hpK h x0 = 4 ∧ ∃ b1 : Nat, hpR h x0 9 = some b1 ∧ 1 ≤ d ∧ hpK h b1 = 7 ∧ mx_SM mY_X7_redirectionAt (d - 1) [.ref b1, .int x1, .int x4] h (mx_KI (fun v1 h1 => hpK h1 x0 = 4 ∧ mx_SM mY_X4_redirect (d - 1) [.ref x0, .int v1] h1 (mx_KI (fun v2 h2 => ((¬ v2 = 0 → mx_SX mY_X4_begin d 59 [(0, .ref x0), (1, .int x1), (2, .int x2), (3, .int x3), (4, .int (x4 + (1 : Int32)))] [] h2 Q) ∧ (v2 = 0 → hpK h2 x0 = 4 ∧ mx_SM mY_X4_setBackHandles (d - 1) [.ref x0, .int (1 : Int32)] h2 (mx_KV (fun h3 => hpK h3 x0 = 4 ∧ ∃ b2 : Nat, hpR h3 x0 10 = some b2 ∧ hpK h3 b2 = 8 ∧ ∀ h4 : mxH, h4 = hsI h3 b2 6 (1 : Int32) → mx_SM mY_X4_record (d - 1) [.ref x0, .int x1] h4 (mx_KV (fun h5 => hpK h5 x0 = 4 ∧ ∀ h6 : mxH, h6 = hsI h5 x0 11 x2 → Q (.inl none) h6) (mx_XX mY_X4_begin Q))) (mx_XX mY_X4_begin Q))))) (mx_XX mY_X4_begin Q))) (mx_XX mY_X4_begin Q))))) : mx_SX mY_X4_begin d 59 [(0, .ref x0), (1, .int x1), (2, .int x2), (3, .int x3), (4, .int x4)] [] h Q := by
  refine mx_iload (pc := 59) 4 (mx_dd dd_X4_begin 30 (59, .iload 4, 2) rfl) rfl ?_
  refine mx_iload_n (pc := 61) 3 (mx_dd dd_X4_begin 31 (61, .iload_n 3, 1) rfl) rfl rfl ?_
  refine mx_icmp_ge (pc := 62) 112 (mx_dd dd_X4_begin 32 (62, .if_icmp .ge 50, 3) rfl) rfl (fun c62 => ?_) (fun c62 => ?_)
  · have P := P.1 c62
    exact mx_return (pc := 112) (mx_dd dd_X4_begin 57 (112, .return_, 1) rfl) rfl P
  · have P := P.2 c62
    refine mx_aload_n (pc := 65) 0 (mx_dd dd_X4_begin 33 (65, .aload_n 0, 1) rfl) rfl rfl ?_
    refine mx_aload_n (pc := 66) 0 (mx_dd dd_X4_begin 34 (66, .aload_n 0, 1) rfl) rfl rfl ?_
    obtain ⟨g1, P⟩ := P
    obtain ⟨b1, g2, P⟩ := P
    refine mx_getR (pc := 67) mx_fl_X4_54 g1 rfl g2 (mx_dd dd_X4_begin 35 (67, .getfield 54, 3) rfl) ?_
    refine mx_iload_n (pc := 70) 1 (mx_dd dd_X4_begin 36 (70, .iload_n 1, 1) rfl) rfl rfl ?_
    refine mx_iload (pc := 71) 4 (mx_dd dd_X4_begin 37 (71, .iload 4, 2) rfl) rfl ?_
    obtain ⟨g3, P⟩ := P
    obtain ⟨g4, P⟩ := P
    refine mx_cVI (pc := 73) (Y := mY_X7_redirectionAt) (As := [.int _, .int _]) mx_ml_X4_197 mx_y_X7_redirectionAt rfl g4 (by decide) rfl (by simp [Value.category]) rfl (mx_dd dd_X4_begin 38 (73, .invokevirtual 197, 3) rfl) g3 (by decide) P (fun v1 h1 P => ?_)
    obtain ⟨g5, P⟩ := P
    refine mx_cVI (pc := 76) (Y := mY_X4_redirect) (As := [.int _]) mx_ml_X4_201 mx_y_X4_redirect rfl g5 (by decide) rfl (by decide) rfl (mx_dd dd_X4_begin 39 (76, .invokevirtual 201, 3) rfl) g3 (by decide) P (fun v2 h2 P => ?_)
    refine mx_if_ne (pc := 79) 106 (mx_dd dd_X4_begin 40 (79, .ifCond .ne 27, 3) rfl) rfl (fun c79 => ?_) (fun c79 => ?_)
    · have P := P.1 c79
      refine mx_iinc (pc := 106) 4 (mx_dd dd_X4_begin 55 (106, .iinc 4 1, 3) rfl) rfl (mx_kadd (by decide : Int32.ofInt 1 = (1 : Int32))) (by decide) (lv' := [(4, _), (0, _), (1, _), (2, _), (3, _)]) rfl ?_
      refine mx_goto (pc := 109) 59 (mx_dd dd_X4_begin 56 (109, .goto (-50), 3) rfl) rfl ?_
      refine mx_sel [1, 2, 3, 4, 0] rfl ?_
      exact P
    · have P := P.2 c79
      refine mx_aload_n (pc := 82) 0 (mx_dd dd_X4_begin 41 (82, .aload_n 0, 1) rfl) rfl rfl ?_
      refine mx_iconst (pc := 83) (v := (1 : Int32)) (mx_dd dd_X4_begin 42 (83, .iconst 1, 1) rfl) (by decide) ?_
      obtain ⟨g6, P⟩ := P
      refine mx_cVV (pc := 84) (Y := mY_X4_setBackHandles) (As := [.int _]) mx_ml_X4_205 mx_y_X4_setBackHandles rfl g6 (by decide) rfl (by decide) rfl (mx_dd dd_X4_begin 43 (84, .invokevirtual 205, 3) rfl) g3 (by decide) P (fun h3 P => ?_)
      refine mx_aload_n (pc := 87) 0 (mx_dd dd_X4_begin 44 (87, .aload_n 0, 1) rfl) rfl rfl ?_
      obtain ⟨g7, P⟩ := P
      obtain ⟨b2, g8, P⟩ := P
      refine mx_getR (pc := 88) mx_fl_X4_51 g7 rfl g8 (mx_dd dd_X4_begin 45 (88, .getfield 51, 3) rfl) ?_
      refine mx_iconst (pc := 91) (v := (1 : Int32)) (mx_dd dd_X4_begin 46 (91, .iconst 1, 1) rfl) (by decide) ?_
      obtain ⟨g9, P⟩ := P
      refine mx_putI (pc := 92) mx_fl_X4_142 g9 rfl (.inl rfl) rfl rfl (mx_dd dd_X4_begin 47 (92, .putfield 142, 3) rfl) ?_
      have P := P _ rfl
      refine mx_aload_n (pc := 95) 0 (mx_dd dd_X4_begin 48 (95, .aload_n 0, 1) rfl) rfl rfl ?_
      refine mx_iload_n (pc := 96) 1 (mx_dd dd_X4_begin 49 (96, .iload_n 1, 1) rfl) rfl rfl ?_
      refine mx_cVV (pc := 97) (Y := mY_X4_record) (As := [.int _]) mx_ml_X4_209 mx_y_X4_record rfl g7 (by decide) rfl (by decide) rfl (mx_dd dd_X4_begin 50 (97, .invokevirtual 209, 3) rfl) g3 (by decide) P (fun h5 P => ?_)
      refine mx_aload_n (pc := 100) 0 (mx_dd dd_X4_begin 51 (100, .aload_n 0, 1) rfl) rfl rfl ?_
      refine mx_iload_n (pc := 101) 2 (mx_dd dd_X4_begin 52 (101, .iload_n 2, 1) rfl) rfl rfl ?_
      obtain ⟨g10, P⟩ := P
      refine mx_putI (pc := 102) mx_fl_X4_85 g10 rfl (.inl rfl) rfl rfl (mx_dd dd_X4_begin 53 (102, .putfield 85, 3) rfl) ?_
      have P := P _ rfl
      exact mx_return (pc := 105) (mx_dd dd_X4_begin 54 (105, .return_, 1) rfl) rfl P
theorem b_X4_finish {d : Nat} {h : mxH} {Q : mxRes → mxH → Prop} (x0 : Nat) (x1 : Int32)
    (P : hpK h x0 = 4 ∧ ∃ b1 : Nat, hpR h x0 9 = some b1 ∧ 1 ≤ d ∧ hpK h b1 = 7 ∧ mx_SM mY_X7_redirectionsOf (d - 1) [.ref b1, .int x1] h (mx_KI (fun v1 h1 => ((v1 ≤ 0 → mx_SX mY_X4_finish d 54 [(0, .ref x0), (1, .int x1)] [] h1 Q) ∧ (¬ v1 ≤ 0 → hpK h1 x0 = 4 ∧ ∃ b2 : Nat, hpR h1 x0 9 = some b2 ∧ hpK h1 b2 = 7 ∧ mx_SM mY_X7_kindOf (d - 1) [.ref b2, .int x1] h1 (mx_KI (fun v2 h2 => ((¬ v2 = (6 : Int32) → mx_SX mY_X4_finish d 39 [(0, .ref x0), (1, .int x1)] [] h2 Q) ∧ (v2 = (6 : Int32) → hpK h2 x0 = 4 ∧ ∃ b3 : Nat, hpR h2 x0 9 = some b3 ∧ hpK h2 b3 = 7 ∧ mx_SM mY_X7_argumentsOf (d - 1) [.ref b3, .int x1] h2 (mx_KI (fun v3 h3 => ((¬ v3 = 0 → mx_SX mY_X4_finish d 39 [(0, .ref x0), (1, .int x1)] [] h3 Q) ∧ (v3 = 0 → ((¬ (1 : Int32) = 0 → hpK h3 x0 = 4 ∧ mx_SM mY_X4_setBackHandles (d - 1) [.ref x0, .int (0 : Int32)] h3 (mx_KV (fun h4 => mx_SX mY_X4_finish d 54 [(0, .ref x0), (1, .int x1)] [] h4 Q) (mx_XX mY_X4_finish Q))) ∧ ((1 : Int32) = 0 → hpK h3 x0 = 4 ∧ mx_SM mY_X4_setBackHandles (d - 1) [.ref x0, .int (1 : Int32)] h3 (mx_KV (fun h5 => mx_SX mY_X4_finish d 54 [(0, .ref x0), (1, .int x1)] [] h5 Q) (mx_XX mY_X4_finish Q))))))) (mx_XX mY_X4_finish Q))))) (mx_XX mY_X4_finish Q))))) (mx_XX mY_X4_finish Q))) : mx_SM mY_X4_finish d [.ref x0, .int x1] h Q := by
  refine mx_SM_of (by decide) (Nat.le_of_ble_eq_true rfl) ?_
  show mx_SX mY_X4_finish d 0 [(0, .ref x0), (1, .int x1)] [] h Q
  refine mx_aload_n (pc := 0) 0 (mx_dd dd_X4_finish 0 (0, .aload_n 0, 1) rfl) rfl rfl ?_
  obtain ⟨g1, P⟩ := P
  obtain ⟨b1, g2, P⟩ := P
  refine mx_getR (pc := 1) mx_fl_X4_54 g1 rfl g2 (mx_dd dd_X4_finish 1 (1, .getfield 54, 3) rfl) ?_
  refine mx_iload_n (pc := 4) 1 (mx_dd dd_X4_finish 2 (4, .iload_n 1, 1) rfl) rfl rfl ?_
  obtain ⟨g3, P⟩ := P
  obtain ⟨g4, P⟩ := P
  refine mx_cVI (pc := 5) (Y := mY_X7_redirectionsOf) (As := [.int _]) mx_ml_X4_191 mx_y_X7_redirectionsOf rfl g4 (by decide) rfl (by decide) rfl (mx_dd dd_X4_finish 3 (5, .invokevirtual 191, 3) rfl) g3 (by decide) P (fun v1 h1 P => ?_)
  refine mx_if_le (pc := 8) 54 (mx_dd dd_X4_finish 4 (8, .ifCond .le 46, 3) rfl) rfl (fun c8 => ?_) (fun c8 => ?_)
  · have P := P.1 c8
    exact P
  · have P := P.2 c8
    refine mx_aload_n (pc := 11) 0 (mx_dd dd_X4_finish 5 (11, .aload_n 0, 1) rfl) rfl rfl ?_
    obtain ⟨g5, P⟩ := P
    obtain ⟨b2, g6, P⟩ := P
    refine mx_getR (pc := 12) mx_fl_X4_54 g5 rfl g6 (mx_dd dd_X4_finish 6 (12, .getfield 54, 3) rfl) ?_
    refine mx_iload_n (pc := 15) 1 (mx_dd dd_X4_finish 7 (15, .iload_n 1, 1) rfl) rfl rfl ?_
    obtain ⟨g7, P⟩ := P
    refine mx_cVI (pc := 16) (Y := mY_X7_kindOf) (As := [.int _]) mx_ml_X4_212 mx_y_X7_kindOf rfl g7 (by decide) rfl (by decide) rfl (mx_dd dd_X4_finish 8 (16, .invokevirtual 212, 3) rfl) g3 (by decide) P (fun v2 h2 P => ?_)
    refine mx_bipush (pc := 19) (v := (6 : Int32)) (mx_dd dd_X4_finish 9 (19, .bipush 6, 2) rfl) (by decide) ?_
    refine mx_icmp_ne (pc := 21) 39 (mx_dd dd_X4_finish 10 (21, .if_icmp .ne 18, 3) rfl) rfl (fun c21 => ?_) (fun c21 => ?_)
    · have P := P.1 c21
      exact P
    · have P := P.2 c21
      refine mx_aload_n (pc := 24) 0 (mx_dd dd_X4_finish 11 (24, .aload_n 0, 1) rfl) rfl rfl ?_
      obtain ⟨g8, P⟩ := P
      obtain ⟨b3, g9, P⟩ := P
      refine mx_getR (pc := 25) mx_fl_X4_54 g8 rfl g9 (mx_dd dd_X4_finish 12 (25, .getfield 54, 3) rfl) ?_
      refine mx_iload_n (pc := 28) 1 (mx_dd dd_X4_finish 13 (28, .iload_n 1, 1) rfl) rfl rfl ?_
      obtain ⟨g10, P⟩ := P
      refine mx_cVI (pc := 29) (Y := mY_X7_argumentsOf) (As := [.int _]) mx_ml_X4_215 mx_y_X7_argumentsOf rfl g10 (by decide) rfl (by decide) rfl (mx_dd dd_X4_finish 14 (29, .invokevirtual 215, 3) rfl) g3 (by decide) P (fun v3 h3 P => ?_)
      refine mx_if_ne (pc := 32) 39 (mx_dd dd_X4_finish 15 (32, .ifCond .ne 7, 3) rfl) rfl (fun c32 => ?_) (fun c32 => ?_)
      · have P := P.1 c32
        exact P
      · have P := P.2 c32
        refine mx_iconst (pc := 35) (v := (1 : Int32)) (mx_dd dd_X4_finish 16 (35, .iconst 1, 1) rfl) (by decide) ?_
        refine mx_goto (pc := 36) 40 (mx_dd dd_X4_finish 17 (36, .goto 4, 3) rfl) rfl ?_
        refine mx_istore_n (pc := 40) (mx_dd dd_X4_finish 19 (40, .istore_n 2, 1) rfl) rfl (by decide) (lv' := [(2, _), (0, _), (1, _)]) rfl ?_
        refine mx_aload_n (pc := 41) 1 (mx_dd dd_X4_finish 20 (41, .aload_n 0, 1) rfl) rfl rfl ?_
        refine mx_iload_n (pc := 42) 0 (mx_dd dd_X4_finish 21 (42, .iload_n 2, 1) rfl) rfl rfl ?_
        refine mx_if_ne (pc := 43) 50 (mx_dd dd_X4_finish 22 (43, .ifCond .ne 7, 3) rfl) rfl (fun c43 => ?_) (fun c43 => ?_)
        · have P := P.1 c43
          refine mx_iconst (pc := 50) (v := (0 : Int32)) (mx_dd dd_X4_finish 25 (50, .iconst 0, 1) rfl) (by decide) ?_
          obtain ⟨g11, P⟩ := P
          refine mx_cVV (pc := 51) (Y := mY_X4_setBackHandles) (As := [.int _]) mx_ml_X4_205 mx_y_X4_setBackHandles rfl g11 (by decide) rfl (by decide) rfl (mx_dd dd_X4_finish 26 (51, .invokevirtual 205, 3) rfl) g3 (by decide) P (fun h4 P => ?_)
          refine mx_sel [1, 2] rfl ?_
          exact P
        · have P := P.2 c43
          refine mx_iconst (pc := 46) (v := (1 : Int32)) (mx_dd dd_X4_finish 23 (46, .iconst 1, 1) rfl) (by decide) ?_
          refine mx_goto (pc := 47) 51 (mx_dd dd_X4_finish 24 (47, .goto 4, 3) rfl) rfl ?_
          obtain ⟨g12, P⟩ := P
          refine mx_cVV (pc := 51) (Y := mY_X4_setBackHandles) (As := [.int _]) mx_ml_X4_205 mx_y_X4_setBackHandles rfl g12 (by decide) rfl (by decide) rfl (mx_dd dd_X4_finish 26 (51, .invokevirtual 205, 3) rfl) g3 (by decide) P (fun h5 P => ?_)
          refine mx_sel [1, 2] rfl ?_
          exact P
theorem b_X4_finish_39 {d : Nat} {h : mxH} {Q : mxRes → mxH → Prop} (x0 : Nat) (x1 : Int32)
    (P : ((¬ (0 : Int32) = 0 → 1 ≤ d ∧ hpK h x0 = 4 ∧ mx_SM mY_X4_setBackHandles (d - 1) [.ref x0, .int (0 : Int32)] h (mx_KV (fun h1 => mx_SX mY_X4_finish d 54 [(0, .ref x0), (1, .int x1)] [] h1 Q) (mx_XX mY_X4_finish Q))) ∧ ((0 : Int32) = 0 → 1 ≤ d ∧ hpK h x0 = 4 ∧ mx_SM mY_X4_setBackHandles (d - 1) [.ref x0, .int (1 : Int32)] h (mx_KV (fun h2 => mx_SX mY_X4_finish d 54 [(0, .ref x0), (1, .int x1)] [] h2 Q) (mx_XX mY_X4_finish Q))))) : mx_SX mY_X4_finish d 39 [(0, .ref x0), (1, .int x1)] [] h Q := by
  refine mx_iconst (pc := 39) (v := (0 : Int32)) (mx_dd dd_X4_finish 18 (39, .iconst 0, 1) rfl) (by decide) ?_
  refine mx_istore_n (pc := 40) (mx_dd dd_X4_finish 19 (40, .istore_n 2, 1) rfl) rfl (by decide) (lv' := [(2, _), (0, _), (1, _)]) rfl ?_
  refine mx_aload_n (pc := 41) 1 (mx_dd dd_X4_finish 20 (41, .aload_n 0, 1) rfl) rfl rfl ?_
  refine mx_iload_n (pc := 42) 0 (mx_dd dd_X4_finish 21 (42, .iload_n 2, 1) rfl) rfl rfl ?_
  refine mx_if_ne (pc := 43) 50 (mx_dd dd_X4_finish 22 (43, .ifCond .ne 7, 3) rfl) rfl (fun c43 => ?_) (fun c43 => ?_)
  · have P := P.1 c43
    refine mx_iconst (pc := 50) (v := (0 : Int32)) (mx_dd dd_X4_finish 25 (50, .iconst 0, 1) rfl) (by decide) ?_
    obtain ⟨g1, P⟩ := P
    obtain ⟨g2, P⟩ := P
    refine mx_cVV (pc := 51) (Y := mY_X4_setBackHandles) (As := [.int _]) mx_ml_X4_205 mx_y_X4_setBackHandles rfl g2 (by decide) rfl (by decide) rfl (mx_dd dd_X4_finish 26 (51, .invokevirtual 205, 3) rfl) g1 (by decide) P (fun h1 P => ?_)
    refine mx_sel [1, 2] rfl ?_
    exact P
  · have P := P.2 c43
    refine mx_iconst (pc := 46) (v := (1 : Int32)) (mx_dd dd_X4_finish 23 (46, .iconst 1, 1) rfl) (by decide) ?_
    refine mx_goto (pc := 47) 51 (mx_dd dd_X4_finish 24 (47, .goto 4, 3) rfl) rfl ?_
    obtain ⟨g3, P⟩ := P
    obtain ⟨g4, P⟩ := P
    refine mx_cVV (pc := 51) (Y := mY_X4_setBackHandles) (As := [.int _]) mx_ml_X4_205 mx_y_X4_setBackHandles rfl g4 (by decide) rfl (by decide) rfl (mx_dd dd_X4_finish 26 (51, .invokevirtual 205, 3) rfl) g3 (by decide) P (fun h2 P => ?_)
    refine mx_sel [1, 2] rfl ?_
    exact P
theorem b_X4_finish_54 {d : Nat} {h : mxH} {Q : mxRes → mxH → Prop} (x0 : Nat) (x1 : Int32)
    (P : 1 ≤ d ∧ hpK h x0 = 4 ∧ mx_SM mY_X4_record (d - 1) [.ref x0, .int x1] h (mx_KV (fun h1 => Q (.inl none) h1) (mx_XX mY_X4_finish Q))) : mx_SX mY_X4_finish d 54 [(0, .ref x0), (1, .int x1)] [] h Q := by
  refine mx_aload_n (pc := 54) 0 (mx_dd dd_X4_finish 27 (54, .aload_n 0, 1) rfl) rfl rfl ?_
  refine mx_iload_n (pc := 55) 1 (mx_dd dd_X4_finish 28 (55, .iload_n 1, 1) rfl) rfl rfl ?_
  obtain ⟨g1, P⟩ := P
  obtain ⟨g2, P⟩ := P
  refine mx_cVV (pc := 56) (Y := mY_X4_record) (As := [.int _]) mx_ml_X4_209 mx_y_X4_record rfl g2 (by decide) rfl (by decide) rfl (mx_dd dd_X4_finish 29 (56, .invokevirtual 209, 3) rfl) g1 (by decide) P (fun h1 P => ?_)
  exact mx_return (pc := 59) (mx_dd dd_X4_finish 30 (59, .return_, 1) rfl) rfl P
theorem b_X4_record {d : Nat} {h : mxH} {Q : mxRes → mxH → Prop} (x0 : Nat) (x1 : Int32)
    (P : hpK h x0 = 4 ∧ ∃ b1 : Nat, hpR h x0 9 = some b1 ∧ 1 ≤ d ∧ hpK h b1 = 7 ∧ mx_SM mY_X7_kindOf (d - 1) [.ref b1, .int x1] h (mx_KI (fun v1 h1 => ((v1 = (-2 : Int32) → Q (.inl none) h1) ∧ (¬ v1 = (-2 : Int32) → hpK h1 x0 = 4 ∧ ∃ b2 : Nat, hpR h1 x0 0 = some b2 ∧ ∃ b3 : Nat, hpR h1 x0 9 = some b3 ∧ hpK h1 b3 = 7 ∧ mx_SM mY_X7_offsetOf (d - 1) [.ref b3, .int x1] h1 (mx_KI (fun v2 h2 => hpK h2 x0 = 4 ∧ ∃ b4 : Nat, hpR h2 x0 10 = some b4 ∧ hpK h2 b4 = 8 ∧ hpK h2 b2 = 10 ∧ mx_SM mY_X10_addRecord (d - 1) [.ref b2, .int v2, .int (hpI h2 b4 6), .int (hpI h2 b4 7)] h2 (mx_KV (fun h3 => Q (.inl none) h3) (mx_XX mY_X4_record Q))) (mx_XX mY_X4_record Q))))) (mx_XX mY_X4_record Q))) : mx_SM mY_X4_record d [.ref x0, .int x1] h Q := by
  refine mx_SM_of (by decide) (Nat.le_of_ble_eq_true rfl) ?_
  show mx_SX mY_X4_record d 0 [(0, .ref x0), (1, .int x1)] [] h Q
  refine mx_aload_n (pc := 0) 0 (mx_dd dd_X4_record 0 (0, .aload_n 0, 1) rfl) rfl rfl ?_
  obtain ⟨g1, P⟩ := P
  obtain ⟨b1, g2, P⟩ := P
  refine mx_getR (pc := 1) mx_fl_X4_54 g1 rfl g2 (mx_dd dd_X4_record 1 (1, .getfield 54, 3) rfl) ?_
  refine mx_iload_n (pc := 4) 1 (mx_dd dd_X4_record 2 (4, .iload_n 1, 1) rfl) rfl rfl ?_
  obtain ⟨g3, P⟩ := P
  obtain ⟨g4, P⟩ := P
  refine mx_cVI (pc := 5) (Y := mY_X7_kindOf) (As := [.int _]) mx_ml_X4_212 mx_y_X7_kindOf rfl g4 (by decide) rfl (by decide) rfl (mx_dd dd_X4_record 3 (5, .invokevirtual 212, 3) rfl) g3 (by decide) P (fun v1 h1 P => ?_)
  refine mx_bipush (pc := 8) (v := (-2 : Int32)) (mx_dd dd_X4_record 4 (8, .bipush (-2), 2) rfl) (by decide) ?_
  refine mx_icmp_eq (pc := 10) 42 (mx_dd dd_X4_record 5 (10, .if_icmp .eq 32, 3) rfl) rfl (fun c10 => ?_) (fun c10 => ?_)
  · have P := P.1 c10
    exact mx_return (pc := 42) (mx_dd dd_X4_record 19 (42, .return_, 1) rfl) rfl P
  · have P := P.2 c10
    refine mx_aload_n (pc := 13) 0 (mx_dd dd_X4_record 6 (13, .aload_n 0, 1) rfl) rfl rfl ?_
    obtain ⟨g5, P⟩ := P
    obtain ⟨b2, g6, P⟩ := P
    refine mx_getR (pc := 14) mx_fl_X4_9 g5 rfl g6 (mx_dd dd_X4_record 7 (14, .getfield 9, 3) rfl) ?_
    refine mx_aload_n (pc := 17) 0 (mx_dd dd_X4_record 8 (17, .aload_n 0, 1) rfl) rfl rfl ?_
    obtain ⟨b3, g7, P⟩ := P
    refine mx_getR (pc := 18) mx_fl_X4_54 g5 rfl g7 (mx_dd dd_X4_record 9 (18, .getfield 54, 3) rfl) ?_
    refine mx_iload_n (pc := 21) 1 (mx_dd dd_X4_record 10 (21, .iload_n 1, 1) rfl) rfl rfl ?_
    obtain ⟨g8, P⟩ := P
    refine mx_cVI (pc := 22) (Y := mY_X7_offsetOf) (As := [.int _]) mx_ml_X4_218 mx_y_X7_offsetOf rfl g8 (by decide) rfl (by simp [Value.category]) rfl (mx_dd dd_X4_record 11 (22, .invokevirtual 218, 3) rfl) g3 (by decide) P (fun v2 h2 P => ?_)
    refine mx_aload_n (pc := 25) 0 (mx_dd dd_X4_record 12 (25, .aload_n 0, 1) rfl) rfl rfl ?_
    obtain ⟨g9, P⟩ := P
    obtain ⟨b4, g10, P⟩ := P
    refine mx_getR (pc := 26) mx_fl_X4_51 g9 rfl g10 (mx_dd dd_X4_record 13 (26, .getfield 51, 3) rfl) ?_
    obtain ⟨g11, P⟩ := P
    refine mx_getI (pc := 29) mx_fl_X4_142 g11 rfl (mx_dd dd_X4_record 14 (29, .getfield 142, 3) rfl) ?_
    refine mx_aload_n (pc := 32) 0 (mx_dd dd_X4_record 15 (32, .aload_n 0, 1) rfl) rfl rfl ?_
    refine mx_getR (pc := 33) mx_fl_X4_51 g9 rfl g10 (mx_dd dd_X4_record 16 (33, .getfield 51, 3) rfl) ?_
    refine mx_getI (pc := 36) mx_fl_X4_221 g11 rfl (mx_dd dd_X4_record 17 (36, .getfield 221, 3) rfl) ?_
    obtain ⟨g12, P⟩ := P
    refine mx_cVV (pc := 39) (Y := mY_X10_addRecord) (As := [.int _, .int _, .int _]) mx_ml_X4_224 mx_y_X10_addRecord rfl g12 (by decide) rfl (by decide) rfl (mx_dd dd_X4_record 18 (39, .invokevirtual 224, 3) rfl) g3 (by decide) P (fun h3 P => ?_)
    exact mx_return (pc := 42) (mx_dd dd_X4_record 19 (42, .return_, 1) rfl) rfl P
theorem b_X4_saveHandles {d : Nat} {h : mxH} {Q : mxRes → mxH → Prop} (x0 : Nat)
    (P : 1 ≤ d ∧ hpK h x0 = 4 ∧ mx_SM mY_X4_push (d - 1) [.ref x0, .int (1 : Int32), .int (0 : Int32), .int (0 : Int32), .int (0 : Int32)] h (mx_KV (fun h1 => hpK h1 x0 = 4 ∧ (((hpI h1 x0 6) < 0 → Q (.inl none) h1) ∧ (¬ (hpI h1 x0 6) < 0 → (((hpI h1 x0 6) < (300 : Int32) → ∃ b1 : Nat, hpR h1 x0 5 = some b1 ∧ hpK h1 b1 = 17 ∧ vp_in (hpI h1 x0 6) (hpZ h1 b1) ∧ ((hpR h1 b1 (hpI h1 x0 6).toNatClampNeg = none → ∀ (b3 : Nat) (h2 : mxH), b3 = hpN h1 → h2 = hnw h1 2 0 2 → hpK h2 x0 = 4 ∧ ∃ b4 : Nat, hpR h2 x0 1 = some b4 ∧ mx_SM mY_X2_init (d - 1) [.ref b3, .ref b4] h2 (mx_KV (fun h3 => hpK h3 b1 = 17 ∧ vp_in (hpI h1 x0 6) (hpZ h3 b1) ∧ hpK h3 b3 = 2 ∧ ∀ h4 : mxH, h4 = hsR h3 b1 (hpI h1 x0 6).toNatClampNeg (some b3) → mx_SX mY_X4_saveHandles d 58 [(0, .ref x0)] [] h4 Q) fun _ _ => False)) ∧ (∀ b2 : Nat, hpR h1 b1 (hpI h1 x0 6).toNatClampNeg = some b2 → mx_SX mY_X4_saveHandles d 58 [(0, .ref x0)] [] h1 Q))) ∧ (¬ (hpI h1 x0 6) < (300 : Int32) → Q (.inl none) h1))))) (mx_XX mY_X4_saveHandles Q))) : mx_SM mY_X4_saveHandles d [.ref x0] h Q := by
  refine mx_SM_of (by decide) (Nat.le_of_ble_eq_true rfl) ?_
  show mx_SX mY_X4_saveHandles d 0 [(0, .ref x0)] [] h Q
  refine mx_aload_n (pc := 0) 0 (mx_dd dd_X4_saveHandles 0 (0, .aload_n 0, 1) rfl) rfl rfl ?_
  refine mx_iconst (pc := 1) (v := (1 : Int32)) (mx_dd dd_X4_saveHandles 1 (1, .iconst 1, 1) rfl) (by decide) ?_
  refine mx_iconst (pc := 2) (v := (0 : Int32)) (mx_dd dd_X4_saveHandles 2 (2, .iconst 0, 1) rfl) (by decide) ?_
  refine mx_iconst (pc := 3) (v := (0 : Int32)) (mx_dd dd_X4_saveHandles 3 (3, .iconst 0, 1) rfl) (by decide) ?_
  refine mx_iconst (pc := 4) (v := (0 : Int32)) (mx_dd dd_X4_saveHandles 4 (4, .iconst 0, 1) rfl) (by decide) ?_
  obtain ⟨g1, P⟩ := P
  obtain ⟨g2, P⟩ := P
  refine mx_cVV (pc := 5) (Y := mY_X4_push) (As := [.int _, .int _, .int _, .int _]) mx_ml_X4_155 mx_y_X4_push rfl g2 (by decide) rfl (by decide) rfl (mx_dd dd_X4_saveHandles 5 (5, .invokevirtual 155, 3) rfl) g1 (by decide) P (fun h1 P => ?_)
  refine mx_aload_n (pc := 8) 0 (mx_dd dd_X4_saveHandles 6 (8, .aload_n 0, 1) rfl) rfl rfl ?_
  obtain ⟨g3, P⟩ := P
  refine mx_getI (pc := 9) mx_fl_X4_82 g3 rfl (mx_dd dd_X4_saveHandles 7 (9, .getfield 82, 3) rfl) ?_
  refine mx_if_lt (pc := 12) 25 (mx_dd dd_X4_saveHandles 8 (12, .ifCond .lt 13, 3) rfl) rfl (fun c12 => ?_) (fun c12 => ?_)
  · have P := P.1 c12
    exact mx_return (pc := 25) (mx_dd dd_X4_saveHandles 13 (25, .return_, 1) rfl) rfl P
  · have P := P.2 c12
    refine mx_aload_n (pc := 15) 0 (mx_dd dd_X4_saveHandles 9 (15, .aload_n 0, 1) rfl) rfl rfl ?_
    refine mx_getI (pc := 16) mx_fl_X4_82 g3 rfl (mx_dd dd_X4_saveHandles 10 (16, .getfield 82, 3) rfl) ?_
    refine mx_sipush (pc := 19) (v := (300 : Int32)) (mx_dd dd_X4_saveHandles 11 (19, .sipush 300, 3) rfl) (by decide) ?_
    refine mx_icmp_lt (pc := 22) 26 (mx_dd dd_X4_saveHandles 12 (22, .if_icmp .lt 4, 3) rfl) rfl (fun c22 => ?_) (fun c22 => ?_)
    · have P := P.1 c22
      refine mx_aload_n (pc := 26) 0 (mx_dd dd_X4_saveHandles 14 (26, .aload_n 0, 1) rfl) rfl rfl ?_
      obtain ⟨b1, g4, P⟩ := P
      refine mx_getR (pc := 27) mx_fl_X4_34 g3 rfl g4 (mx_dd dd_X4_saveHandles 15 (27, .getfield 34, 3) rfl) ?_
      refine mx_aload_n (pc := 30) 0 (mx_dd dd_X4_saveHandles 16 (30, .aload_n 0, 1) rfl) rfl rfl ?_
      refine mx_getI (pc := 31) mx_fl_X4_82 g3 rfl (mx_dd dd_X4_saveHandles 17 (31, .getfield 82, 3) rfl) ?_
      obtain ⟨g5, P⟩ := P
      obtain ⟨g6, P⟩ := P
      refine mx_aaldO (pc := 34) g5 (by decide) g6 (mx_dd dd_X4_saveHandles 18 (34, .aaload, 1) rfl) ?_
      refine mx_ifnonnullO (pc := 35) 58 (mx_dd dd_X4_saveHandles 19 (35, .ifnonnull 23, 3) rfl) rfl (fun b2 g7 => ?_) (fun c35 => ?_)
      · have P := P.2 b2 g7
        exact P
      · have P := P.1 c35
        refine mx_aload_n (pc := 38) 0 (mx_dd dd_X4_saveHandles 20 (38, .aload_n 0, 1) rfl) rfl rfl ?_
        refine mx_getR (pc := 39) mx_fl_X4_34 g3 rfl g4 (mx_dd dd_X4_saveHandles 21 (39, .getfield 34, 3) rfl) ?_
        refine mx_aload_n (pc := 42) 0 (mx_dd dd_X4_saveHandles 22 (42, .aload_n 0, 1) rfl) rfl rfl ?_
        refine mx_getI (pc := 43) mx_fl_X4_82 g3 rfl (mx_dd dd_X4_saveHandles 23 (43, .getfield 82, 3) rfl) ?_
        refine mx_new (pc := 46) mx_nw_X4_32 (mx_nofd _) (mx_dd dd_X4_saveHandles 24 (46, .new 32, 3) rfl) ?_
        have P := P _ _ rfl rfl
        refine mx_dup (pc := 49) (mx_dd dd_X4_saveHandles 25 (49, .dup, 1) rfl) rfl ?_
        refine mx_aload_n (pc := 50) 0 (mx_dd dd_X4_saveHandles 26 (50, .aload_n 0, 1) rfl) rfl rfl ?_
        obtain ⟨g8, P⟩ := P
        obtain ⟨b4, g9, P⟩ := P
        refine mx_getR (pc := 51) mx_fl_X4_15 g8 rfl g9 (mx_dd dd_X4_saveHandles 27 (51, .getfield 15, 3) rfl) ?_
        refine mx_cI (pc := 54) (Y := mY_X2_init) (As := [.ref _]) mx_ml_X4_38 mx_y_X2_init rfl rfl (by simp [Value.category]) rfl (mx_dd dd_X4_saveHandles 28 (54, .invokespecial 38, 3) rfl) g1 (by decide) P (fun h3 P => ?_)
        obtain ⟨g10, P⟩ := P
        obtain ⟨g11, P⟩ := P
        obtain ⟨g12, P⟩ := P
        refine mx_aast (pc := 57) g10 (by decide) g12 (by decide) rfl g11 (mx_dd dd_X4_saveHandles 29 (57, .aastore, 1) rfl) ?_
        have P := P _ rfl
        exact P
    · have P := P.2 c22
      exact mx_return (pc := 25) (mx_dd dd_X4_saveHandles 13 (25, .return_, 1) rfl) rfl P
theorem b_X4_saveHandles_58 {d : Nat} {h : mxH} {Q : mxRes → mxH → Prop} (x0 : Nat)
    (P : hpK h x0 = 4 ∧ ∃ b1 : Nat, hpR h x0 5 = some b1 ∧ hpK h b1 = 17 ∧ vp_in (hpI h x0 6) (hpZ h b1) ∧ ∃ b2 : Nat, hpR h x0 10 = some b2 ∧ hpK h b2 = 8 ∧ ∃ b3 : Nat, hpR h b2 3 = some b3 ∧ ∃ b4 : Nat, hpR h b1 (hpI h x0 6).toNatClampNeg = some b4 ∧ 1 ≤ d ∧ hpK h b4 = 2 ∧ mx_SM mY_X2_copyFrom (d - 1) [.ref b4, .ref b3] h (mx_KV (fun h1 => hpK h1 x0 = 4 ∧ ∀ h2 : mxH, h2 = hsI h1 x0 6 ((hpI h1 x0 6) + (1 : Int32)) → Q (.inl none) h2) (mx_XX mY_X4_saveHandles Q))) : mx_SX mY_X4_saveHandles d 58 [(0, .ref x0)] [] h Q := by
  refine mx_aload_n (pc := 58) 0 (mx_dd dd_X4_saveHandles 30 (58, .aload_n 0, 1) rfl) rfl rfl ?_
  obtain ⟨g1, P⟩ := P
  obtain ⟨b1, g2, P⟩ := P
  refine mx_getR (pc := 59) mx_fl_X4_34 g1 rfl g2 (mx_dd dd_X4_saveHandles 31 (59, .getfield 34, 3) rfl) ?_
  refine mx_aload_n (pc := 62) 0 (mx_dd dd_X4_saveHandles 32 (62, .aload_n 0, 1) rfl) rfl rfl ?_
  refine mx_getI (pc := 63) mx_fl_X4_82 g1 rfl (mx_dd dd_X4_saveHandles 33 (63, .getfield 82, 3) rfl) ?_
  obtain ⟨g3, P⟩ := P
  obtain ⟨g4, P⟩ := P
  refine mx_aaldO (pc := 66) g3 (by decide) g4 (mx_dd dd_X4_saveHandles 34 (66, .aaload, 1) rfl) ?_
  refine mx_aload_n (pc := 67) 0 (mx_dd dd_X4_saveHandles 35 (67, .aload_n 0, 1) rfl) rfl rfl ?_
  obtain ⟨b2, g5, P⟩ := P
  refine mx_getR (pc := 68) mx_fl_X4_51 g1 rfl g5 (mx_dd dd_X4_saveHandles 36 (68, .getfield 51, 3) rfl) ?_
  obtain ⟨g6, P⟩ := P
  obtain ⟨b3, g7, P⟩ := P
  refine mx_getR (pc := 71) mx_fl_X4_71 g6 rfl g7 (mx_dd dd_X4_saveHandles 37 (71, .getfield 71, 3) rfl) ?_
  obtain ⟨b4, g8, P⟩ := P
  refine mx_deref1 g8 ?_
  obtain ⟨g9, P⟩ := P
  obtain ⟨g10, P⟩ := P
  refine mx_cVV (pc := 74) (Y := mY_X2_copyFrom) (As := [.ref _]) mx_ml_X4_74 mx_y_X2_copyFrom rfl g10 (by decide) rfl (by decide) rfl (mx_dd dd_X4_saveHandles 38 (74, .invokevirtual 74, 3) rfl) g9 (by decide) P (fun h1 P => ?_)
  refine mx_aload_n (pc := 77) 0 (mx_dd dd_X4_saveHandles 39 (77, .aload_n 0, 1) rfl) rfl rfl ?_
  refine mx_dup (pc := 78) (mx_dd dd_X4_saveHandles 40 (78, .dup, 1) rfl) rfl ?_
  obtain ⟨g11, P⟩ := P
  refine mx_getI (pc := 79) mx_fl_X4_82 g11 rfl (mx_dd dd_X4_saveHandles 41 (79, .getfield 82, 3) rfl) ?_
  refine mx_iconst (pc := 82) (v := (1 : Int32)) (mx_dd dd_X4_saveHandles 42 (82, .iconst 1, 1) rfl) (by decide) ?_
  refine mx_iadd (pc := 83) (mx_dd dd_X4_saveHandles 43 (83, .iadd, 1) rfl) ?_
  refine mx_putI (pc := 84) mx_fl_X4_82 g11 rfl (.inl rfl) rfl rfl (mx_dd dd_X4_saveHandles 44 (84, .putfield 82, 3) rfl) ?_
  have P := P _ rfl
  exact mx_return (pc := 87) (mx_dd dd_X4_saveHandles 45 (87, .return_, 1) rfl) rfl P
theorem b_X4_setBackHandles {d : Nat} {h : mxH} {Q : mxRes → mxH → Prop} (x0 : Nat) (x1 : Int32)
    (P : 1 ≤ d ∧ hpK h x0 = 4 ∧ mx_SM mY_X4_pop (d - 1) [.ref x0] h (mx_KV (fun h1 => hpK h1 x0 = 4 ∧ (((hpI h1 x0 6) ≤ 0 → Q (.inl none) h1) ∧ (¬ (hpI h1 x0 6) ≤ 0 → (((hpI h1 x0 6) ≤ (300 : Int32) → ∀ h2 : mxH, h2 = hsI h1 x0 6 ((hpI h1 x0 6) - (1 : Int32)) → ∃ b1 : Nat, hpR h2 x0 5 = some b1 ∧ hpK h2 b1 = 17 ∧ vp_in (hpI h2 x0 6) (hpZ h2 b1) ∧ ((hpR h2 b1 (hpI h2 x0 6).toNatClampNeg = none → Q (.inl none) h2) ∧ (∀ b2 : Nat, hpR h2 b1 (hpI h2 x0 6).toNatClampNeg = some b2 → ((x1 = 0 → mx_SX mY_X4_setBackHandles d 62 [(2, va_rf (hpR h2 b1 (hpI h2 x0 6).toNatClampNeg))] [] h2 Q) ∧ (¬ x1 = 0 → ∃ b3 : Nat, hpR h2 x0 10 = some b3 ∧ hpK h2 b3 = 8 ∧ ∃ b4 : Nat, hpR h2 b3 3 = some b4 ∧ hpK h2 b4 = 2 ∧ mx_SM mY_X2_copyFrom (d - 1) [.ref b4, .ref b2] h2 (mx_KV (fun h3 => mx_SX mY_X4_setBackHandles d 62 [(2, va_rf (hpR h2 b1 (hpI h2 x0 6).toNatClampNeg))] [] h3 Q) (mx_XX mY_X4_setBackHandles Q))))))) ∧ (¬ (hpI h1 x0 6) ≤ (300 : Int32) → Q (.inl none) h1))))) (mx_XX mY_X4_setBackHandles Q))) : mx_SM mY_X4_setBackHandles d [.ref x0, .int x1] h Q := by
  refine mx_SM_of (by decide) (Nat.le_of_ble_eq_true rfl) ?_
  show mx_SX mY_X4_setBackHandles d 0 [(0, .ref x0), (1, .int x1)] [] h Q
  refine mx_aload_n (pc := 0) 0 (mx_dd dd_X4_setBackHandles 0 (0, .aload_n 0, 1) rfl) rfl rfl ?_
  obtain ⟨g1, P⟩ := P
  obtain ⟨g2, P⟩ := P
  refine mx_cVV (pc := 1) (Y := mY_X4_pop) (As := []) mx_ml_X4_228 mx_y_X4_pop rfl g2 (by decide) rfl (by decide) rfl (mx_dd dd_X4_setBackHandles 1 (1, .invokevirtual 228, 3) rfl) g1 (by decide) P (fun h1 P => ?_)
  refine mx_aload_n (pc := 4) 0 (mx_dd dd_X4_setBackHandles 2 (4, .aload_n 0, 1) rfl) rfl rfl ?_
  obtain ⟨g3, P⟩ := P
  refine mx_getI (pc := 5) mx_fl_X4_82 g3 rfl (mx_dd dd_X4_setBackHandles 3 (5, .getfield 82, 3) rfl) ?_
  refine mx_if_le (pc := 8) 21 (mx_dd dd_X4_setBackHandles 4 (8, .ifCond .le 13, 3) rfl) rfl (fun c8 => ?_) (fun c8 => ?_)
  · have P := P.1 c8
    exact mx_return (pc := 21) (mx_dd dd_X4_setBackHandles 9 (21, .return_, 1) rfl) rfl P
  · have P := P.2 c8
    refine mx_aload_n (pc := 11) 0 (mx_dd dd_X4_setBackHandles 5 (11, .aload_n 0, 1) rfl) rfl rfl ?_
    refine mx_getI (pc := 12) mx_fl_X4_82 g3 rfl (mx_dd dd_X4_setBackHandles 6 (12, .getfield 82, 3) rfl) ?_
    refine mx_sipush (pc := 15) (v := (300 : Int32)) (mx_dd dd_X4_setBackHandles 7 (15, .sipush 300, 3) rfl) (by decide) ?_
    refine mx_icmp_le (pc := 18) 22 (mx_dd dd_X4_setBackHandles 8 (18, .if_icmp .le 4, 3) rfl) rfl (fun c18 => ?_) (fun c18 => ?_)
    · have P := P.1 c18
      refine mx_aload_n (pc := 22) 0 (mx_dd dd_X4_setBackHandles 10 (22, .aload_n 0, 1) rfl) rfl rfl ?_
      refine mx_dup (pc := 23) (mx_dd dd_X4_setBackHandles 11 (23, .dup, 1) rfl) rfl ?_
      refine mx_getI (pc := 24) mx_fl_X4_82 g3 rfl (mx_dd dd_X4_setBackHandles 12 (24, .getfield 82, 3) rfl) ?_
      refine mx_iconst (pc := 27) (v := (1 : Int32)) (mx_dd dd_X4_setBackHandles 13 (27, .iconst 1, 1) rfl) (by decide) ?_
      refine mx_isub (pc := 28) (mx_dd dd_X4_setBackHandles 14 (28, .isub, 1) rfl) ?_
      refine mx_putI (pc := 29) mx_fl_X4_82 g3 rfl (.inl rfl) rfl rfl (mx_dd dd_X4_setBackHandles 15 (29, .putfield 82, 3) rfl) ?_
      have P := P _ rfl
      refine mx_aload_n (pc := 32) 0 (mx_dd dd_X4_setBackHandles 16 (32, .aload_n 0, 1) rfl) rfl rfl ?_
      obtain ⟨b1, g4, P⟩ := P
      refine mx_getR (pc := 33) mx_fl_X4_34 g3 rfl g4 (mx_dd dd_X4_setBackHandles 17 (33, .getfield 34, 3) rfl) ?_
      refine mx_aload_n (pc := 36) 0 (mx_dd dd_X4_setBackHandles 18 (36, .aload_n 0, 1) rfl) rfl rfl ?_
      refine mx_getI (pc := 37) mx_fl_X4_82 g3 rfl (mx_dd dd_X4_setBackHandles 19 (37, .getfield 82, 3) rfl) ?_
      obtain ⟨g5, P⟩ := P
      obtain ⟨g6, P⟩ := P
      refine mx_aaldO (pc := 40) g5 (by decide) g6 (mx_dd dd_X4_setBackHandles 20 (40, .aaload, 1) rfl) ?_
      refine mx_astore_nO (pc := 41) (mx_dd dd_X4_setBackHandles 21 (41, .astore_n 2, 1) rfl) rfl (by decide) (lv' := [(2, _), (0, _), (1, _)]) rfl ?_
      refine mx_aload_nO (pc := 42) 0 (mx_dd dd_X4_setBackHandles 22 (42, .aload_n 2, 1) rfl) rfl rfl ?_
      refine mx_ifnonnullO (pc := 43) 47 (mx_dd dd_X4_setBackHandles 23 (43, .ifnonnull 4, 3) rfl) rfl (fun b2 g7 => ?_) (fun c43 => ?_)
      · have P := P.2 b2 g7
        refine mx_iload_n (pc := 47) 2 (mx_dd dd_X4_setBackHandles 25 (47, .iload_n 1, 1) rfl) rfl rfl ?_
        refine mx_if_eq (pc := 48) 62 (mx_dd dd_X4_setBackHandles 26 (48, .ifCond .eq 14, 3) rfl) rfl (fun c48 => ?_) (fun c48 => ?_)
        · have P := P.1 c48
          refine mx_sel [0] rfl ?_
          exact P
        · have P := P.2 c48
          refine mx_aload_n (pc := 51) 1 (mx_dd dd_X4_setBackHandles 27 (51, .aload_n 0, 1) rfl) rfl rfl ?_
          obtain ⟨b3, g8, P⟩ := P
          refine mx_getR (pc := 52) mx_fl_X4_51 g3 rfl g8 (mx_dd dd_X4_setBackHandles 28 (52, .getfield 51, 3) rfl) ?_
          obtain ⟨g9, P⟩ := P
          obtain ⟨b4, g10, P⟩ := P
          refine mx_getR (pc := 55) mx_fl_X4_71 g9 rfl g10 (mx_dd dd_X4_setBackHandles 29 (55, .getfield 71, 3) rfl) ?_
          refine mx_aload_nO (pc := 58) 0 (mx_dd dd_X4_setBackHandles 30 (58, .aload_n 2, 1) rfl) rfl rfl ?_
          refine mx_deref0 g7 ?_
          obtain ⟨g11, P⟩ := P
          refine mx_cVV (pc := 59) (Y := mY_X2_copyFrom) (As := [.ref _]) mx_ml_X4_74 mx_y_X2_copyFrom rfl g11 (by decide) rfl (by decide) rfl (mx_dd dd_X4_setBackHandles 31 (59, .invokevirtual 74, 3) rfl) g1 (by decide) P (fun h3 P => ?_)
          refine mx_sel [0] rfl ?_
          exact P
      · have P := P.1 c43
        exact mx_return (pc := 46) (mx_dd dd_X4_setBackHandles 24 (46, .return_, 1) rfl) rfl P
    · have P := P.2 c18
      exact mx_return (pc := 21) (mx_dd dd_X4_setBackHandles 9 (21, .return_, 1) rfl) rfl P
theorem b_X4_setBackHandles_62 {d : Nat} {h : mxH} {Q : mxRes → mxH → Prop} (x2 : Option Nat)
    (P : ∃ b1 : Nat, x2 = some b1 ∧ 1 ≤ d ∧ hpK h b1 = 2 ∧ mx_SM mY_X2_closeAll (d - 1) [.ref b1] h (mx_KV (fun h1 => Q (.inl none) h1) (mx_XX mY_X4_setBackHandles Q))) : mx_SX mY_X4_setBackHandles d 62 [(2, va_rf x2)] [] h Q := by
  refine mx_aload_nO (pc := 62) 0 (mx_dd dd_X4_setBackHandles 32 (62, .aload_n 2, 1) rfl) rfl rfl ?_
  obtain ⟨b1, g1, P⟩ := P
  refine mx_deref0 g1 ?_
  obtain ⟨g2, P⟩ := P
  obtain ⟨g3, P⟩ := P
  refine mx_cVV (pc := 63) (Y := mY_X2_closeAll) (As := []) mx_ml_X4_112 mx_y_X2_closeAll rfl g3 (by decide) rfl (by decide) rfl (mx_dd dd_X4_setBackHandles 33 (63, .invokevirtual 112, 3) rfl) g2 (by decide) P (fun h1 P => ?_)
  exact mx_return (pc := 66) (mx_dd dd_X4_setBackHandles 34 (66, .return_, 1) rfl) rfl P
theorem b_X4_redirect {d : Nat} {h : mxH} {Q : mxRes → mxH → Prop} (x0 : Nat) (x1 : Int32)
    (P : hpK h x0 = 4 ∧ ∃ b1 : Nat, hpR h x0 9 = some b1 ∧ 1 ≤ d ∧ hpK h b1 = 7 ∧ mx_SM mY_X7_redirectedHandle (d - 1) [.ref b1, .int x1] h (mx_KI (fun v1 h1 => hpK h1 x0 = 4 ∧ ∃ b2 : Nat, hpR h1 x0 9 = some b2 ∧ hpK h1 b2 = 7 ∧ mx_SM mY_X7_redirectionName (d - 1) [.ref b2, .int x1] h1 (mx_KL (fun v2 h2 => hpK h2 x0 = 4 ∧ ∃ b3 : Nat, hpR h2 x0 9 = some b3 ∧ hpK h2 b3 = 7 ∧ mx_SM mY_X7_redirectionKind (d - 1) [.ref b3, .int x1] h2 (mx_KI (fun v3 h3 => ((v3.toInt < 0 ∨ 3 < v3.toInt → mx_SX mY_X4_redirect d 132 [(0, .ref x0), (2, .int v1)] [] h3 Q) ∧ (v3.toInt = 0 → mx_SX mY_X4_redirect d 56 [(0, .ref x0), (2, .int v1), (3, .long v2)] [] h3 Q) ∧ (v3.toInt = 1 → mx_SX mY_X4_redirect d 71 [(0, .ref x0), (2, .int v1), (3, .long v2)] [] h3 Q) ∧ (v3.toInt = 2 → mx_SX mY_X4_redirect d 99 [(0, .ref x0), (2, .int v1), (3, .long v2)] [] h3 Q) ∧ (v3.toInt = 3 → mx_SX mY_X4_redirect d 114 [(0, .ref x0), (2, .int v1), (3, .long v2)] [] h3 Q))) (mx_XX mY_X4_redirect Q))) (mx_XX mY_X4_redirect Q))) (mx_XX mY_X4_redirect Q))) : mx_SM mY_X4_redirect d [.ref x0, .int x1] h Q := by
  refine mx_SM_of (by decide) (Nat.le_of_ble_eq_true rfl) ?_
  show mx_SX mY_X4_redirect d 0 [(0, .ref x0), (1, .int x1)] [] h Q
  refine mx_aload_n (pc := 0) 0 (mx_dd dd_X4_redirect_0 0 (0, .aload_n 0, 1) rfl) rfl rfl ?_
  obtain ⟨g1, P⟩ := P
  obtain ⟨b1, g2, P⟩ := P
  refine mx_getR (pc := 1) mx_fl_X4_54 g1 rfl g2 (mx_dd dd_X4_redirect_0 1 (1, .getfield 54, 3) rfl) ?_
  refine mx_iload_n (pc := 4) 1 (mx_dd dd_X4_redirect_0 2 (4, .iload_n 1, 1) rfl) rfl rfl ?_
  obtain ⟨g3, P⟩ := P
  obtain ⟨g4, P⟩ := P
  refine mx_cVI (pc := 5) (Y := mY_X7_redirectedHandle) (As := [.int _]) mx_ml_X4_231 mx_y_X7_redirectedHandle rfl g4 (by decide) rfl (by decide) rfl (mx_dd dd_X4_redirect_0 3 (5, .invokevirtual 231, 3) rfl) g3 (by decide) P (fun v1 h1 P => ?_)
  refine mx_istore_n (pc := 8) (mx_dd dd_X4_redirect_0 4 (8, .istore_n 2, 1) rfl) rfl (by decide) (lv' := [(2, _), (0, _), (1, _)]) rfl ?_
  refine mx_aload_n (pc := 9) 1 (mx_dd dd_X4_redirect_0 5 (9, .aload_n 0, 1) rfl) rfl rfl ?_
  obtain ⟨g5, P⟩ := P
  obtain ⟨b2, g6, P⟩ := P
  refine mx_getR (pc := 10) mx_fl_X4_54 g5 rfl g6 (mx_dd dd_X4_redirect_0 6 (10, .getfield 54, 3) rfl) ?_
  refine mx_iload_n (pc := 13) 2 (mx_dd dd_X4_redirect_0 7 (13, .iload_n 1, 1) rfl) rfl rfl ?_
  obtain ⟨g7, P⟩ := P
  refine mx_cVL (pc := 14) (Y := mY_X7_redirectionName) (As := [.int _]) mx_ml_X4_234 mx_y_X7_redirectionName rfl g7 (by decide) rfl (by decide) rfl (mx_dd dd_X4_redirect_0 8 (14, .invokevirtual 234, 3) rfl) g3 (by decide) P (fun v2 h2 P => ?_)
  refine mx_lstore_n (pc := 17) (mx_dd dd_X4_redirect_0 9 (17, .lstore_n 3, 1) rfl) rfl (by decide) (lv' := [(3, _), (2, _), (0, _), (1, _)]) rfl ?_
  refine mx_aload_n (pc := 18) 2 (mx_dd dd_X4_redirect_0 10 (18, .aload_n 0, 1) rfl) rfl rfl ?_
  obtain ⟨g8, P⟩ := P
  obtain ⟨b3, g9, P⟩ := P
  refine mx_getR (pc := 19) mx_fl_X4_54 g8 rfl g9 (mx_dd dd_X4_redirect_0 11 (19, .getfield 54, 3) rfl) ?_
  refine mx_iload_n (pc := 22) 3 (mx_dd dd_X4_redirect_0 12 (22, .iload_n 1, 1) rfl) rfl rfl ?_
  obtain ⟨g10, P⟩ := P
  refine mx_cVI (pc := 23) (Y := mY_X7_redirectionKind) (As := [.int _]) mx_ml_X4_238 mx_y_X7_redirectionKind rfl g10 (by decide) rfl (by decide) rfl (mx_dd dd_X4_redirect_0 13 (23, .invokevirtual 238, 3) rfl) g3 (by decide) P (fun v3 h3 P => ?_)
  refine mx_tsw (pc := 26) 132 (mx_dd dd_X4_redirect_0 14 (26, .tableswitch 106 0 3 #[30, 45, 73, 88], 30) rfl) rfl [56, 71, 99, 114] rfl rfl (fun c26 => ?_) ?_
  · have P := P.1 c26
    refine mx_sel [2, 1] rfl ?_
    exact P
  · intro j t hj hx
    have hj9 : j < 4 := (List.getElem?_eq_some_iff.mp hj).1
    have hj8 : j = 0 ∨ j = 1 ∨ j = 2 ∨ j = 3 := by omega
    rcases hj8 with rfl | rfl | rfl | rfl
    · cases hj
      have P := P.2.1 (by omega)
      refine mx_sel [2, 1, 0] rfl ?_
      exact P
    · cases hj
      have P := P.2.2.1 (by omega)
      refine mx_sel [2, 1, 0] rfl ?_
      exact P
    · cases hj
      have P := P.2.2.2.1 (by omega)
      refine mx_sel [2, 1, 0] rfl ?_
      exact P
    · cases hj
      have P := P.2.2.2.2 (by omega)
      refine mx_sel [2, 1, 0] rfl ?_
      exact P
theorem b_X4_redirect_56 {d : Nat} {h : mxH} {Q : mxRes → mxH → Prop} (x0 : Nat) (x2 : Int32) (x3 : Int64)
    (P : hpK h x0 = 4 ∧ ∃ b1 : Nat, hpR h x0 0 = some b1 ∧ 1 ≤ d ∧ hpK h b1 = 10 ∧ mx_SM mY_X10_findFile (d - 1) [.ref b1, .long x3] h (mx_KI (fun v1 h1 => hpK h1 x0 = 4 ∧ mx_SM mY_X4_openFile (d - 1) [.ref x0, .int x2, .int (2 : Int32), .int v1] h1 (mx_KI (fun v2 h2 => (v2 = 0 ∨ v2 = 1) ∧ Q (.inl (some (.int v2))) h2) (mx_XX mY_X4_redirect Q))) (mx_XX mY_X4_redirect Q))) : mx_SX mY_X4_redirect d 56 [(0, .ref x0), (2, .int x2), (3, .long x3)] [] h Q := by
  refine mx_aload_n (pc := 56) 0 (mx_dd dd_X4_redirect_0 15 (56, .aload_n 0, 1) rfl) rfl rfl ?_
  refine mx_iload_n (pc := 57) 1 (mx_dd dd_X4_redirect_0 16 (57, .iload_n 2, 1) rfl) rfl rfl ?_
  refine mx_iconst (pc := 58) (v := (2 : Int32)) (mx_dd dd_X4_redirect_0 17 (58, .iconst 2, 1) rfl) (by decide) ?_
  refine mx_aload_n (pc := 59) 0 (mx_dd dd_X4_redirect_0 18 (59, .aload_n 0, 1) rfl) rfl rfl ?_
  obtain ⟨g1, P⟩ := P
  obtain ⟨b1, g2, P⟩ := P
  refine mx_getR (pc := 60) mx_fl_X4_9 g1 rfl g2 (mx_dd dd_X4_redirect_0 19 (60, .getfield 9, 3) rfl) ?_
  refine mx_lload_n (pc := 63) 2 (mx_dd dd_X4_redirect_0 20 (63, .lload_n 3, 1) rfl) rfl rfl ?_
  obtain ⟨g3, P⟩ := P
  obtain ⟨g4, P⟩ := P
  refine mx_cVI (pc := 64) (Y := mY_X10_findFile) (As := [.long _]) mx_ml_X4_241 mx_y_X10_findFile rfl g4 (by decide) rfl (by simp [Value.category]) rfl (mx_dd dd_X4_redirect_0 21 (64, .invokevirtual 241, 3) rfl) g3 (by decide) P (fun v1 h1 P => ?_)
  obtain ⟨g5, P⟩ := P
  refine mx_cVI (pc := 67) (Y := mY_X4_openFile) (As := [.int _, .int _, .int _]) mx_ml_X4_245 mx_y_X4_openFile rfl g5 (by decide) rfl (by decide) rfl (mx_dd dd_X4_redirect_0 22 (67, .invokevirtual 245, 3) rfl) g3 (by decide) P (fun v2 h2 P => ?_)
  obtain ⟨g6, P⟩ := P
  exact mx_ireturn (pc := 70) (mx_dd dd_X4_redirect_0 23 (70, .ireturn, 1) rfl) rfl (mx_nb g6).1 P
theorem b_X4_redirect_71 {d : Nat} {h : mxH} {Q : mxRes → mxH → Prop} (x0 : Nat) (x2 : Int32) (x3 : Int64)
    (P : hpK h x0 = 4 ∧ ∃ b1 : Nat, hpR h x0 0 = some b1 ∧ 1 ≤ d ∧ hpK h b1 = 10 ∧ mx_SM mY_X10_findOrMake (d - 1) [.ref b1, .long x3] h (mx_KI (fun v1 h1 => hpK h1 x0 = 4 ∧ ∃ b2 : Nat, hpR h1 x0 0 = some b2 ∧ hpK h1 b2 = 10 ∧ mx_SM mY_X10_loseLines (d - 1) [.ref b2, .int v1] h1 (mx_KV (fun h2 => hpK h2 x0 = 4 ∧ mx_SM mY_X4_openFile (d - 1) [.ref x0, .int x2, .int (3 : Int32), .int v1] h2 (mx_KI (fun v2 h3 => (v2 = 0 ∨ v2 = 1) ∧ Q (.inl (some (.int v2))) h3) (mx_XX mY_X4_redirect Q))) (mx_XX mY_X4_redirect Q))) (mx_XX mY_X4_redirect Q))) : mx_SX mY_X4_redirect d 71 [(0, .ref x0), (2, .int x2), (3, .long x3)] [] h Q := by
  refine mx_aload_n (pc := 71) 0 (mx_dd dd_X4_redirect_0 24 (71, .aload_n 0, 1) rfl) rfl rfl ?_
  obtain ⟨g1, P⟩ := P
  obtain ⟨b1, g2, P⟩ := P
  refine mx_getR (pc := 72) mx_fl_X4_9 g1 rfl g2 (mx_dd dd_X4_redirect_0 25 (72, .getfield 9, 3) rfl) ?_
  refine mx_lload_n (pc := 75) 2 (mx_dd dd_X4_redirect_0 26 (75, .lload_n 3, 1) rfl) rfl rfl ?_
  obtain ⟨g3, P⟩ := P
  obtain ⟨g4, P⟩ := P
  refine mx_cVI (pc := 76) (Y := mY_X10_findOrMake) (As := [.long _]) mx_ml_X4_249 mx_y_X10_findOrMake rfl g4 (by decide) rfl (by decide) rfl (mx_dd dd_X4_redirect_0 27 (76, .invokevirtual 249, 3) rfl) g3 (by decide) P (fun v1 h1 P => ?_)
  refine mx_istore (pc := 79) (mx_dd dd_X4_redirect_0 28 (79, .istore 5, 2) rfl) (by decide) (lv' := [(5, _), (0, _), (2, _), (3, _)]) rfl ?_
  refine mx_aload_n (pc := 81) 1 (mx_dd dd_X4_redirect_0 29 (81, .aload_n 0, 1) rfl) rfl rfl ?_
  obtain ⟨g5, P⟩ := P
  obtain ⟨b2, g6, P⟩ := P
  refine mx_getR (pc := 82) mx_fl_X4_9 g5 rfl g6 (mx_dd dd_X4_redirect_0 30 (82, .getfield 9, 3) rfl) ?_
  refine mx_iload (pc := 85) 0 (mx_dd dd_X4_redirect_0 31 (85, .iload 5, 2) rfl) rfl ?_
  obtain ⟨g7, P⟩ := P
  refine mx_cVV (pc := 87) (Y := mY_X10_loseLines) (As := [.int _]) mx_ml_X4_252 mx_y_X10_loseLines rfl g7 (by decide) rfl (by decide) rfl (mx_dd dd_X4_redirect_0 32 (87, .invokevirtual 252, 3) rfl) g3 (by decide) P (fun h2 P => ?_)
  refine mx_aload_n (pc := 90) 1 (mx_dd dd_X4_redirect_0 33 (90, .aload_n 0, 1) rfl) rfl rfl ?_
  refine mx_iload_n (pc := 91) 2 (mx_dd dd_X4_redirect_0 34 (91, .iload_n 2, 1) rfl) rfl rfl ?_
  refine mx_iconst (pc := 92) (v := (3 : Int32)) (mx_dd dd_X4_redirect_0 35 (92, .iconst 3, 1) rfl) (by decide) ?_
  refine mx_iload (pc := 93) 0 (mx_dd dd_X4_redirect_0 36 (93, .iload 5, 2) rfl) rfl ?_
  obtain ⟨g8, P⟩ := P
  refine mx_cVI (pc := 95) (Y := mY_X4_openFile) (As := [.int _, .int _, .int _]) mx_ml_X4_245 mx_y_X4_openFile rfl g8 (by decide) rfl (by decide) rfl (mx_dd dd_X4_redirect_0 37 (95, .invokevirtual 245, 3) rfl) g3 (by decide) P (fun v2 h3 P => ?_)
  obtain ⟨g9, P⟩ := P
  exact mx_ireturn (pc := 98) (mx_dd dd_X4_redirect_0 38 (98, .ireturn, 1) rfl) rfl (mx_nb g9).1 P
theorem b_X4_redirect_99 {d : Nat} {h : mxH} {Q : mxRes → mxH → Prop} (x0 : Nat) (x2 : Int32) (x3 : Int64)
    (P : hpK h x0 = 4 ∧ ∃ b1 : Nat, hpR h x0 0 = some b1 ∧ 1 ≤ d ∧ hpK h b1 = 10 ∧ mx_SM mY_X10_findOrMake (d - 1) [.ref b1, .long x3] h (mx_KI (fun v1 h1 => hpK h1 x0 = 4 ∧ mx_SM mY_X4_openFile (d - 1) [.ref x0, .int x2, .int (4 : Int32), .int v1] h1 (mx_KI (fun v2 h2 => (v2 = 0 ∨ v2 = 1) ∧ Q (.inl (some (.int v2))) h2) (mx_XX mY_X4_redirect Q))) (mx_XX mY_X4_redirect Q))) : mx_SX mY_X4_redirect d 99 [(0, .ref x0), (2, .int x2), (3, .long x3)] [] h Q := by
  refine mx_aload_n (pc := 99) 0 (mx_dd dd_X4_redirect_0 39 (99, .aload_n 0, 1) rfl) rfl rfl ?_
  refine mx_iload_n (pc := 100) 1 (mx_dd dd_X4_redirect_1 0 (100, .iload_n 2, 1) rfl) rfl rfl ?_
  refine mx_iconst (pc := 101) (v := (4 : Int32)) (mx_dd dd_X4_redirect_1 1 (101, .iconst 4, 1) rfl) (by decide) ?_
  refine mx_aload_n (pc := 102) 0 (mx_dd dd_X4_redirect_1 2 (102, .aload_n 0, 1) rfl) rfl rfl ?_
  obtain ⟨g1, P⟩ := P
  obtain ⟨b1, g2, P⟩ := P
  refine mx_getR (pc := 103) mx_fl_X4_9 g1 rfl g2 (mx_dd dd_X4_redirect_1 3 (103, .getfield 9, 3) rfl) ?_
  refine mx_lload_n (pc := 106) 2 (mx_dd dd_X4_redirect_1 4 (106, .lload_n 3, 1) rfl) rfl rfl ?_
  obtain ⟨g3, P⟩ := P
  obtain ⟨g4, P⟩ := P
  refine mx_cVI (pc := 107) (Y := mY_X10_findOrMake) (As := [.long _]) mx_ml_X4_249 mx_y_X10_findOrMake rfl g4 (by decide) rfl (by simp [Value.category]) rfl (mx_dd dd_X4_redirect_1 5 (107, .invokevirtual 249, 3) rfl) g3 (by decide) P (fun v1 h1 P => ?_)
  obtain ⟨g5, P⟩ := P
  refine mx_cVI (pc := 110) (Y := mY_X4_openFile) (As := [.int _, .int _, .int _]) mx_ml_X4_245 mx_y_X4_openFile rfl g5 (by decide) rfl (by decide) rfl (mx_dd dd_X4_redirect_1 6 (110, .invokevirtual 245, 3) rfl) g3 (by decide) P (fun v2 h2 P => ?_)
  obtain ⟨g6, P⟩ := P
  exact mx_ireturn (pc := 113) (mx_dd dd_X4_redirect_1 7 (113, .ireturn, 1) rfl) rfl (mx_nb g6).1 P
theorem b_X4_redirect_114 {d : Nat} {h : mxH} {Q : mxRes → mxH → Prop} (x0 : Nat) (x2 : Int32) (x3 : Int64)
    (P : hpK h x0 = 4 ∧ ∃ b1 : Nat, hpR h x0 10 = some b1 ∧ hpK h b1 = 8 ∧ ∃ b2 : Nat, hpR h b1 3 = some b2 ∧ 1 ≤ d ∧ hpK h b2 = 2 ∧ mx_SM mY_X2_at (d - 1) [.ref b2, .int (x3.toInt32)] h (mx_KR (fun v1 h1 => hpK h1 x0 = 4 ∧ mx_SM mY_X4_share (d - 1) [.ref x0, .int x2, va_rf v1] h1 (mx_KI (fun v2 h2 => (v2 = 0 ∨ v2 = 1) ∧ Q (.inl (some (.int v2))) h2) (mx_XX mY_X4_redirect Q))) (mx_XX mY_X4_redirect Q))) : mx_SX mY_X4_redirect d 114 [(0, .ref x0), (2, .int x2), (3, .long x3)] [] h Q := by
  refine mx_aload_n (pc := 114) 0 (mx_dd dd_X4_redirect_1 8 (114, .aload_n 0, 1) rfl) rfl rfl ?_
  refine mx_iload_n (pc := 115) 1 (mx_dd dd_X4_redirect_1 9 (115, .iload_n 2, 1) rfl) rfl rfl ?_
  refine mx_aload_n (pc := 116) 0 (mx_dd dd_X4_redirect_1 10 (116, .aload_n 0, 1) rfl) rfl rfl ?_
  obtain ⟨g1, P⟩ := P
  obtain ⟨b1, g2, P⟩ := P
  refine mx_getR (pc := 117) mx_fl_X4_51 g1 rfl g2 (mx_dd dd_X4_redirect_1 11 (117, .getfield 51, 3) rfl) ?_
  obtain ⟨g3, P⟩ := P
  obtain ⟨b2, g4, P⟩ := P
  refine mx_getR (pc := 120) mx_fl_X4_71 g3 rfl g4 (mx_dd dd_X4_redirect_1 12 (120, .getfield 71, 3) rfl) ?_
  refine mx_lload_n (pc := 123) 2 (mx_dd dd_X4_redirect_1 13 (123, .lload_n 3, 1) rfl) rfl rfl ?_
  refine mx_l2i (pc := 124) (mx_dd dd_X4_redirect_1 14 (124, .l2i, 1) rfl) ?_
  obtain ⟨g5, P⟩ := P
  obtain ⟨g6, P⟩ := P
  refine mx_cVR (pc := 125) (Y := mY_X2_at) (As := [.int _]) mx_ml_X4_255 mx_y_X2_at rfl g6 (by decide) rfl (by simp [Value.category]) rfl (mx_dd dd_X4_redirect_1 15 (125, .invokevirtual 255, 3) rfl) g5 (by decide) P (fun v1 h1 P => ?_)
  obtain ⟨g7, P⟩ := P
  refine mx_cVI (pc := 128) (Y := mY_X4_share) (As := [.int _, va_rf _]) mx_ml_X4_259 mx_y_X4_share rfl g7 (by decide) rfl (by decide) rfl (mx_dd dd_X4_redirect_1 16 (128, .invokevirtual 259, 3) rfl) g5 (by decide) P (fun v2 h2 P => ?_)
  obtain ⟨g8, P⟩ := P
  exact mx_ireturn (pc := 131) (mx_dd dd_X4_redirect_1 17 (131, .ireturn, 1) rfl) rfl (mx_nb g8).1 P
theorem b_X4_redirect_132 {d : Nat} {h : mxH} {Q : mxRes → mxH → Prop} (x0 : Nat) (x2 : Int32)
    (P : hpK h x0 = 4 ∧ ∃ b1 : Nat, hpR h x0 10 = some b1 ∧ hpK h b1 = 8 ∧ ∃ b2 : Nat, hpR h b1 3 = some b2 ∧ 1 ≤ d ∧ hpK h b2 = 2 ∧ mx_SM mY_X2_put (d - 1) [.ref b2, .int x2, va_rf none] h (mx_KV (fun h1 => Q (.inl (some (.int (1 : Int32)))) h1) (mx_XX mY_X4_redirect Q))) : mx_SX mY_X4_redirect d 132 [(0, .ref x0), (2, .int x2)] [] h Q := by
  refine mx_aload_n (pc := 132) 0 (mx_dd dd_X4_redirect_1 18 (132, .aload_n 0, 1) rfl) rfl rfl ?_
  obtain ⟨g1, P⟩ := P
  obtain ⟨b1, g2, P⟩ := P
  refine mx_getR (pc := 133) mx_fl_X4_51 g1 rfl g2 (mx_dd dd_X4_redirect_1 19 (133, .getfield 51, 3) rfl) ?_
  obtain ⟨g3, P⟩ := P
  obtain ⟨b2, g4, P⟩ := P
  refine mx_getR (pc := 136) mx_fl_X4_71 g3 rfl g4 (mx_dd dd_X4_redirect_1 20 (136, .getfield 71, 3) rfl) ?_
  refine mx_iload_n (pc := 139) 1 (mx_dd dd_X4_redirect_1 21 (139, .iload_n 2, 1) rfl) rfl rfl ?_
  refine mx_null (pc := 140) (mx_dd dd_X4_redirect_1 22 (140, .aconst_null, 1) rfl) ?_
  obtain ⟨g5, P⟩ := P
  obtain ⟨g6, P⟩ := P
  refine mx_cVV (pc := 141) (Y := mY_X2_put) (As := [.int _, va_rf none]) mx_ml_X4_263 mx_y_X2_put rfl g6 (by decide) rfl (by decide) rfl (mx_dd dd_X4_redirect_1 23 (141, .invokevirtual 263, 3) rfl) g5 (by decide) P (fun h1 P => ?_)
  refine mx_iconst (pc := 144) (v := (1 : Int32)) (mx_dd dd_X4_redirect_1 24 (144, .iconst 1, 1) rfl) (by decide) ?_
  exact mx_ireturn (pc := 145) (mx_dd dd_X4_redirect_1 25 (145, .ireturn, 1) rfl) rfl rfl P
theorem b_X4_openFile {d : Nat} {h : mxH} {Q : mxRes → mxH → Prop} (x0 : Nat) (x1 : Int32) (x2 : Int32) (x3 : Int32)
    (P : ((0 ≤ x3 → hpK h x0 = 4 ∧ ∃ b1 : Nat, hpR h x0 10 = some b1 ∧ hpK h b1 = 8 ∧ ∃ b2 : Nat, hpR h b1 3 = some b2 ∧ ∃ b3 : Nat, hpR h x0 1 = some b3 ∧ 1 ≤ d ∧ hpK h b3 = 0 ∧ mx_SM mY_X0_open (d - 1) [.ref b3, .int x2, .int x3, .int (-1 : Int32), .int (0 : Int32)] h (mx_KR (fun v1 h1 => hpK h1 b2 = 2 ∧ mx_SM mY_X2_put (d - 1) [.ref b2, .int x1, va_rf v1] h1 (mx_KV (fun h2 => Q (.inl (some (.int (1 : Int32)))) h2) (mx_XX mY_X4_openFile Q))) (mx_XX mY_X4_openFile Q))) ∧ (¬ 0 ≤ x3 → Q (.inl (some (.int (0 : Int32)))) h))) : mx_SM mY_X4_openFile d [.ref x0, .int x1, .int x2, .int x3] h Q := by
  refine mx_SM_of (by decide) (Nat.le_of_ble_eq_true rfl) ?_
  show mx_SX mY_X4_openFile d 0 [(0, .ref x0), (1, .int x1), (2, .int x2), (3, .int x3)] [] h Q
  refine mx_iload_n (pc := 0) 3 (mx_dd dd_X4_openFile 0 (0, .iload_n 3, 1) rfl) rfl rfl ?_
  refine mx_if_ge (pc := 1) 6 (mx_dd dd_X4_openFile 1 (1, .ifCond .ge 5, 3) rfl) rfl (fun c1 => ?_) (fun c1 => ?_)
  · have P := P.1 c1
    refine mx_aload_n (pc := 6) 0 (mx_dd dd_X4_openFile 4 (6, .aload_n 0, 1) rfl) rfl rfl ?_
    obtain ⟨g1, P⟩ := P
    obtain ⟨b1, g2, P⟩ := P
    refine mx_getR (pc := 7) mx_fl_X4_51 g1 rfl g2 (mx_dd dd_X4_openFile 5 (7, .getfield 51, 3) rfl) ?_
    obtain ⟨g3, P⟩ := P
    obtain ⟨b2, g4, P⟩ := P
    refine mx_getR (pc := 10) mx_fl_X4_71 g3 rfl g4 (mx_dd dd_X4_openFile 6 (10, .getfield 71, 3) rfl) ?_
    refine mx_iload_n (pc := 13) 1 (mx_dd dd_X4_openFile 7 (13, .iload_n 1, 1) rfl) rfl rfl ?_
    refine mx_aload_n (pc := 14) 0 (mx_dd dd_X4_openFile 8 (14, .aload_n 0, 1) rfl) rfl rfl ?_
    obtain ⟨b3, g5, P⟩ := P
    refine mx_getR (pc := 15) mx_fl_X4_15 g1 rfl g5 (mx_dd dd_X4_openFile 9 (15, .getfield 15, 3) rfl) ?_
    refine mx_iload_n (pc := 18) 2 (mx_dd dd_X4_openFile 10 (18, .iload_n 2, 1) rfl) rfl rfl ?_
    refine mx_iload_n (pc := 19) 3 (mx_dd dd_X4_openFile 11 (19, .iload_n 3, 1) rfl) rfl rfl ?_
    refine mx_iconst (pc := 20) (v := (-1 : Int32)) (mx_dd dd_X4_openFile 12 (20, .iconst (-1), 1) rfl) (by decide) ?_
    refine mx_iconst (pc := 21) (v := (0 : Int32)) (mx_dd dd_X4_openFile 13 (21, .iconst 0, 1) rfl) (by decide) ?_
    obtain ⟨g6, P⟩ := P
    obtain ⟨g7, P⟩ := P
    refine mx_cVR (pc := 22) (Y := mY_X0_open) (As := [.int _, .int _, .int _, .int _]) mx_ml_X4_267 mx_y_X0_open rfl g7 (by decide) rfl (by simp [Value.category]) rfl (mx_dd dd_X4_openFile 14 (22, .invokevirtual 267, 3) rfl) g6 (by decide) P (fun v1 h1 P => ?_)
    obtain ⟨g8, P⟩ := P
    refine mx_cVV (pc := 25) (Y := mY_X2_put) (As := [.int _, va_rf _]) mx_ml_X4_263 mx_y_X2_put rfl g8 (by decide) rfl (by decide) rfl (mx_dd dd_X4_openFile 15 (25, .invokevirtual 263, 3) rfl) g6 (by decide) P (fun h2 P => ?_)
    refine mx_iconst (pc := 28) (v := (1 : Int32)) (mx_dd dd_X4_openFile 16 (28, .iconst 1, 1) rfl) (by decide) ?_
    exact mx_ireturn (pc := 29) (mx_dd dd_X4_openFile 17 (29, .ireturn, 1) rfl) rfl rfl P
  · have P := P.2 c1
    refine mx_iconst (pc := 4) (v := (0 : Int32)) (mx_dd dd_X4_openFile 2 (4, .iconst 0, 1) rfl) (by decide) ?_
    exact mx_ireturn (pc := 5) (mx_dd dd_X4_openFile 3 (5, .ireturn, 1) rfl) rfl rfl P
theorem b_X4_share {d : Nat} {h : mxH} {Q : mxRes → mxH → Prop} (x0 : Nat) (x1 : Int32) (x2 : Option Nat)
    (P : ((x2 = none → Q (.inl (some (.int (0 : Int32)))) h) ∧ (∀ b1 : Nat, x2 = some b1 → hpK h x0 = 4 ∧ ∃ b2 : Nat, hpR h x0 10 = some b2 ∧ hpK h b2 = 8 ∧ ∃ b3 : Nat, hpR h b2 3 = some b3 ∧ 1 ≤ d ∧ hpK h b3 = 2 ∧ mx_SM mY_X2_put (d - 1) [.ref b3, .int x1, va_rf x2] h (mx_KV (fun h1 => Q (.inl (some (.int (1 : Int32)))) h1) (mx_XX mY_X4_share Q))))) : mx_SM mY_X4_share d [.ref x0, .int x1, va_rf x2] h Q := by
  refine mx_SM_of (by decide) (by cases x2 <;> exact Nat.le_of_ble_eq_true rfl) ?_
  show mx_SX mY_X4_share d 0 [(0, .ref x0), (1, .int x1), (2, va_rf x2)] [] h Q
  refine mx_aload_nO (pc := 0) 2 (mx_dd dd_X4_share 0 (0, .aload_n 2, 1) rfl) rfl rfl ?_
  refine mx_ifnonnullO (pc := 1) 6 (mx_dd dd_X4_share 1 (1, .ifnonnull 5, 3) rfl) rfl (fun b1 g1 => ?_) (fun c1 => ?_)
  · have P := P.2 b1 g1
    refine mx_aload_n (pc := 6) 0 (mx_dd dd_X4_share 4 (6, .aload_n 0, 1) rfl) rfl rfl ?_
    obtain ⟨g2, P⟩ := P
    obtain ⟨b2, g3, P⟩ := P
    refine mx_getR (pc := 7) mx_fl_X4_51 g2 rfl g3 (mx_dd dd_X4_share 5 (7, .getfield 51, 3) rfl) ?_
    obtain ⟨g4, P⟩ := P
    obtain ⟨b3, g5, P⟩ := P
    refine mx_getR (pc := 10) mx_fl_X4_71 g4 rfl g5 (mx_dd dd_X4_share 6 (10, .getfield 71, 3) rfl) ?_
    refine mx_iload_n (pc := 13) 1 (mx_dd dd_X4_share 7 (13, .iload_n 1, 1) rfl) rfl rfl ?_
    refine mx_aload_nO (pc := 14) 2 (mx_dd dd_X4_share 8 (14, .aload_n 2, 1) rfl) rfl rfl ?_
    obtain ⟨g6, P⟩ := P
    obtain ⟨g7, P⟩ := P
    refine mx_cVV (pc := 15) (Y := mY_X2_put) (As := [.int _, va_rf _]) mx_ml_X4_263 mx_y_X2_put rfl g7 (by decide) rfl (by decide) rfl (mx_dd dd_X4_share 9 (15, .invokevirtual 263, 3) rfl) g6 (by decide) P (fun h1 P => ?_)
    refine mx_iconst (pc := 18) (v := (1 : Int32)) (mx_dd dd_X4_share 10 (18, .iconst 1, 1) rfl) (by decide) ?_
    exact mx_ireturn (pc := 19) (mx_dd dd_X4_share 11 (19, .ireturn, 1) rfl) rfl rfl P
  · have P := P.1 c1
    refine mx_iconst (pc := 4) (v := (0 : Int32)) (mx_dd dd_X4_share 2 (4, .iconst 0, 1) rfl) (by decide) ?_
    exact mx_ireturn (pc := 5) (mx_dd dd_X4_share 3 (5, .ireturn, 1) rfl) rfl rfl P
theorem b_X4_call {d : Nat} {h : mxH} {Q : mxRes → mxH → Prop} (x0 : Nat) (x1 : Int32)
    (P : hpK h x0 = 4 ∧ ∃ b1 : Nat, hpR h x0 9 = some b1 ∧ 1 ≤ d ∧ hpK h b1 = 7 ∧ mx_SM mY_X7_kindOf (d - 1) [.ref b1, .int x1] h (mx_KI (fun v1 h1 => ((v1.toInt < 0 ∨ 12 < v1.toInt → mx_SX mY_X4_call d 321 [] [] h1 Q) ∧ (v1.toInt = 0 → mx_SX mY_X4_call d 76 [(0, .ref x0), (1, .int x1)] [] h1 Q) ∧ (v1.toInt = 1 → mx_SX mY_X4_call d 91 [(0, .ref x0)] [] h1 Q) ∧ (v1.toInt = 2 → mx_SX mY_X4_call d 102 [(0, .ref x0)] [] h1 Q) ∧ (v1.toInt = 3 → mx_SX mY_X4_call d 113 [(0, .ref x0), (1, .int x1)] [] h1 Q) ∧ (v1.toInt = 4 → mx_SX mY_X4_call d 139 [(0, .ref x0), (1, .int x1)] [] h1 Q) ∧ (v1.toInt = 5 → mx_SX mY_X4_call d 162 [(0, .ref x0), (1, .int x1)] [] h1 Q) ∧ (v1.toInt = 6 → mx_SX mY_X4_call d 185 [(0, .ref x0), (1, .int x1)] [] h1 Q) ∧ (v1.toInt = 7 → mx_SX mY_X4_call d 211 [(0, .ref x0), (1, .int x1)] [] h1 Q) ∧ (v1.toInt = 8 → mx_SX mY_X4_call d 237 [(0, .ref x0), (1, .int x1)] [] h1 Q) ∧ (v1.toInt = 9 → mx_SX mY_X4_call d 263 [(0, .ref x0), (1, .int x1)] [] h1 Q) ∧ (v1.toInt = 10 → mx_SX mY_X4_call d 271 [(0, .ref x0), (1, .int x1)] [] h1 Q) ∧ (v1.toInt = 11 → mx_SX mY_X4_call d 279 [(0, .ref x0), (1, .int x1)] [] h1 Q) ∧ (v1.toInt = 12 → mx_SX mY_X4_call d 306 [(0, .ref x0), (1, .int x1)] [] h1 Q))) (mx_XX mY_X4_call Q))) : mx_SM mY_X4_call d [.ref x0, .int x1] h Q := by
  refine mx_SM_of (by decide) (Nat.le_of_ble_eq_true rfl) ?_
  show mx_SX mY_X4_call d 0 [(0, .ref x0), (1, .int x1)] [] h Q
  refine mx_aload_n (pc := 0) 0 (mx_dd dd_X4_call_0 0 (0, .aload_n 0, 1) rfl) rfl rfl ?_
  obtain ⟨g1, P⟩ := P
  obtain ⟨b1, g2, P⟩ := P
  refine mx_getR (pc := 1) mx_fl_X4_54 g1 rfl g2 (mx_dd dd_X4_call_0 1 (1, .getfield 54, 3) rfl) ?_
  refine mx_iload_n (pc := 4) 1 (mx_dd dd_X4_call_0 2 (4, .iload_n 1, 1) rfl) rfl rfl ?_
  obtain ⟨g3, P⟩ := P
  obtain ⟨g4, P⟩ := P
  refine mx_cVI (pc := 5) (Y := mY_X7_kindOf) (As := [.int _]) mx_ml_X4_212 mx_y_X7_kindOf rfl g4 (by decide) rfl (by decide) rfl (mx_dd dd_X4_call_0 3 (5, .invokevirtual 212, 3) rfl) g3 (by decide) P (fun v1 h1 P => ?_)
  refine mx_tsw (pc := 8) 321 (mx_dd dd_X4_call_0 4 (8, .tableswitch 313 0 12 #[68, 83, 94, 105, 131, 154, 177, 203, 229, 255, 263, 271, 298], 68) rfl) rfl [76, 91, 102, 113, 139, 162, 185, 211, 237, 263, 271, 279, 306] rfl rfl (fun c8 => ?_) ?_
  · have P := P.1 c8
    refine mx_sel [] rfl ?_
    exact P
  · intro j t hj hx
    have hj9 : j < 13 := (List.getElem?_eq_some_iff.mp hj).1
    have hj8 : j = 0 ∨ j = 1 ∨ j = 2 ∨ j = 3 ∨ j = 4 ∨ j = 5 ∨ j = 6 ∨ j = 7 ∨ j = 8 ∨ j = 9 ∨ j = 10 ∨ j = 11 ∨ j = 12 := by omega
    rcases hj8 with rfl | rfl | rfl | rfl | rfl | rfl | rfl | rfl | rfl | rfl | rfl | rfl | rfl
    · cases hj
      have P := P.2.1 (by omega)
      exact P
    · cases hj
      have P := P.2.2.1 (by omega)
      refine mx_sel [0] rfl ?_
      exact P
    · cases hj
      have P := P.2.2.2.1 (by omega)
      refine mx_sel [0] rfl ?_
      exact P
    · cases hj
      have P := P.2.2.2.2.1 (by omega)
      exact P
    · cases hj
      have P := P.2.2.2.2.2.1 (by omega)
      exact P
    · cases hj
      have P := P.2.2.2.2.2.2.1 (by omega)
      exact P
    · cases hj
      have P := P.2.2.2.2.2.2.2.1 (by omega)
      exact P
    · cases hj
      have P := P.2.2.2.2.2.2.2.2.1 (by omega)
      exact P
    · cases hj
      have P := P.2.2.2.2.2.2.2.2.2.1 (by omega)
      exact P
    · cases hj
      have P := P.2.2.2.2.2.2.2.2.2.2.1 (by omega)
      exact P
    · cases hj
      have P := P.2.2.2.2.2.2.2.2.2.2.2.1 (by omega)
      exact P
    · cases hj
      have P := P.2.2.2.2.2.2.2.2.2.2.2.2.1 (by omega)
      exact P
    · cases hj
      have P := P.2.2.2.2.2.2.2.2.2.2.2.2.2 (by omega)
      exact P
theorem b_X4_call_76 {d : Nat} {h : mxH} {Q : mxRes → mxH → Prop} (x0 : Nat) (x1 : Int32)
    (P : hpK h x0 = 4 ∧ ∃ b1 : Nat, hpR h x0 9 = some b1 ∧ 1 ≤ d ∧ hpK h b1 = 7 ∧ mx_SM mY_X7_nameOf (d - 1) [.ref b1, .int x1] h (mx_KL (fun v1 h1 => hpK h1 x0 = 4 ∧ mx_SM mY_X4_callFunction (d - 1) [.ref x0, .long v1] h1 (mx_KV (fun h2 => mx_SX mY_X4_call d 321 [] [] h2 Q) (mx_XX mY_X4_call Q))) (mx_XX mY_X4_call Q))) : mx_SX mY_X4_call d 76 [(0, .ref x0), (1, .int x1)] [] h Q := by
  refine mx_aload_n (pc := 76) 0 (mx_dd dd_X4_call_0 5 (76, .aload_n 0, 1) rfl) rfl rfl ?_
  refine mx_aload_n (pc := 77) 0 (mx_dd dd_X4_call_0 6 (77, .aload_n 0, 1) rfl) rfl rfl ?_
  obtain ⟨g1, P⟩ := P
  obtain ⟨b1, g2, P⟩ := P
  refine mx_getR (pc := 78) mx_fl_X4_54 g1 rfl g2 (mx_dd dd_X4_call_0 7 (78, .getfield 54, 3) rfl) ?_
  refine mx_iload_n (pc := 81) 1 (mx_dd dd_X4_call_0 8 (81, .iload_n 1, 1) rfl) rfl rfl ?_
  obtain ⟨g3, P⟩ := P
  obtain ⟨g4, P⟩ := P
  refine mx_cVL (pc := 82) (Y := mY_X7_nameOf) (As := [.int _]) mx_ml_X4_271 mx_y_X7_nameOf rfl g4 (by decide) rfl (by simp [Value.category]) rfl (mx_dd dd_X4_call_0 9 (82, .invokevirtual 271, 3) rfl) g3 (by decide) P (fun v1 h1 P => ?_)
  obtain ⟨g5, P⟩ := P
  refine mx_cVV (pc := 85) (Y := mY_X4_callFunction) (As := [.long _]) mx_ml_X4_274 mx_y_X4_callFunction rfl g5 (by decide) rfl (by decide) rfl (mx_dd dd_X4_call_0 10 (85, .invokevirtual 274, 3) rfl) g3 (by decide) P (fun h2 P => ?_)
  refine mx_goto (pc := 88) 321 (mx_dd dd_X4_call_0 11 (88, .goto 233, 3) rfl) rfl ?_
  refine mx_sel [] rfl ?_
  exact P
theorem b_X4_call_91 {d : Nat} {h : mxH} {Q : mxRes → mxH → Prop} (x0 : Nat)
    (P : hpK h x0 = 4 ∧ ∃ b1 : Nat, hpR h x0 10 = some b1 ∧ hpK h b1 = 8 ∧ ∀ h1 : mxH, h1 = hsI h b1 6 (0 : Int32) → mx_SX mY_X4_call d 321 [] [] h1 Q) : mx_SX mY_X4_call d 91 [(0, .ref x0)] [] h Q := by
  refine mx_aload_n (pc := 91) 0 (mx_dd dd_X4_call_0 12 (91, .aload_n 0, 1) rfl) rfl rfl ?_
  obtain ⟨g1, P⟩ := P
  obtain ⟨b1, g2, P⟩ := P
  refine mx_getR (pc := 92) mx_fl_X4_51 g1 rfl g2 (mx_dd dd_X4_call_0 13 (92, .getfield 51, 3) rfl) ?_
  refine mx_iconst (pc := 95) (v := (0 : Int32)) (mx_dd dd_X4_call_0 14 (95, .iconst 0, 1) rfl) (by decide) ?_
  obtain ⟨g3, P⟩ := P
  refine mx_putI (pc := 96) mx_fl_X4_142 g3 rfl (.inl rfl) rfl rfl (mx_dd dd_X4_call_0 15 (96, .putfield 142, 3) rfl) ?_
  have P := P _ rfl
  refine mx_goto (pc := 99) 321 (mx_dd dd_X4_call_0 16 (99, .goto 222, 3) rfl) rfl ?_
  refine mx_sel [] rfl ?_
  exact P
theorem b_X4_call_102 {d : Nat} {h : mxH} {Q : mxRes → mxH → Prop} (x0 : Nat)
    (P : hpK h x0 = 4 ∧ ∃ b1 : Nat, hpR h x0 10 = some b1 ∧ hpK h b1 = 8 ∧ ∀ h1 : mxH, h1 = hsI h b1 6 (1 : Int32) → mx_SX mY_X4_call d 321 [] [] h1 Q) : mx_SX mY_X4_call d 102 [(0, .ref x0)] [] h Q := by
  refine mx_aload_n (pc := 102) 0 (mx_dd dd_X4_call_0 17 (102, .aload_n 0, 1) rfl) rfl rfl ?_
  obtain ⟨g1, P⟩ := P
  obtain ⟨b1, g2, P⟩ := P
  refine mx_getR (pc := 103) mx_fl_X4_51 g1 rfl g2 (mx_dd dd_X4_call_0 18 (103, .getfield 51, 3) rfl) ?_
  refine mx_iconst (pc := 106) (v := (1 : Int32)) (mx_dd dd_X4_call_0 19 (106, .iconst 1, 1) rfl) (by decide) ?_
  obtain ⟨g3, P⟩ := P
  refine mx_putI (pc := 107) mx_fl_X4_142 g3 rfl (.inl rfl) rfl rfl (mx_dd dd_X4_call_0 20 (107, .putfield 142, 3) rfl) ?_
  have P := P _ rfl
  refine mx_goto (pc := 110) 321 (mx_dd dd_X4_call_0 21 (110, .goto 211, 3) rfl) rfl ?_
  refine mx_sel [] rfl ?_
  exact P
theorem b_X4_call_113 {d : Nat} {h : mxH} {Q : mxRes → mxH → Prop} (x0 : Nat) (x1 : Int32)
    (P : hpK h x0 = 4 ∧ ∃ b1 : Nat, hpR h x0 10 = some b1 ∧ ∃ b2 : Nat, hpR h x0 2 = some b2 ∧ ∃ b3 : Nat, hpR h x0 9 = some b3 ∧ 1 ≤ d ∧ hpK h b2 = 1 ∧ mx_SM mY_X1_echo (d - 1) [.ref b2, .ref b3, .ref b1, .int x1] h (mx_KI (fun v1 h1 => hpK h1 b1 = 8 ∧ ∀ h2 : mxH, h2 = hsI h1 b1 6 v1 → mx_SX mY_X4_call d 321 [] [] h2 Q) (mx_XX mY_X4_call Q))) : mx_SX mY_X4_call d 113 [(0, .ref x0), (1, .int x1)] [] h Q := by
  refine mx_aload_n (pc := 113) 0 (mx_dd dd_X4_call_0 22 (113, .aload_n 0, 1) rfl) rfl rfl ?_
  obtain ⟨g1, P⟩ := P
  obtain ⟨b1, g2, P⟩ := P
  refine mx_getR (pc := 114) mx_fl_X4_51 g1 rfl g2 (mx_dd dd_X4_call_0 23 (114, .getfield 51, 3) rfl) ?_
  refine mx_aload_n (pc := 117) 0 (mx_dd dd_X4_call_0 24 (117, .aload_n 0, 1) rfl) rfl rfl ?_
  obtain ⟨b2, g3, P⟩ := P
  refine mx_getR (pc := 118) mx_fl_X4_24 g1 rfl g3 (mx_dd dd_X4_call_0 25 (118, .getfield 24, 3) rfl) ?_
  refine mx_aload_n (pc := 121) 0 (mx_dd dd_X4_call_0 26 (121, .aload_n 0, 1) rfl) rfl rfl ?_
  obtain ⟨b3, g4, P⟩ := P
  refine mx_getR (pc := 122) mx_fl_X4_54 g1 rfl g4 (mx_dd dd_X4_call_0 27 (122, .getfield 54, 3) rfl) ?_
  refine mx_aload_n (pc := 125) 0 (mx_dd dd_X4_call_0 28 (125, .aload_n 0, 1) rfl) rfl rfl ?_
  refine mx_getR (pc := 126) mx_fl_X4_51 g1 rfl g2 (mx_dd dd_X4_call_0 29 (126, .getfield 51, 3) rfl) ?_
  refine mx_iload_n (pc := 129) 1 (mx_dd dd_X4_call_0 30 (129, .iload_n 1, 1) rfl) rfl rfl ?_
  obtain ⟨g5, P⟩ := P
  obtain ⟨g6, P⟩ := P
  refine mx_cVI (pc := 130) (Y := mY_X1_echo) (As := [.ref _, .ref _, .int _]) mx_ml_X4_278 mx_y_X1_echo rfl g6 (by decide) rfl (by simp [Value.category]) rfl (mx_dd dd_X4_call_0 31 (130, .invokevirtual 278, 3) rfl) g5 (by decide) P (fun v1 h1 P => ?_)
  obtain ⟨g7, P⟩ := P
  refine mx_putI (pc := 133) mx_fl_X4_142 g7 rfl (.inl rfl) rfl rfl (mx_dd dd_X4_call_0 32 (133, .putfield 142, 3) rfl) ?_
  have P := P _ rfl
  refine mx_goto (pc := 136) 321 (mx_dd dd_X4_call_0 33 (136, .goto 185, 3) rfl) rfl ?_
  refine mx_sel [] rfl ?_
  exact P
theorem b_X4_call_139 {d : Nat} {h : mxH} {Q : mxRes → mxH → Prop} (x0 : Nat) (x1 : Int32)
    (P : hpK h x0 = 4 ∧ ∃ b1 : Nat, hpR h x0 2 = some b1 ∧ ∃ b2 : Nat, hpR h x0 9 = some b2 ∧ ∃ b3 : Nat, hpR h x0 10 = some b3 ∧ 1 ≤ d ∧ hpK h b1 = 1 ∧ mx_SM mY_X1_read (d - 1) [.ref b1, .ref b2, .ref b3, .int x1] h (mx_KI (fun v1 h1 => hpK h1 x0 = 4 ∧ mx_SM mY_X4_goOnOrEnd (d - 1) [.ref x0, .int v1] h1 (mx_KV (fun h2 => mx_SX mY_X4_call d 321 [] [] h2 Q) (mx_XX mY_X4_call Q))) (mx_XX mY_X4_call Q))) : mx_SX mY_X4_call d 139 [(0, .ref x0), (1, .int x1)] [] h Q := by
  refine mx_aload_n (pc := 139) 0 (mx_dd dd_X4_call_0 34 (139, .aload_n 0, 1) rfl) rfl rfl ?_
  refine mx_aload_n (pc := 140) 0 (mx_dd dd_X4_call_0 35 (140, .aload_n 0, 1) rfl) rfl rfl ?_
  obtain ⟨g1, P⟩ := P
  obtain ⟨b1, g2, P⟩ := P
  refine mx_getR (pc := 141) mx_fl_X4_24 g1 rfl g2 (mx_dd dd_X4_call_0 36 (141, .getfield 24, 3) rfl) ?_
  refine mx_aload_n (pc := 144) 0 (mx_dd dd_X4_call_0 37 (144, .aload_n 0, 1) rfl) rfl rfl ?_
  obtain ⟨b2, g3, P⟩ := P
  refine mx_getR (pc := 145) mx_fl_X4_54 g1 rfl g3 (mx_dd dd_X4_call_0 38 (145, .getfield 54, 3) rfl) ?_
  refine mx_aload_n (pc := 148) 0 (mx_dd dd_X4_call_0 39 (148, .aload_n 0, 1) rfl) rfl rfl ?_
  obtain ⟨b3, g4, P⟩ := P
  refine mx_getR (pc := 149) mx_fl_X4_51 g1 rfl g4 (mx_dd dd_X4_call_1 0 (149, .getfield 51, 3) rfl) ?_
  refine mx_iload_n (pc := 152) 1 (mx_dd dd_X4_call_1 1 (152, .iload_n 1, 1) rfl) rfl rfl ?_
  obtain ⟨g5, P⟩ := P
  obtain ⟨g6, P⟩ := P
  refine mx_cVI (pc := 153) (Y := mY_X1_read) (As := [.ref _, .ref _, .int _]) mx_ml_X4_281 mx_y_X1_read rfl g6 (by decide) rfl (by simp [Value.category]) rfl (mx_dd dd_X4_call_1 2 (153, .invokevirtual 281, 3) rfl) g5 (by decide) P (fun v1 h1 P => ?_)
  obtain ⟨g7, P⟩ := P
  refine mx_cVV (pc := 156) (Y := mY_X4_goOnOrEnd) (As := [.int _]) mx_ml_X4_284 mx_y_X4_goOnOrEnd rfl g7 (by decide) rfl (by decide) rfl (mx_dd dd_X4_call_1 3 (156, .invokevirtual 284, 3) rfl) g5 (by decide) P (fun h2 P => ?_)
  refine mx_goto (pc := 159) 321 (mx_dd dd_X4_call_1 4 (159, .goto 162, 3) rfl) rfl ?_
  refine mx_sel [] rfl ?_
  exact P
theorem b_X4_call_162 {d : Nat} {h : mxH} {Q : mxRes → mxH → Prop} (x0 : Nat) (x1 : Int32)
    (P : hpK h x0 = 4 ∧ ∃ b1 : Nat, hpR h x0 2 = some b1 ∧ ∃ b2 : Nat, hpR h x0 9 = some b2 ∧ ∃ b3 : Nat, hpR h x0 10 = some b3 ∧ 1 ≤ d ∧ hpK h b1 = 1 ∧ mx_SM mY_X1_cat (d - 1) [.ref b1, .ref b2, .ref b3, .int x1] h (mx_KI (fun v1 h1 => hpK h1 x0 = 4 ∧ mx_SM mY_X4_goOnOrEnd (d - 1) [.ref x0, .int v1] h1 (mx_KV (fun h2 => mx_SX mY_X4_call d 321 [] [] h2 Q) (mx_XX mY_X4_call Q))) (mx_XX mY_X4_call Q))) : mx_SX mY_X4_call d 162 [(0, .ref x0), (1, .int x1)] [] h Q := by
  refine mx_aload_n (pc := 162) 0 (mx_dd dd_X4_call_1 5 (162, .aload_n 0, 1) rfl) rfl rfl ?_
  refine mx_aload_n (pc := 163) 0 (mx_dd dd_X4_call_1 6 (163, .aload_n 0, 1) rfl) rfl rfl ?_
  obtain ⟨g1, P⟩ := P
  obtain ⟨b1, g2, P⟩ := P
  refine mx_getR (pc := 164) mx_fl_X4_24 g1 rfl g2 (mx_dd dd_X4_call_1 7 (164, .getfield 24, 3) rfl) ?_
  refine mx_aload_n (pc := 167) 0 (mx_dd dd_X4_call_1 8 (167, .aload_n 0, 1) rfl) rfl rfl ?_
  obtain ⟨b2, g3, P⟩ := P
  refine mx_getR (pc := 168) mx_fl_X4_54 g1 rfl g3 (mx_dd dd_X4_call_1 9 (168, .getfield 54, 3) rfl) ?_
  refine mx_aload_n (pc := 171) 0 (mx_dd dd_X4_call_1 10 (171, .aload_n 0, 1) rfl) rfl rfl ?_
  obtain ⟨b3, g4, P⟩ := P
  refine mx_getR (pc := 172) mx_fl_X4_51 g1 rfl g4 (mx_dd dd_X4_call_1 11 (172, .getfield 51, 3) rfl) ?_
  refine mx_iload_n (pc := 175) 1 (mx_dd dd_X4_call_1 12 (175, .iload_n 1, 1) rfl) rfl rfl ?_
  obtain ⟨g5, P⟩ := P
  obtain ⟨g6, P⟩ := P
  refine mx_cVI (pc := 176) (Y := mY_X1_cat) (As := [.ref _, .ref _, .int _]) mx_ml_X4_287 mx_y_X1_cat rfl g6 (by decide) rfl (by simp [Value.category]) rfl (mx_dd dd_X4_call_1 13 (176, .invokevirtual 287, 3) rfl) g5 (by decide) P (fun v1 h1 P => ?_)
  obtain ⟨g7, P⟩ := P
  refine mx_cVV (pc := 179) (Y := mY_X4_goOnOrEnd) (As := [.int _]) mx_ml_X4_284 mx_y_X4_goOnOrEnd rfl g7 (by decide) rfl (by decide) rfl (mx_dd dd_X4_call_1 14 (179, .invokevirtual 284, 3) rfl) g5 (by decide) P (fun h2 P => ?_)
  refine mx_goto (pc := 182) 321 (mx_dd dd_X4_call_1 15 (182, .goto 139, 3) rfl) rfl ?_
  refine mx_sel [] rfl ?_
  exact P
theorem b_X4_call_185 {d : Nat} {h : mxH} {Q : mxRes → mxH → Prop} (x0 : Nat) (x1 : Int32)
    (P : hpK h x0 = 4 ∧ ∃ b1 : Nat, hpR h x0 10 = some b1 ∧ ∃ b2 : Nat, hpR h x0 9 = some b2 ∧ 1 ≤ d ∧ hpK h b2 = 7 ∧ mx_SM mY_X7_argumentsOf (d - 1) [.ref b2, .int x1] h (mx_KI (fun v1 h1 => ((¬ v1 = 0 → hpK h1 b1 = 8 ∧ ∀ h2 : mxH, h2 = hsI h1 b1 6 (2 : Int32) → mx_SX mY_X4_call d 321 [] [] h2 Q) ∧ (v1 = 0 → hpK h1 b1 = 8 ∧ ∀ h3 : mxH, h3 = hsI h1 b1 6 (0 : Int32) → mx_SX mY_X4_call d 321 [] [] h3 Q))) (mx_XX mY_X4_call Q))) : mx_SX mY_X4_call d 185 [(0, .ref x0), (1, .int x1)] [] h Q := by
  refine mx_aload_n (pc := 185) 0 (mx_dd dd_X4_call_1 16 (185, .aload_n 0, 1) rfl) rfl rfl ?_
  obtain ⟨g1, P⟩ := P
  obtain ⟨b1, g2, P⟩ := P
  refine mx_getR (pc := 186) mx_fl_X4_51 g1 rfl g2 (mx_dd dd_X4_call_1 17 (186, .getfield 51, 3) rfl) ?_
  refine mx_aload_n (pc := 189) 0 (mx_dd dd_X4_call_1 18 (189, .aload_n 0, 1) rfl) rfl rfl ?_
  obtain ⟨b2, g3, P⟩ := P
  refine mx_getR (pc := 190) mx_fl_X4_54 g1 rfl g3 (mx_dd dd_X4_call_1 19 (190, .getfield 54, 3) rfl) ?_
  refine mx_iload_n (pc := 193) 1 (mx_dd dd_X4_call_1 20 (193, .iload_n 1, 1) rfl) rfl rfl ?_
  obtain ⟨g4, P⟩ := P
  obtain ⟨g5, P⟩ := P
  refine mx_cVI (pc := 194) (Y := mY_X7_argumentsOf) (As := [.int _]) mx_ml_X4_215 mx_y_X7_argumentsOf rfl g5 (by decide) rfl (by simp [Value.category]) rfl (mx_dd dd_X4_call_1 21 (194, .invokevirtual 215, 3) rfl) g4 (by decide) P (fun v1 h1 P => ?_)
  refine mx_if_ne (pc := 197) 204 (mx_dd dd_X4_call_1 22 (197, .ifCond .ne 7, 3) rfl) rfl (fun c197 => ?_) (fun c197 => ?_)
  · have P := P.1 c197
    refine mx_iconst (pc := 204) (v := (2 : Int32)) (mx_dd dd_X4_call_1 25 (204, .iconst 2, 1) rfl) (by decide) ?_
    obtain ⟨g6, P⟩ := P
    refine mx_putI (pc := 205) mx_fl_X4_142 g6 rfl (.inl rfl) rfl rfl (mx_dd dd_X4_call_1 26 (205, .putfield 142, 3) rfl) ?_
    have P := P _ rfl
    refine mx_goto (pc := 208) 321 (mx_dd dd_X4_call_1 27 (208, .goto 113, 3) rfl) rfl ?_
    refine mx_sel [] rfl ?_
    exact P
  · have P := P.2 c197
    refine mx_iconst (pc := 200) (v := (0 : Int32)) (mx_dd dd_X4_call_1 23 (200, .iconst 0, 1) rfl) (by decide) ?_
    refine mx_goto (pc := 201) 205 (mx_dd dd_X4_call_1 24 (201, .goto 4, 3) rfl) rfl ?_
    obtain ⟨g7, P⟩ := P
    refine mx_putI (pc := 205) mx_fl_X4_142 g7 rfl (.inl rfl) rfl rfl (mx_dd dd_X4_call_1 26 (205, .putfield 142, 3) rfl) ?_
    have P := P _ rfl
    refine mx_goto (pc := 208) 321 (mx_dd dd_X4_call_1 27 (208, .goto 113, 3) rfl) rfl ?_
    refine mx_sel [] rfl ?_
    exact P
theorem b_X4_call_211 {d : Nat} {h : mxH} {Q : mxRes → mxH → Prop} (x0 : Nat) (x1 : Int32)
    (P : hpK h x0 = 4 ∧ ∃ b1 : Nat, hpR h x0 10 = some b1 ∧ ∃ b2 : Nat, hpR h x0 2 = some b2 ∧ ∃ b3 : Nat, hpR h x0 9 = some b3 ∧ 1 ≤ d ∧ hpK h b2 = 1 ∧ mx_SM mY_X1_trap (d - 1) [.ref b2, .ref b3, .ref b1, .int x1] h (mx_KI (fun v1 h1 => hpK h1 b1 = 8 ∧ ∀ h2 : mxH, h2 = hsI h1 b1 6 v1 → mx_SX mY_X4_call d 321 [] [] h2 Q) (mx_XX mY_X4_call Q))) : mx_SX mY_X4_call d 211 [(0, .ref x0), (1, .int x1)] [] h Q := by
  refine mx_aload_n (pc := 211) 0 (mx_dd dd_X4_call_1 28 (211, .aload_n 0, 1) rfl) rfl rfl ?_
  obtain ⟨g1, P⟩ := P
  obtain ⟨b1, g2, P⟩ := P
  refine mx_getR (pc := 212) mx_fl_X4_51 g1 rfl g2 (mx_dd dd_X4_call_1 29 (212, .getfield 51, 3) rfl) ?_
  refine mx_aload_n (pc := 215) 0 (mx_dd dd_X4_call_1 30 (215, .aload_n 0, 1) rfl) rfl rfl ?_
  obtain ⟨b2, g3, P⟩ := P
  refine mx_getR (pc := 216) mx_fl_X4_24 g1 rfl g3 (mx_dd dd_X4_call_1 31 (216, .getfield 24, 3) rfl) ?_
  refine mx_aload_n (pc := 219) 0 (mx_dd dd_X4_call_1 32 (219, .aload_n 0, 1) rfl) rfl rfl ?_
  obtain ⟨b3, g4, P⟩ := P
  refine mx_getR (pc := 220) mx_fl_X4_54 g1 rfl g4 (mx_dd dd_X4_call_1 33 (220, .getfield 54, 3) rfl) ?_
  refine mx_aload_n (pc := 223) 0 (mx_dd dd_X4_call_1 34 (223, .aload_n 0, 1) rfl) rfl rfl ?_
  refine mx_getR (pc := 224) mx_fl_X4_51 g1 rfl g2 (mx_dd dd_X4_call_1 35 (224, .getfield 51, 3) rfl) ?_
  refine mx_iload_n (pc := 227) 1 (mx_dd dd_X4_call_1 36 (227, .iload_n 1, 1) rfl) rfl rfl ?_
  obtain ⟨g5, P⟩ := P
  obtain ⟨g6, P⟩ := P
  refine mx_cVI (pc := 228) (Y := mY_X1_trap) (As := [.ref _, .ref _, .int _]) mx_ml_X4_290 mx_y_X1_trap rfl g6 (by decide) rfl (by simp [Value.category]) rfl (mx_dd dd_X4_call_1 37 (228, .invokevirtual 290, 3) rfl) g5 (by decide) P (fun v1 h1 P => ?_)
  obtain ⟨g7, P⟩ := P
  refine mx_putI (pc := 231) mx_fl_X4_142 g7 rfl (.inl rfl) rfl rfl (mx_dd dd_X4_call_1 38 (231, .putfield 142, 3) rfl) ?_
  have P := P _ rfl
  refine mx_goto (pc := 234) 321 (mx_dd dd_X4_call_1 39 (234, .goto 87, 3) rfl) rfl ?_
  refine mx_sel [] rfl ?_
  exact P
theorem b_X4_call_237 {d : Nat} {h : mxH} {Q : mxRes → mxH → Prop} (x0 : Nat) (x1 : Int32)
    (P : hpK h x0 = 4 ∧ ∃ b1 : Nat, hpR h x0 10 = some b1 ∧ ∃ b2 : Nat, hpR h x0 2 = some b2 ∧ ∃ b3 : Nat, hpR h x0 9 = some b3 ∧ 1 ≤ d ∧ hpK h b2 = 1 ∧ mx_SM mY_X1_set (d - 1) [.ref b2, .ref b3, .ref b1, .int x1] h (mx_KI (fun v1 h1 => hpK h1 b1 = 8 ∧ ∀ h2 : mxH, h2 = hsI h1 b1 6 v1 → mx_SX mY_X4_call d 321 [] [] h2 Q) (mx_XX mY_X4_call Q))) : mx_SX mY_X4_call d 237 [(0, .ref x0), (1, .int x1)] [] h Q := by
  refine mx_aload_n (pc := 237) 0 (mx_dd dd_X4_call_2 0 (237, .aload_n 0, 1) rfl) rfl rfl ?_
  obtain ⟨g1, P⟩ := P
  obtain ⟨b1, g2, P⟩ := P
  refine mx_getR (pc := 238) mx_fl_X4_51 g1 rfl g2 (mx_dd dd_X4_call_2 1 (238, .getfield 51, 3) rfl) ?_
  refine mx_aload_n (pc := 241) 0 (mx_dd dd_X4_call_2 2 (241, .aload_n 0, 1) rfl) rfl rfl ?_
  obtain ⟨b2, g3, P⟩ := P
  refine mx_getR (pc := 242) mx_fl_X4_24 g1 rfl g3 (mx_dd dd_X4_call_2 3 (242, .getfield 24, 3) rfl) ?_
  refine mx_aload_n (pc := 245) 0 (mx_dd dd_X4_call_2 4 (245, .aload_n 0, 1) rfl) rfl rfl ?_
  obtain ⟨b3, g4, P⟩ := P
  refine mx_getR (pc := 246) mx_fl_X4_54 g1 rfl g4 (mx_dd dd_X4_call_2 5 (246, .getfield 54, 3) rfl) ?_
  refine mx_aload_n (pc := 249) 0 (mx_dd dd_X4_call_2 6 (249, .aload_n 0, 1) rfl) rfl rfl ?_
  refine mx_getR (pc := 250) mx_fl_X4_51 g1 rfl g2 (mx_dd dd_X4_call_2 7 (250, .getfield 51, 3) rfl) ?_
  refine mx_iload_n (pc := 253) 1 (mx_dd dd_X4_call_2 8 (253, .iload_n 1, 1) rfl) rfl rfl ?_
  obtain ⟨g5, P⟩ := P
  obtain ⟨g6, P⟩ := P
  refine mx_cVI (pc := 254) (Y := mY_X1_set) (As := [.ref _, .ref _, .int _]) mx_ml_X4_293 mx_y_X1_set rfl g6 (by decide) rfl (by simp [Value.category]) rfl (mx_dd dd_X4_call_2 9 (254, .invokevirtual 293, 3) rfl) g5 (by decide) P (fun v1 h1 P => ?_)
  obtain ⟨g7, P⟩ := P
  refine mx_putI (pc := 257) mx_fl_X4_142 g7 rfl (.inl rfl) rfl rfl (mx_dd dd_X4_call_2 10 (257, .putfield 142, 3) rfl) ?_
  have P := P _ rfl
  refine mx_goto (pc := 260) 321 (mx_dd dd_X4_call_2 11 (260, .goto 61, 3) rfl) rfl ?_
  refine mx_sel [] rfl ?_
  exact P
theorem b_X4_call_263 {d : Nat} {h : mxH} {Q : mxRes → mxH → Prop} (x0 : Nat) (x1 : Int32)
    (P : 1 ≤ d ∧ hpK h x0 = 4 ∧ mx_SM mY_X4_exit (d - 1) [.ref x0, .int x1] h (mx_KV (fun h1 => mx_SX mY_X4_call d 321 [] [] h1 Q) (mx_XX mY_X4_call Q))) : mx_SX mY_X4_call d 263 [(0, .ref x0), (1, .int x1)] [] h Q := by
  refine mx_aload_n (pc := 263) 0 (mx_dd dd_X4_call_2 12 (263, .aload_n 0, 1) rfl) rfl rfl ?_
  refine mx_iload_n (pc := 264) 1 (mx_dd dd_X4_call_2 13 (264, .iload_n 1, 1) rfl) rfl rfl ?_
  obtain ⟨g1, P⟩ := P
  obtain ⟨g2, P⟩ := P
  refine mx_cVV (pc := 265) (Y := mY_X4_exit) (As := [.int _]) mx_ml_X4_296 mx_y_X4_exit rfl g2 (by decide) rfl (by decide) rfl (mx_dd dd_X4_call_2 14 (265, .invokevirtual 296, 3) rfl) g1 (by decide) P (fun h1 P => ?_)
  refine mx_goto (pc := 268) 321 (mx_dd dd_X4_call_2 15 (268, .goto 53, 3) rfl) rfl ?_
  refine mx_sel [] rfl ?_
  exact P
theorem b_X4_call_271 {d : Nat} {h : mxH} {Q : mxRes → mxH → Prop} (x0 : Nat) (x1 : Int32)
    (P : 1 ≤ d ∧ hpK h x0 = 4 ∧ mx_SM mY_X4_raise (d - 1) [.ref x0, .int x1] h (mx_KV (fun h1 => mx_SX mY_X4_call d 321 [] [] h1 Q) (mx_XX mY_X4_call Q))) : mx_SX mY_X4_call d 271 [(0, .ref x0), (1, .int x1)] [] h Q := by
  refine mx_aload_n (pc := 271) 0 (mx_dd dd_X4_call_2 16 (271, .aload_n 0, 1) rfl) rfl rfl ?_
  refine mx_iload_n (pc := 272) 1 (mx_dd dd_X4_call_2 17 (272, .iload_n 1, 1) rfl) rfl rfl ?_
  obtain ⟨g1, P⟩ := P
  obtain ⟨g2, P⟩ := P
  refine mx_cVV (pc := 273) (Y := mY_X4_raise) (As := [.int _]) mx_ml_X4_299 mx_y_X4_raise rfl g2 (by decide) rfl (by decide) rfl (mx_dd dd_X4_call_2 18 (273, .invokevirtual 299, 3) rfl) g1 (by decide) P (fun h1 P => ?_)
  refine mx_goto (pc := 276) 321 (mx_dd dd_X4_call_2 19 (276, .goto 45, 3) rfl) rfl ?_
  refine mx_sel [] rfl ?_
  exact P
theorem b_X4_call_279 {d : Nat} {h : mxH} {Q : mxRes → mxH → Prop} (x0 : Nat) (x1 : Int32)
    (P : hpK h x0 = 4 ∧ ∃ b1 : Nat, hpR h x0 9 = some b1 ∧ 1 ≤ d ∧ hpK h b1 = 7 ∧ mx_SM mY_X7_argumentsOf (d - 1) [.ref b1, .int x1] h (mx_KI (fun v1 h1 => ((¬ v1 = 0 → hpK h1 x0 = 4 ∧ mx_SM mY_X4_waitForOne (d - 1) [.ref x0, .int x1, .int (1 : Int32)] h1 (mx_KV (fun h2 => mx_SX mY_X4_call d 321 [] [] h2 Q) (mx_XX mY_X4_call Q))) ∧ (v1 = 0 → hpK h1 x0 = 4 ∧ mx_SM mY_X4_waitForAll (d - 1) [.ref x0] h1 (mx_KV (fun h3 => mx_SX mY_X4_call d 321 [] [] h3 Q) (mx_XX mY_X4_call Q))))) (mx_XX mY_X4_call Q))) : mx_SX mY_X4_call d 279 [(0, .ref x0), (1, .int x1)] [] h Q := by
  refine mx_aload_n (pc := 279) 0 (mx_dd dd_X4_call_2 20 (279, .aload_n 0, 1) rfl) rfl rfl ?_
  obtain ⟨g1, P⟩ := P
  obtain ⟨b1, g2, P⟩ := P
  refine mx_getR (pc := 280) mx_fl_X4_54 g1 rfl g2 (mx_dd dd_X4_call_2 21 (280, .getfield 54, 3) rfl) ?_
  refine mx_iload_n (pc := 283) 1 (mx_dd dd_X4_call_2 22 (283, .iload_n 1, 1) rfl) rfl rfl ?_
  obtain ⟨g3, P⟩ := P
  obtain ⟨g4, P⟩ := P
  refine mx_cVI (pc := 284) (Y := mY_X7_argumentsOf) (As := [.int _]) mx_ml_X4_215 mx_y_X7_argumentsOf rfl g4 (by decide) rfl (by decide) rfl (mx_dd dd_X4_call_2 23 (284, .invokevirtual 215, 3) rfl) g3 (by decide) P (fun v1 h1 P => ?_)
  refine mx_if_ne (pc := 287) 297 (mx_dd dd_X4_call_2 24 (287, .ifCond .ne 10, 3) rfl) rfl (fun c287 => ?_) (fun c287 => ?_)
  · have P := P.1 c287
    refine mx_aload_n (pc := 297) 0 (mx_dd dd_X4_call_2 28 (297, .aload_n 0, 1) rfl) rfl rfl ?_
    refine mx_iload_n (pc := 298) 1 (mx_dd dd_X4_call_2 29 (298, .iload_n 1, 1) rfl) rfl rfl ?_
    refine mx_iconst (pc := 299) (v := (1 : Int32)) (mx_dd dd_X4_call_2 30 (299, .iconst 1, 1) rfl) (by decide) ?_
    obtain ⟨g5, P⟩ := P
    refine mx_cVV (pc := 300) (Y := mY_X4_waitForOne) (As := [.int _, .int _]) mx_ml_X4_305 mx_y_X4_waitForOne rfl g5 (by decide) rfl (by decide) rfl (mx_dd dd_X4_call_2 31 (300, .invokevirtual 305, 3) rfl) g3 (by decide) P (fun h2 P => ?_)
    refine mx_goto (pc := 303) 321 (mx_dd dd_X4_call_2 32 (303, .goto 18, 3) rfl) rfl ?_
    refine mx_sel [] rfl ?_
    exact P
  · have P := P.2 c287
    refine mx_aload_n (pc := 290) 0 (mx_dd dd_X4_call_2 25 (290, .aload_n 0, 1) rfl) rfl rfl ?_
    obtain ⟨g6, P⟩ := P
    refine mx_cVV (pc := 291) (Y := mY_X4_waitForAll) (As := []) mx_ml_X4_302 mx_y_X4_waitForAll rfl g6 (by decide) rfl (by decide) rfl (mx_dd dd_X4_call_2 26 (291, .invokevirtual 302, 3) rfl) g3 (by decide) P (fun h3 P => ?_)
    refine mx_goto (pc := 294) 321 (mx_dd dd_X4_call_2 27 (294, .goto 27, 3) rfl) rfl ?_
    refine mx_sel [] rfl ?_
    exact P
theorem b_X4_call_306 {d : Nat} {h : mxH} {Q : mxRes → mxH → Prop} (x0 : Nat) (x1 : Int32)
    (P : hpK h x0 = 4 ∧ ∃ b1 : Nat, hpR h x0 10 = some b1 ∧ hpK h b1 = 8 ∧ 1 ≤ d ∧ mx_SM mY_X4_waitForOne (d - 1) [.ref x0, .int x1, .int (hpI h b1 5)] h (mx_KV (fun h1 => mx_SX mY_X4_call d 321 [] [] h1 Q) (mx_XX mY_X4_call Q))) : mx_SX mY_X4_call d 306 [(0, .ref x0), (1, .int x1)] [] h Q := by
  refine mx_aload_n (pc := 306) 0 (mx_dd dd_X4_call_2 33 (306, .aload_n 0, 1) rfl) rfl rfl ?_
  refine mx_iload_n (pc := 307) 1 (mx_dd dd_X4_call_2 34 (307, .iload_n 1, 1) rfl) rfl rfl ?_
  refine mx_aload_n (pc := 308) 0 (mx_dd dd_X4_call_2 35 (308, .aload_n 0, 1) rfl) rfl rfl ?_
  obtain ⟨g1, P⟩ := P
  obtain ⟨b1, g2, P⟩ := P
  refine mx_getR (pc := 309) mx_fl_X4_51 g1 rfl g2 (mx_dd dd_X4_call_2 36 (309, .getfield 51, 3) rfl) ?_
  obtain ⟨g3, P⟩ := P
  refine mx_getI (pc := 312) mx_fl_X4_309 g3 rfl (mx_dd dd_X4_call_2 37 (312, .getfield 309, 3) rfl) ?_
  obtain ⟨g4, P⟩ := P
  refine mx_cVV (pc := 315) (Y := mY_X4_waitForOne) (As := [.int _, .int _]) mx_ml_X4_305 mx_y_X4_waitForOne rfl g1 (by decide) rfl (by decide) rfl (mx_dd dd_X4_call_2 38 (315, .invokevirtual 305, 3) rfl) g4 (by decide) P (fun h1 P => ?_)
  refine mx_goto (pc := 318) 321 (mx_dd dd_X4_call_2 39 (318, .goto 3, 3) rfl) rfl ?_
  refine mx_sel [] rfl ?_
  exact P
theorem b_X4_call_321 {d : Nat} {h : mxH} {Q : mxRes → mxH → Prop} 
    (P : Q (.inl none) h) : mx_SX mY_X4_call d 321 [] [] h Q := by
  exact mx_return (pc := 321) (mx_dd dd_X4_call_3 0 (321, .return_, 1) rfl) rfl P
theorem b_X4_goOnOrEnd {d : Nat} {h : mxH} {Q : mxRes → mxH → Prop} (x0 : Nat) (x1 : Int32)
    (P : ((¬ x1 = (-2 : Int32) → hpK h x0 = 4 ∧ ∃ b1 : Nat, hpR h x0 10 = some b1 ∧ hpK h b1 = 8 ∧ ∀ h1 : mxH, h1 = hsI h b1 6 x1 → Q (.inl none) h1) ∧ (x1 = (-2 : Int32) → 1 ≤ d ∧ hpK h x0 = 4 ∧ mx_SM mY_X4_endWith (d - 1) [.ref x0, .int (149 : Int32)] h (mx_KV (fun h2 => Q (.inl none) h2) (mx_XX mY_X4_goOnOrEnd Q))))) : mx_SM mY_X4_goOnOrEnd d [.ref x0, .int x1] h Q := by
  refine mx_SM_of (by decide) (Nat.le_of_ble_eq_true rfl) ?_
  show mx_SX mY_X4_goOnOrEnd d 0 [(0, .ref x0), (1, .int x1)] [] h Q
  refine mx_iload_n (pc := 0) 1 (mx_dd dd_X4_goOnOrEnd 0 (0, .iload_n 1, 1) rfl) rfl rfl ?_
  refine mx_bipush (pc := 1) (v := (-2 : Int32)) (mx_dd dd_X4_goOnOrEnd 1 (1, .bipush (-2), 2) rfl) (by decide) ?_
  refine mx_icmp_ne (pc := 3) 16 (mx_dd dd_X4_goOnOrEnd 2 (3, .if_icmp .ne 13, 3) rfl) rfl (fun c3 => ?_) (fun c3 => ?_)
  · have P := P.1 c3
    refine mx_aload_n (pc := 16) 0 (mx_dd dd_X4_goOnOrEnd 7 (16, .aload_n 0, 1) rfl) rfl rfl ?_
    obtain ⟨g1, P⟩ := P
    obtain ⟨b1, g2, P⟩ := P
    refine mx_getR (pc := 17) mx_fl_X4_51 g1 rfl g2 (mx_dd dd_X4_goOnOrEnd 8 (17, .getfield 51, 3) rfl) ?_
    refine mx_iload_n (pc := 20) 1 (mx_dd dd_X4_goOnOrEnd 9 (20, .iload_n 1, 1) rfl) rfl rfl ?_
    obtain ⟨g3, P⟩ := P
    refine mx_putI (pc := 21) mx_fl_X4_142 g3 rfl (.inl rfl) rfl rfl (mx_dd dd_X4_goOnOrEnd 10 (21, .putfield 142, 3) rfl) ?_
    have P := P _ rfl
    exact mx_return (pc := 24) (mx_dd dd_X4_goOnOrEnd 11 (24, .return_, 1) rfl) rfl P
  · have P := P.2 c3
    refine mx_aload_n (pc := 6) 0 (mx_dd dd_X4_goOnOrEnd 3 (6, .aload_n 0, 1) rfl) rfl rfl ?_
    refine mx_sipush (pc := 7) (v := (149 : Int32)) (mx_dd dd_X4_goOnOrEnd 4 (7, .sipush 149, 3) rfl) (by decide) ?_
    obtain ⟨g4, P⟩ := P
    obtain ⟨g5, P⟩ := P
    refine mx_cVV (pc := 10) (Y := mY_X4_endWith) (As := [.int _]) mx_ml_X4_312 mx_y_X4_endWith rfl g5 (by decide) rfl (by decide) rfl (mx_dd dd_X4_goOnOrEnd 5 (10, .invokevirtual 312, 3) rfl) g4 (by decide) P (fun h2 P => ?_)
    refine mx_goto (pc := 13) 24 (mx_dd dd_X4_goOnOrEnd 6 (13, .goto 11, 3) rfl) rfl ?_
    exact mx_return (pc := 24) (mx_dd dd_X4_goOnOrEnd 11 (24, .return_, 1) rfl) rfl P
theorem b_X4_exit {d : Nat} {h : mxH} {Q : mxRes → mxH → Prop} (x0 : Nat) (x1 : Int32)
    (P : hpK h x0 = 4 ∧ ∃ b1 : Nat, hpR h x0 9 = some b1 ∧ 1 ≤ d ∧ hpK h b1 = 7 ∧ mx_SM mY_X7_argumentsOf (d - 1) [.ref b1, .int x1] h (mx_KI (fun v1 h1 => hpK h1 x0 = 4 ∧ ∃ b2 : Nat, hpR h1 x0 2 = some b2 ∧ ∃ b3 : Nat, hpR h1 x0 9 = some b3 ∧ ∃ b4 : Nat, hpR h1 x0 10 = some b4 ∧ hpK h1 b2 = 1 ∧ mx_SM mY_X1_numberArgument (d - 1) [.ref b2, .ref b3, .ref b4, .int x1, .int (0 : Int32)] h1 (mx_KI (fun v2 h2 => ((¬ v1 = 0 → ((¬ v1 = (1 : Int32) → hpK h2 x0 = 4 ∧ ∃ b5 : Nat, hpR h2 x0 10 = some b5 ∧ hpK h2 b5 = 8 ∧ ∀ h3 : mxH, h3 = hsI h2 b5 6 (2 : Int32) → Q (.inl none) h3) ∧ (v1 = (1 : Int32) → ((v2 < 0 → hpK h2 x0 = 4 ∧ ∃ b6 : Nat, hpR h2 x0 10 = some b6 ∧ hpK h2 b6 = 8 ∧ ∀ h4 : mxH, h4 = hsI h2 b6 6 (2 : Int32) → Q (.inl none) h4) ∧ (¬ v2 < 0 → hpK h2 x0 = 4 ∧ mx_SM mY_X4_endWith (d - 1) [.ref x0, .int (v2 - v2 / (256 : Int32) * (256 : Int32))] h2 (mx_KV (fun h5 => Q (.inl none) h5) (mx_XX mY_X4_exit Q))))))) ∧ (v1 = 0 → hpK h2 x0 = 4 ∧ ∃ b7 : Nat, hpR h2 x0 10 = some b7 ∧ hpK h2 b7 = 8 ∧ mx_SM mY_X4_endWith (d - 1) [.ref x0, .int (hpI h2 b7 6)] h2 (mx_KV (fun h6 => Q (.inl none) h6) (mx_XX mY_X4_exit Q))))) (mx_XX mY_X4_exit Q))) (mx_XX mY_X4_exit Q))) : mx_SM mY_X4_exit d [.ref x0, .int x1] h Q := by
  refine mx_SM_of (by decide) (Nat.le_of_ble_eq_true rfl) ?_
  show mx_SX mY_X4_exit d 0 [(0, .ref x0), (1, .int x1)] [] h Q
  refine mx_aload_n (pc := 0) 0 (mx_dd dd_X4_exit 0 (0, .aload_n 0, 1) rfl) rfl rfl ?_
  obtain ⟨g1, P⟩ := P
  obtain ⟨b1, g2, P⟩ := P
  refine mx_getR (pc := 1) mx_fl_X4_54 g1 rfl g2 (mx_dd dd_X4_exit 1 (1, .getfield 54, 3) rfl) ?_
  refine mx_iload_n (pc := 4) 1 (mx_dd dd_X4_exit 2 (4, .iload_n 1, 1) rfl) rfl rfl ?_
  obtain ⟨g3, P⟩ := P
  obtain ⟨g4, P⟩ := P
  refine mx_cVI (pc := 5) (Y := mY_X7_argumentsOf) (As := [.int _]) mx_ml_X4_215 mx_y_X7_argumentsOf rfl g4 (by decide) rfl (by decide) rfl (mx_dd dd_X4_exit 3 (5, .invokevirtual 215, 3) rfl) g3 (by decide) P (fun v1 h1 P => ?_)
  refine mx_istore_n (pc := 8) (mx_dd dd_X4_exit 4 (8, .istore_n 2, 1) rfl) rfl (by decide) (lv' := [(2, _), (0, _), (1, _)]) rfl ?_
  refine mx_aload_n (pc := 9) 1 (mx_dd dd_X4_exit 5 (9, .aload_n 0, 1) rfl) rfl rfl ?_
  obtain ⟨g5, P⟩ := P
  obtain ⟨b2, g6, P⟩ := P
  refine mx_getR (pc := 10) mx_fl_X4_24 g5 rfl g6 (mx_dd dd_X4_exit 6 (10, .getfield 24, 3) rfl) ?_
  refine mx_aload_n (pc := 13) 1 (mx_dd dd_X4_exit 7 (13, .aload_n 0, 1) rfl) rfl rfl ?_
  obtain ⟨b3, g7, P⟩ := P
  refine mx_getR (pc := 14) mx_fl_X4_54 g5 rfl g7 (mx_dd dd_X4_exit 8 (14, .getfield 54, 3) rfl) ?_
  refine mx_aload_n (pc := 17) 1 (mx_dd dd_X4_exit 9 (17, .aload_n 0, 1) rfl) rfl rfl ?_
  obtain ⟨b4, g8, P⟩ := P
  refine mx_getR (pc := 18) mx_fl_X4_51 g5 rfl g8 (mx_dd dd_X4_exit 10 (18, .getfield 51, 3) rfl) ?_
  refine mx_iload_n (pc := 21) 2 (mx_dd dd_X4_exit 11 (21, .iload_n 1, 1) rfl) rfl rfl ?_
  refine mx_iconst (pc := 22) (v := (0 : Int32)) (mx_dd dd_X4_exit 12 (22, .iconst 0, 1) rfl) (by decide) ?_
  obtain ⟨g9, P⟩ := P
  refine mx_cVI (pc := 23) (Y := mY_X1_numberArgument) (As := [.ref _, .ref _, .int _, .int _]) mx_ml_X4_315 mx_y_X1_numberArgument rfl g9 (by decide) rfl (by decide) rfl (mx_dd dd_X4_exit 13 (23, .invokevirtual 315, 3) rfl) g3 (by decide) P (fun v2 h2 P => ?_)
  refine mx_istore_n (pc := 26) (mx_dd dd_X4_exit 14 (26, .istore_n 3, 1) rfl) rfl (by decide) (lv' := [(3, _), (2, _), (0, _), (1, _)]) rfl ?_
  refine mx_iload_n (pc := 27) 1 (mx_dd dd_X4_exit 15 (27, .iload_n 2, 1) rfl) rfl rfl ?_
  refine mx_if_ne (pc := 28) 45 (mx_dd dd_X4_exit 16 (28, .ifCond .ne 17, 3) rfl) rfl (fun c28 => ?_) (fun c28 => ?_)
  · have P := P.1 c28
    refine mx_iload_n (pc := 45) 1 (mx_dd dd_X4_exit 23 (45, .iload_n 2, 1) rfl) rfl rfl ?_
    refine mx_iconst (pc := 46) (v := (1 : Int32)) (mx_dd dd_X4_exit 24 (46, .iconst 1, 1) rfl) (by decide) ?_
    refine mx_icmp_ne (pc := 47) 66 (mx_dd dd_X4_exit 25 (47, .if_icmp .ne 19, 3) rfl) rfl (fun c47 => ?_) (fun c47 => ?_)
    · have P := P.1 c47
      refine mx_aload_n (pc := 66) 2 (mx_dd dd_X4_exit 34 (66, .aload_n 0, 1) rfl) rfl rfl ?_
      obtain ⟨g10, P⟩ := P
      obtain ⟨b5, g11, P⟩ := P
      refine mx_getR (pc := 67) mx_fl_X4_51 g10 rfl g11 (mx_dd dd_X4_exit 35 (67, .getfield 51, 3) rfl) ?_
      refine mx_iconst (pc := 70) (v := (2 : Int32)) (mx_dd dd_X4_exit 36 (70, .iconst 2, 1) rfl) (by decide) ?_
      obtain ⟨g12, P⟩ := P
      refine mx_putI (pc := 71) mx_fl_X4_142 g12 rfl (.inl rfl) rfl rfl (mx_dd dd_X4_exit 37 (71, .putfield 142, 3) rfl) ?_
      have P := P _ rfl
      exact mx_return (pc := 74) (mx_dd dd_X4_exit 38 (74, .return_, 1) rfl) rfl P
    · have P := P.2 c47
      refine mx_iload_n (pc := 50) 0 (mx_dd dd_X4_exit 26 (50, .iload_n 3, 1) rfl) rfl rfl ?_
      refine mx_if_lt (pc := 51) 66 (mx_dd dd_X4_exit 27 (51, .ifCond .lt 15, 3) rfl) rfl (fun c51 => ?_) (fun c51 => ?_)
      · have P := P.1 c51
        refine mx_aload_n (pc := 66) 2 (mx_dd dd_X4_exit 34 (66, .aload_n 0, 1) rfl) rfl rfl ?_
        obtain ⟨g13, P⟩ := P
        obtain ⟨b6, g14, P⟩ := P
        refine mx_getR (pc := 67) mx_fl_X4_51 g13 rfl g14 (mx_dd dd_X4_exit 35 (67, .getfield 51, 3) rfl) ?_
        refine mx_iconst (pc := 70) (v := (2 : Int32)) (mx_dd dd_X4_exit 36 (70, .iconst 2, 1) rfl) (by decide) ?_
        obtain ⟨g15, P⟩ := P
        refine mx_putI (pc := 71) mx_fl_X4_142 g15 rfl (.inl rfl) rfl rfl (mx_dd dd_X4_exit 37 (71, .putfield 142, 3) rfl) ?_
        have P := P _ rfl
        exact mx_return (pc := 74) (mx_dd dd_X4_exit 38 (74, .return_, 1) rfl) rfl P
      · have P := P.2 c51
        refine mx_aload_n (pc := 54) 2 (mx_dd dd_X4_exit 28 (54, .aload_n 0, 1) rfl) rfl rfl ?_
        refine mx_iload_n (pc := 55) 0 (mx_dd dd_X4_exit 29 (55, .iload_n 3, 1) rfl) rfl rfl ?_
        refine mx_sipush (pc := 56) (v := (256 : Int32)) (mx_dd dd_X4_exit 30 (56, .sipush 256, 3) rfl) (by decide) ?_
        refine mx_irem (pc := 59) (mx_dd dd_X4_exit 31 (59, .irem, 1) rfl) (by decide) ?_
        obtain ⟨g16, P⟩ := P
        refine mx_cVV (pc := 60) (Y := mY_X4_endWith) (As := [.int _]) mx_ml_X4_312 mx_y_X4_endWith rfl g16 (by decide) rfl (by decide) rfl (mx_dd dd_X4_exit 32 (60, .invokevirtual 312, 3) rfl) g3 (by decide) P (fun h5 P => ?_)
        refine mx_goto (pc := 63) 74 (mx_dd dd_X4_exit 33 (63, .goto 11, 3) rfl) rfl ?_
        exact mx_return (pc := 74) (mx_dd dd_X4_exit 38 (74, .return_, 1) rfl) rfl P
  · have P := P.2 c28
    refine mx_aload_n (pc := 31) 2 (mx_dd dd_X4_exit 17 (31, .aload_n 0, 1) rfl) rfl rfl ?_
    refine mx_aload_n (pc := 32) 2 (mx_dd dd_X4_exit 18 (32, .aload_n 0, 1) rfl) rfl rfl ?_
    obtain ⟨g17, P⟩ := P
    obtain ⟨b7, g18, P⟩ := P
    refine mx_getR (pc := 33) mx_fl_X4_51 g17 rfl g18 (mx_dd dd_X4_exit 19 (33, .getfield 51, 3) rfl) ?_
    obtain ⟨g19, P⟩ := P
    refine mx_getI (pc := 36) mx_fl_X4_142 g19 rfl (mx_dd dd_X4_exit 20 (36, .getfield 142, 3) rfl) ?_
    refine mx_cVV (pc := 39) (Y := mY_X4_endWith) (As := [.int _]) mx_ml_X4_312 mx_y_X4_endWith rfl g17 (by decide) rfl (by decide) rfl (mx_dd dd_X4_exit 21 (39, .invokevirtual 312, 3) rfl) g3 (by decide) P (fun h6 P => ?_)
    refine mx_goto (pc := 42) 74 (mx_dd dd_X4_exit 22 (42, .goto 32, 3) rfl) rfl ?_
    exact mx_return (pc := 74) (mx_dd dd_X4_exit 38 (74, .return_, 1) rfl) rfl P
theorem b_X4_endWith {d : Nat} {h : mxH} {Q : mxRes → mxH → Prop} (x0 : Nat) (x1 : Int32)
    (P : hpK h x0 = 4 ∧ ∃ b1 : Nat, hpR h x0 10 = some b1 ∧ hpK h b1 = 8 ∧ ∀ h1 : mxH, h1 = hsI h b1 6 x1 → ∃ b2 : Nat, hpR h1 x0 9 = some b2 ∧ 1 ≤ d ∧ hpK h1 b2 = 7 ∧ mx_SM mY_X7_end (d - 1) [.ref b2] h1 (mx_KI (fun v1 h2 => hpK h2 x0 = 4 ∧ ∀ h3 : mxH, h3 = hsI h2 x0 11 v1 → Q (.inl none) h3) (mx_XX mY_X4_endWith Q))) : mx_SM mY_X4_endWith d [.ref x0, .int x1] h Q := by
  refine mx_SM_of (by decide) (Nat.le_of_ble_eq_true rfl) ?_
  show mx_SX mY_X4_endWith d 0 [(0, .ref x0), (1, .int x1)] [] h Q
  refine mx_aload_n (pc := 0) 0 (mx_dd dd_X4_endWith 0 (0, .aload_n 0, 1) rfl) rfl rfl ?_
  obtain ⟨g1, P⟩ := P
  obtain ⟨b1, g2, P⟩ := P
  refine mx_getR (pc := 1) mx_fl_X4_51 g1 rfl g2 (mx_dd dd_X4_endWith 1 (1, .getfield 51, 3) rfl) ?_
  refine mx_iload_n (pc := 4) 1 (mx_dd dd_X4_endWith 2 (4, .iload_n 1, 1) rfl) rfl rfl ?_
  obtain ⟨g3, P⟩ := P
  refine mx_putI (pc := 5) mx_fl_X4_142 g3 rfl (.inl rfl) rfl rfl (mx_dd dd_X4_endWith 3 (5, .putfield 142, 3) rfl) ?_
  have P := P _ rfl
  refine mx_aload_n (pc := 8) 0 (mx_dd dd_X4_endWith 4 (8, .aload_n 0, 1) rfl) rfl rfl ?_
  refine mx_aload_n (pc := 9) 0 (mx_dd dd_X4_endWith 5 (9, .aload_n 0, 1) rfl) rfl rfl ?_
  obtain ⟨b2, g4, P⟩ := P
  refine mx_getR (pc := 10) mx_fl_X4_54 g1 rfl g4 (mx_dd dd_X4_endWith 6 (10, .getfield 54, 3) rfl) ?_
  obtain ⟨g5, P⟩ := P
  obtain ⟨g6, P⟩ := P
  refine mx_cVI (pc := 13) (Y := mY_X7_end) (As := []) mx_ml_X4_319 mx_y_X7_end rfl g6 (by decide) rfl (by simp [Value.category]) rfl (mx_dd dd_X4_endWith 7 (13, .invokevirtual 319, 3) rfl) g5 (by decide) P (fun v1 h2 P => ?_)
  obtain ⟨g7, P⟩ := P
  refine mx_putI (pc := 16) mx_fl_X4_85 g7 rfl (.inl rfl) rfl rfl (mx_dd dd_X4_endWith 8 (16, .putfield 85, 3) rfl) ?_
  have P := P _ rfl
  exact mx_return (pc := 19) (mx_dd dd_X4_endWith 9 (19, .return_, 1) rfl) rfl P
theorem b_X4_define {d : Nat} {h : mxH} {Q : mxRes → mxH → Prop} (x0 : Nat) (x1 : Int32) (x2 : Int32)
    (P : hpK h x0 = 4 ∧ ∃ b1 : Nat, hpR h x0 10 = some b1 ∧ hpK h b1 = 8 ∧ ∃ b2 : Nat, hpR h b1 1 = some b2 ∧ ∃ b3 : Nat, hpR h x0 9 = some b3 ∧ 1 ≤ d ∧ hpK h b3 = 7 ∧ mx_SM mY_X7_nameOf (d - 1) [.ref b3, .int x1] h (mx_KL (fun v1 h1 => hpK h1 x0 = 4 ∧ hpK h1 b2 = 9 ∧ mx_SM mY_X9_put (d - 1) [.ref b2, .long v1, .int (hpI h1 x0 11)] h1 (mx_KI (fun v2 h2 => ((v2 = 0 → hpK h2 b1 = 8 ∧ ∀ h3 : mxH, h3 = hsI h2 b1 6 (1 : Int32) → hpK h3 x0 = 4 ∧ ∀ h4 : mxH, h4 = hsI h3 x0 11 x2 → Q (.inl none) h4) ∧ (¬ v2 = 0 → hpK h2 b1 = 8 ∧ ∀ h5 : mxH, h5 = hsI h2 b1 6 (0 : Int32) → hpK h5 x0 = 4 ∧ ∀ h6 : mxH, h6 = hsI h5 x0 11 x2 → Q (.inl none) h6))) (mx_XX mY_X4_define Q))) (mx_XX mY_X4_define Q))) : mx_SM mY_X4_define d [.ref x0, .int x1, .int x2] h Q := by
  refine mx_SM_of (by decide) (Nat.le_of_ble_eq_true rfl) ?_
  show mx_SX mY_X4_define d 0 [(0, .ref x0), (1, .int x1), (2, .int x2)] [] h Q
  refine mx_aload_n (pc := 0) 0 (mx_dd dd_X4_define 0 (0, .aload_n 0, 1) rfl) rfl rfl ?_
  obtain ⟨g1, P⟩ := P
  obtain ⟨b1, g2, P⟩ := P
  refine mx_getR (pc := 1) mx_fl_X4_51 g1 rfl g2 (mx_dd dd_X4_define 1 (1, .getfield 51, 3) rfl) ?_
  refine mx_aload_n (pc := 4) 0 (mx_dd dd_X4_define 2 (4, .aload_n 0, 1) rfl) rfl rfl ?_
  refine mx_getR (pc := 5) mx_fl_X4_51 g1 rfl g2 (mx_dd dd_X4_define 3 (5, .getfield 51, 3) rfl) ?_
  obtain ⟨g3, P⟩ := P
  obtain ⟨b2, g4, P⟩ := P
  refine mx_getR (pc := 8) mx_fl_X4_323 g3 rfl g4 (mx_dd dd_X4_define 4 (8, .getfield 323, 3) rfl) ?_
  refine mx_aload_n (pc := 11) 0 (mx_dd dd_X4_define 5 (11, .aload_n 0, 1) rfl) rfl rfl ?_
  obtain ⟨b3, g5, P⟩ := P
  refine mx_getR (pc := 12) mx_fl_X4_54 g1 rfl g5 (mx_dd dd_X4_define 6 (12, .getfield 54, 3) rfl) ?_
  refine mx_iload_n (pc := 15) 1 (mx_dd dd_X4_define 7 (15, .iload_n 1, 1) rfl) rfl rfl ?_
  obtain ⟨g6, P⟩ := P
  obtain ⟨g7, P⟩ := P
  refine mx_cVL (pc := 16) (Y := mY_X7_nameOf) (As := [.int _]) mx_ml_X4_271 mx_y_X7_nameOf rfl g7 (by decide) rfl (by simp [Value.category]) rfl (mx_dd dd_X4_define 8 (16, .invokevirtual 271, 3) rfl) g6 (by decide) P (fun v1 h1 P => ?_)
  refine mx_aload_n (pc := 19) 0 (mx_dd dd_X4_define 9 (19, .aload_n 0, 1) rfl) rfl rfl ?_
  obtain ⟨g8, P⟩ := P
  refine mx_getI (pc := 20) mx_fl_X4_85 g8 rfl (mx_dd dd_X4_define 10 (20, .getfield 85, 3) rfl) ?_
  obtain ⟨g9, P⟩ := P
  refine mx_cVI (pc := 23) (Y := mY_X9_put) (As := [.long _, .int _]) mx_ml_X4_327 mx_y_X9_put rfl g9 (by decide) rfl (by simp [Value.category]) rfl (mx_dd dd_X4_define 11 (23, .invokevirtual 327, 3) rfl) g6 (by decide) P (fun v2 h2 P => ?_)
  refine mx_if_eq (pc := 26) 33 (mx_dd dd_X4_define 12 (26, .ifCond .eq 7, 3) rfl) rfl (fun c26 => ?_) (fun c26 => ?_)
  · have P := P.1 c26
    refine mx_iconst (pc := 33) (v := (1 : Int32)) (mx_dd dd_X4_define 15 (33, .iconst 1, 1) rfl) (by decide) ?_
    obtain ⟨g10, P⟩ := P
    refine mx_putI (pc := 34) mx_fl_X4_142 g10 rfl (.inl rfl) rfl rfl (mx_dd dd_X4_define 16 (34, .putfield 142, 3) rfl) ?_
    have P := P _ rfl
    refine mx_aload_n (pc := 37) 0 (mx_dd dd_X4_define 17 (37, .aload_n 0, 1) rfl) rfl rfl ?_
    refine mx_iload_n (pc := 38) 2 (mx_dd dd_X4_define 18 (38, .iload_n 2, 1) rfl) rfl rfl ?_
    obtain ⟨g11, P⟩ := P
    refine mx_putI (pc := 39) mx_fl_X4_85 g11 rfl (.inl rfl) rfl rfl (mx_dd dd_X4_define 19 (39, .putfield 85, 3) rfl) ?_
    have P := P _ rfl
    exact mx_return (pc := 42) (mx_dd dd_X4_define 20 (42, .return_, 1) rfl) rfl P
  · have P := P.2 c26
    refine mx_iconst (pc := 29) (v := (0 : Int32)) (mx_dd dd_X4_define 13 (29, .iconst 0, 1) rfl) (by decide) ?_
    refine mx_goto (pc := 30) 34 (mx_dd dd_X4_define 14 (30, .goto 4, 3) rfl) rfl ?_
    obtain ⟨g12, P⟩ := P
    refine mx_putI (pc := 34) mx_fl_X4_142 g12 rfl (.inl rfl) rfl rfl (mx_dd dd_X4_define 16 (34, .putfield 142, 3) rfl) ?_
    have P := P _ rfl
    refine mx_aload_n (pc := 37) 0 (mx_dd dd_X4_define 17 (37, .aload_n 0, 1) rfl) rfl rfl ?_
    refine mx_iload_n (pc := 38) 2 (mx_dd dd_X4_define 18 (38, .iload_n 2, 1) rfl) rfl rfl ?_
    obtain ⟨g13, P⟩ := P
    refine mx_putI (pc := 39) mx_fl_X4_85 g13 rfl (.inl rfl) rfl rfl (mx_dd dd_X4_define 19 (39, .putfield 85, 3) rfl) ?_
    have P := P _ rfl
    exact mx_return (pc := 42) (mx_dd dd_X4_define 20 (42, .return_, 1) rfl) rfl P
theorem b_X4_callFunction {d : Nat} {h : mxH} {Q : mxRes → mxH → Prop} (x0 : Nat) (x1 : Int64)
    (P : hpK h x0 = 4 ∧ ∃ b1 : Nat, hpR h x0 10 = some b1 ∧ hpK h b1 = 8 ∧ ∃ b2 : Nat, hpR h b1 1 = some b2 ∧ 1 ≤ d ∧ hpK h b2 = 9 ∧ mx_SM mY_X9_find (d - 1) [.ref b2, .long x1] h (mx_KI (fun v1 h1 => ((0 ≤ v1 → hpK h1 x0 = 4 ∧ ∃ b3 : Nat, hpR h1 x0 10 = some b3 ∧ hpK h1 b3 = 8 ∧ (((hpI h1 b3 8) < (4 : Int32) → mx_SM mY_X4_enterFunction (d - 1) [.ref x0, .int (2 : Int32), .int v1] h1 (mx_KV (fun h2 => Q (.inl none) h2) (mx_XX mY_X4_callFunction Q))) ∧ (¬ (hpI h1 b3 8) < (4 : Int32) → ∀ h3 : mxH, h3 = hsI h1 b3 6 (126 : Int32) → Q (.inl none) h3))) ∧ (¬ 0 ≤ v1 → hpK h1 x0 = 4 ∧ ∃ b4 : Nat, hpR h1 x0 10 = some b4 ∧ hpK h1 b4 = 8 ∧ ∀ h4 : mxH, h4 = hsI h1 b4 6 (127 : Int32) → Q (.inl none) h4))) (mx_XX mY_X4_callFunction Q))) : mx_SM mY_X4_callFunction d [.ref x0, .long x1] h Q := by
  refine mx_SM_of (by decide) (Nat.le_of_ble_eq_true rfl) ?_
  show mx_SX mY_X4_callFunction d 0 [(0, .ref x0), (1, .long x1)] [] h Q
  refine mx_aload_n (pc := 0) 0 (mx_dd dd_X4_callFunction 0 (0, .aload_n 0, 1) rfl) rfl rfl ?_
  obtain ⟨g1, P⟩ := P
  obtain ⟨b1, g2, P⟩ := P
  refine mx_getR (pc := 1) mx_fl_X4_51 g1 rfl g2 (mx_dd dd_X4_callFunction 1 (1, .getfield 51, 3) rfl) ?_
  obtain ⟨g3, P⟩ := P
  obtain ⟨b2, g4, P⟩ := P
  refine mx_getR (pc := 4) mx_fl_X4_323 g3 rfl g4 (mx_dd dd_X4_callFunction 2 (4, .getfield 323, 3) rfl) ?_
  refine mx_lload_n (pc := 7) 1 (mx_dd dd_X4_callFunction 3 (7, .lload_n 1, 1) rfl) rfl rfl ?_
  obtain ⟨g5, P⟩ := P
  obtain ⟨g6, P⟩ := P
  refine mx_cVI (pc := 8) (Y := mY_X9_find) (As := [.long _]) mx_ml_X4_332 mx_y_X9_find rfl g6 (by decide) rfl (by decide) rfl (mx_dd dd_X4_callFunction 4 (8, .invokevirtual 332, 3) rfl) g5 (by decide) P (fun v1 h1 P => ?_)
  refine mx_istore_n (pc := 11) (mx_dd dd_X4_callFunction 5 (11, .istore_n 3, 1) rfl) rfl (by decide) (lv' := [(3, _), (0, _), (1, _)]) rfl ?_
  refine mx_iload_n (pc := 12) 0 (mx_dd dd_X4_callFunction 6 (12, .iload_n 3, 1) rfl) rfl rfl ?_
  refine mx_if_ge (pc := 13) 28 (mx_dd dd_X4_callFunction 7 (13, .ifCond .ge 15, 3) rfl) rfl (fun c13 => ?_) (fun c13 => ?_)
  · have P := P.1 c13
    refine mx_aload_n (pc := 28) 1 (mx_dd dd_X4_callFunction 13 (28, .aload_n 0, 1) rfl) rfl rfl ?_
    obtain ⟨g7, P⟩ := P
    obtain ⟨b3, g8, P⟩ := P
    refine mx_getR (pc := 29) mx_fl_X4_51 g7 rfl g8 (mx_dd dd_X4_callFunction 14 (29, .getfield 51, 3) rfl) ?_
    obtain ⟨g9, P⟩ := P
    refine mx_getI (pc := 32) mx_fl_X4_335 g9 rfl (mx_dd dd_X4_callFunction 15 (32, .getfield 335, 3) rfl) ?_
    refine mx_iconst (pc := 35) (v := (4 : Int32)) (mx_dd dd_X4_callFunction 16 (35, .iconst 4, 1) rfl) (by decide) ?_
    refine mx_icmp_lt (pc := 36) 51 (mx_dd dd_X4_callFunction 17 (36, .if_icmp .lt 15, 3) rfl) rfl (fun c36 => ?_) (fun c36 => ?_)
    · have P := P.1 c36
      refine mx_aload_n (pc := 51) 1 (mx_dd dd_X4_callFunction 23 (51, .aload_n 0, 1) rfl) rfl rfl ?_
      refine mx_iconst (pc := 52) (v := (2 : Int32)) (mx_dd dd_X4_callFunction 24 (52, .iconst 2, 1) rfl) (by decide) ?_
      refine mx_iload_n (pc := 53) 0 (mx_dd dd_X4_callFunction 25 (53, .iload_n 3, 1) rfl) rfl rfl ?_
      refine mx_cVV (pc := 54) (Y := mY_X4_enterFunction) (As := [.int _, .int _]) mx_ml_X4_338 mx_y_X4_enterFunction rfl g7 (by decide) rfl (by decide) rfl (mx_dd dd_X4_callFunction 26 (54, .invokevirtual 338, 3) rfl) g5 (by decide) P (fun h2 P => ?_)
      exact mx_return (pc := 57) (mx_dd dd_X4_callFunction 27 (57, .return_, 1) rfl) rfl P
    · have P := P.2 c36
      refine mx_aload_n (pc := 39) 1 (mx_dd dd_X4_callFunction 18 (39, .aload_n 0, 1) rfl) rfl rfl ?_
      refine mx_getR (pc := 40) mx_fl_X4_51 g7 rfl g8 (mx_dd dd_X4_callFunction 19 (40, .getfield 51, 3) rfl) ?_
      refine mx_bipush (pc := 43) (v := (126 : Int32)) (mx_dd dd_X4_callFunction 20 (43, .bipush 126, 2) rfl) (by decide) ?_
      refine mx_putI (pc := 45) mx_fl_X4_142 g9 rfl (.inl rfl) rfl rfl (mx_dd dd_X4_callFunction 21 (45, .putfield 142, 3) rfl) ?_
      have P := P _ rfl
      refine mx_goto (pc := 48) 57 (mx_dd dd_X4_callFunction 22 (48, .goto 9, 3) rfl) rfl ?_
      exact mx_return (pc := 57) (mx_dd dd_X4_callFunction 27 (57, .return_, 1) rfl) rfl P
  · have P := P.2 c13
    refine mx_aload_n (pc := 16) 1 (mx_dd dd_X4_callFunction 8 (16, .aload_n 0, 1) rfl) rfl rfl ?_
    obtain ⟨g10, P⟩ := P
    obtain ⟨b4, g11, P⟩ := P
    refine mx_getR (pc := 17) mx_fl_X4_51 g10 rfl g11 (mx_dd dd_X4_callFunction 9 (17, .getfield 51, 3) rfl) ?_
    refine mx_bipush (pc := 20) (v := (127 : Int32)) (mx_dd dd_X4_callFunction 10 (20, .bipush 127, 2) rfl) (by decide) ?_
    obtain ⟨g12, P⟩ := P
    refine mx_putI (pc := 22) mx_fl_X4_142 g12 rfl (.inl rfl) rfl rfl (mx_dd dd_X4_callFunction 11 (22, .putfield 142, 3) rfl) ?_
    have P := P _ rfl
    refine mx_goto (pc := 25) 57 (mx_dd dd_X4_callFunction 12 (25, .goto 32, 3) rfl) rfl ?_
    exact mx_return (pc := 57) (mx_dd dd_X4_callFunction 27 (57, .return_, 1) rfl) rfl P
theorem b_X4_enterFunction {d : Nat} {h : mxH} {Q : mxRes → mxH → Prop} (x0 : Nat) (x1 : Int32) (x2 : Int32)
    (P : hpK h x0 = 4 ∧ 1 ≤ d ∧ mx_SM mY_X4_push (d - 1) [.ref x0, .int x1, .int (hpI h x0 11), .int (0 : Int32), .int (0 : Int32)] h (mx_KV (fun h1 => hpK h1 x0 = 4 ∧ ∃ b1 : Nat, hpR h1 x0 10 = some b1 ∧ hpK h1 b1 = 8 ∧ ∀ h2 : mxH, h2 = hsI h1 b1 8 ((hpI h1 b1 8) + (1 : Int32)) → ∃ b2 : Nat, hpR h2 x0 10 = some b2 ∧ hpK h2 b2 = 8 ∧ ∃ b3 : Nat, hpR h2 b2 1 = some b3 ∧ hpK h2 b3 = 9 ∧ mx_SM mY_X9_valueAt (d - 1) [.ref b3, .int x2] h2 (mx_KI (fun v1 h3 => hpK h3 x0 = 4 ∧ ∀ h4 : mxH, h4 = hsI h3 x0 11 v1 → Q (.inl none) h4) (mx_XX mY_X4_enterFunction Q))) (mx_XX mY_X4_enterFunction Q))) : mx_SM mY_X4_enterFunction d [.ref x0, .int x1, .int x2] h Q := by
  refine mx_SM_of (by decide) (Nat.le_of_ble_eq_true rfl) ?_
  show mx_SX mY_X4_enterFunction d 0 [(0, .ref x0), (1, .int x1), (2, .int x2)] [] h Q
  refine mx_aload_n (pc := 0) 0 (mx_dd dd_X4_enterFunction 0 (0, .aload_n 0, 1) rfl) rfl rfl ?_
  refine mx_iload_n (pc := 1) 1 (mx_dd dd_X4_enterFunction 1 (1, .iload_n 1, 1) rfl) rfl rfl ?_
  refine mx_aload_n (pc := 2) 0 (mx_dd dd_X4_enterFunction 2 (2, .aload_n 0, 1) rfl) rfl rfl ?_
  obtain ⟨g1, P⟩ := P
  refine mx_getI (pc := 3) mx_fl_X4_85 g1 rfl (mx_dd dd_X4_enterFunction 3 (3, .getfield 85, 3) rfl) ?_
  refine mx_iconst (pc := 6) (v := (0 : Int32)) (mx_dd dd_X4_enterFunction 4 (6, .iconst 0, 1) rfl) (by decide) ?_
  refine mx_iconst (pc := 7) (v := (0 : Int32)) (mx_dd dd_X4_enterFunction 5 (7, .iconst 0, 1) rfl) (by decide) ?_
  obtain ⟨g2, P⟩ := P
  refine mx_cVV (pc := 8) (Y := mY_X4_push) (As := [.int _, .int _, .int _, .int _]) mx_ml_X4_155 mx_y_X4_push rfl g1 (by decide) rfl (by decide) rfl (mx_dd dd_X4_enterFunction 6 (8, .invokevirtual 155, 3) rfl) g2 (by decide) P (fun h1 P => ?_)
  refine mx_aload_n (pc := 11) 0 (mx_dd dd_X4_enterFunction 7 (11, .aload_n 0, 1) rfl) rfl rfl ?_
  obtain ⟨g3, P⟩ := P
  obtain ⟨b1, g4, P⟩ := P
  refine mx_getR (pc := 12) mx_fl_X4_51 g3 rfl g4 (mx_dd dd_X4_enterFunction 8 (12, .getfield 51, 3) rfl) ?_
  refine mx_dup (pc := 15) (mx_dd dd_X4_enterFunction 9 (15, .dup, 1) rfl) rfl ?_
  obtain ⟨g5, P⟩ := P
  refine mx_getI (pc := 16) mx_fl_X4_335 g5 rfl (mx_dd dd_X4_enterFunction 10 (16, .getfield 335, 3) rfl) ?_
  refine mx_iconst (pc := 19) (v := (1 : Int32)) (mx_dd dd_X4_enterFunction 11 (19, .iconst 1, 1) rfl) (by decide) ?_
  refine mx_iadd (pc := 20) (mx_dd dd_X4_enterFunction 12 (20, .iadd, 1) rfl) ?_
  refine mx_putI (pc := 21) mx_fl_X4_335 g5 rfl (.inl rfl) rfl rfl (mx_dd dd_X4_enterFunction 13 (21, .putfield 335, 3) rfl) ?_
  have P := P _ rfl
  refine mx_aload_n (pc := 24) 0 (mx_dd dd_X4_enterFunction 14 (24, .aload_n 0, 1) rfl) rfl rfl ?_
  refine mx_aload_n (pc := 25) 0 (mx_dd dd_X4_enterFunction 15 (25, .aload_n 0, 1) rfl) rfl rfl ?_
  obtain ⟨b2, g6, P⟩ := P
  refine mx_getR (pc := 26) mx_fl_X4_51 g3 rfl g6 (mx_dd dd_X4_enterFunction 16 (26, .getfield 51, 3) rfl) ?_
  obtain ⟨g7, P⟩ := P
  obtain ⟨b3, g8, P⟩ := P
  refine mx_getR (pc := 29) mx_fl_X4_323 g7 rfl g8 (mx_dd dd_X4_enterFunction 17 (29, .getfield 323, 3) rfl) ?_
  refine mx_iload_n (pc := 32) 2 (mx_dd dd_X4_enterFunction 18 (32, .iload_n 2, 1) rfl) rfl rfl ?_
  obtain ⟨g9, P⟩ := P
  refine mx_cVI (pc := 33) (Y := mY_X9_valueAt) (As := [.int _]) mx_ml_X4_341 mx_y_X9_valueAt rfl g9 (by decide) rfl (by simp [Value.category]) rfl (mx_dd dd_X4_enterFunction 19 (33, .invokevirtual 341, 3) rfl) g2 (by decide) P (fun v1 h3 P => ?_)
  obtain ⟨g10, P⟩ := P
  refine mx_putI (pc := 36) mx_fl_X4_85 g10 rfl (.inl rfl) rfl rfl (mx_dd dd_X4_enterFunction 20 (36, .putfield 85, 3) rfl) ?_
  have P := P _ rfl
  exact mx_return (pc := 39) (mx_dd dd_X4_enterFunction 21 (39, .return_, 1) rfl) rfl P
theorem b_X4_callForTrap {d : Nat} {h : mxH} {Q : mxRes → mxH → Prop} (x0 : Nat) (x1 : Int32) (x2 : Int64)
    (P : hpK h x0 = 4 ∧ ∃ b1 : Nat, hpR h x0 10 = some b1 ∧ hpK h b1 = 8 ∧ ∃ b2 : Nat, hpR h b1 1 = some b2 ∧ 1 ≤ d ∧ hpK h b2 = 9 ∧ mx_SM mY_X9_find (d - 1) [.ref b2, .long x2] h (mx_KI (fun v1 h1 => ((v1 < 0 → Q (.inl (some (.int (0 : Int32)))) h1) ∧ (¬ v1 < 0 → hpK h1 x0 = 4 ∧ ∃ b3 : Nat, hpR h1 x0 10 = some b3 ∧ hpK h1 b3 = 8 ∧ (((hpI h1 b3 8) < (4 : Int32) → mx_SM mY_X4_enterFunction (d - 1) [.ref x0, .int x1, .int v1] h1 (mx_KV (fun h2 => Q (.inl (some (.int (1 : Int32)))) h2) (mx_XX mY_X4_callForTrap Q))) ∧ (¬ (hpI h1 b3 8) < (4 : Int32) → Q (.inl (some (.int (0 : Int32)))) h1))))) (mx_XX mY_X4_callForTrap Q))) : mx_SM mY_X4_callForTrap d [.ref x0, .int x1, .long x2] h Q := by
  refine mx_SM_of (by decide) (Nat.le_of_ble_eq_true rfl) ?_
  show mx_SX mY_X4_callForTrap d 0 [(0, .ref x0), (1, .int x1), (2, .long x2)] [] h Q
  refine mx_aload_n (pc := 0) 0 (mx_dd dd_X4_callForTrap 0 (0, .aload_n 0, 1) rfl) rfl rfl ?_
  obtain ⟨g1, P⟩ := P
  obtain ⟨b1, g2, P⟩ := P
  refine mx_getR (pc := 1) mx_fl_X4_51 g1 rfl g2 (mx_dd dd_X4_callForTrap 1 (1, .getfield 51, 3) rfl) ?_
  obtain ⟨g3, P⟩ := P
  obtain ⟨b2, g4, P⟩ := P
  refine mx_getR (pc := 4) mx_fl_X4_323 g3 rfl g4 (mx_dd dd_X4_callForTrap 2 (4, .getfield 323, 3) rfl) ?_
  refine mx_lload_n (pc := 7) 2 (mx_dd dd_X4_callForTrap 3 (7, .lload_n 2, 1) rfl) rfl rfl ?_
  obtain ⟨g5, P⟩ := P
  obtain ⟨g6, P⟩ := P
  refine mx_cVI (pc := 8) (Y := mY_X9_find) (As := [.long _]) mx_ml_X4_332 mx_y_X9_find rfl g6 (by decide) rfl (by decide) rfl (mx_dd dd_X4_callForTrap 4 (8, .invokevirtual 332, 3) rfl) g5 (by decide) P (fun v1 h1 P => ?_)
  refine mx_istore (pc := 11) (mx_dd dd_X4_callForTrap 5 (11, .istore 4, 2) rfl) (by decide) (lv' := [(4, _), (0, _), (1, _), (2, _)]) rfl ?_
  refine mx_iload (pc := 13) 0 (mx_dd dd_X4_callForTrap 6 (13, .iload 4, 2) rfl) rfl ?_
  refine mx_if_lt (pc := 15) 29 (mx_dd dd_X4_callForTrap 7 (15, .ifCond .lt 14, 3) rfl) rfl (fun c15 => ?_) (fun c15 => ?_)
  · have P := P.1 c15
    refine mx_iconst (pc := 29) (v := (0 : Int32)) (mx_dd dd_X4_callForTrap 13 (29, .iconst 0, 1) rfl) (by decide) ?_
    exact mx_ireturn (pc := 30) (mx_dd dd_X4_callForTrap 14 (30, .ireturn, 1) rfl) rfl rfl P
  · have P := P.2 c15
    refine mx_aload_n (pc := 18) 1 (mx_dd dd_X4_callForTrap 8 (18, .aload_n 0, 1) rfl) rfl rfl ?_
    obtain ⟨g7, P⟩ := P
    obtain ⟨b3, g8, P⟩ := P
    refine mx_getR (pc := 19) mx_fl_X4_51 g7 rfl g8 (mx_dd dd_X4_callForTrap 9 (19, .getfield 51, 3) rfl) ?_
    obtain ⟨g9, P⟩ := P
    refine mx_getI (pc := 22) mx_fl_X4_335 g9 rfl (mx_dd dd_X4_callForTrap 10 (22, .getfield 335, 3) rfl) ?_
    refine mx_iconst (pc := 25) (v := (4 : Int32)) (mx_dd dd_X4_callForTrap 11 (25, .iconst 4, 1) rfl) (by decide) ?_
    refine mx_icmp_lt (pc := 26) 31 (mx_dd dd_X4_callForTrap 12 (26, .if_icmp .lt 5, 3) rfl) rfl (fun c26 => ?_) (fun c26 => ?_)
    · have P := P.1 c26
      refine mx_aload_n (pc := 31) 1 (mx_dd dd_X4_callForTrap 15 (31, .aload_n 0, 1) rfl) rfl rfl ?_
      refine mx_iload_n (pc := 32) 2 (mx_dd dd_X4_callForTrap 16 (32, .iload_n 1, 1) rfl) rfl rfl ?_
      refine mx_iload (pc := 33) 0 (mx_dd dd_X4_callForTrap 17 (33, .iload 4, 2) rfl) rfl ?_
      refine mx_cVV (pc := 35) (Y := mY_X4_enterFunction) (As := [.int _, .int _]) mx_ml_X4_338 mx_y_X4_enterFunction rfl g7 (by decide) rfl (by decide) rfl (mx_dd dd_X4_callForTrap 18 (35, .invokevirtual 338, 3) rfl) g5 (by decide) P (fun h2 P => ?_)
      refine mx_iconst (pc := 38) (v := (1 : Int32)) (mx_dd dd_X4_callForTrap 19 (38, .iconst 1, 1) rfl) (by decide) ?_
      exact mx_ireturn (pc := 39) (mx_dd dd_X4_callForTrap 20 (39, .ireturn, 1) rfl) rfl rfl P
    · have P := P.2 c26
      refine mx_iconst (pc := 29) (v := (0 : Int32)) (mx_dd dd_X4_callForTrap 13 (29, .iconst 0, 1) rfl) (by decide) ?_
      exact mx_ireturn (pc := 30) (mx_dd dd_X4_callForTrap 14 (30, .ireturn, 1) rfl) rfl rfl P
theorem b_X4_returnFromCall {d : Nat} {h : mxH} {Q : mxRes → mxH → Prop} (x0 : Nat)
    (P : 1 ≤ d ∧ hpK h x0 = 4 ∧ mx_SM mY_X4_field (d - 1) [.ref x0, .int (0 : Int32)] h (mx_KI (fun v1 h1 => hpK h1 x0 = 4 ∧ mx_SM mY_X4_field (d - 1) [.ref x0, .int (1 : Int32)] h1 (mx_KI (fun v2 h2 => hpK h2 x0 = 4 ∧ ∀ h3 : mxH, h3 = hsI h2 x0 11 v2 → mx_SM mY_X4_pop (d - 1) [.ref x0] h3 (mx_KV (fun h4 => hpK h4 x0 = 4 ∧ ∃ b1 : Nat, hpR h4 x0 10 = some b1 ∧ hpK h4 b1 = 8 ∧ ∀ h5 : mxH, h5 = hsI h4 b1 8 ((hpI h4 b1 8) - (1 : Int32)) → ((¬ v1 = (3 : Int32) → ((¬ v1 = (4 : Int32) → Q (.inl none) h5) ∧ (v1 = (4 : Int32) → ∃ b2 : Nat, hpR h5 x0 10 = some b2 ∧ hpK h5 b2 = 8 ∧ ∀ h6 : mxH, h6 = hsI h5 b2 6 (hpI h5 b2 11) → Q (.inl none) h6))) ∧ (v1 = (3 : Int32) → ∃ b3 : Nat, hpR h5 x0 10 = some b3 ∧ hpK h5 b3 = 8 ∧ ∀ h7 : mxH, h7 = hsI h5 b3 6 (0 : Int32) → Q (.inl none) h7))) (mx_XX mY_X4_returnFromCall Q))) (mx_XX mY_X4_returnFromCall Q))) (mx_XX mY_X4_returnFromCall Q))) : mx_SM mY_X4_returnFromCall d [.ref x0] h Q := by
  refine mx_SM_of (by decide) (Nat.le_of_ble_eq_true rfl) ?_
  show mx_SX mY_X4_returnFromCall d 0 [(0, .ref x0)] [] h Q
  refine mx_aload_n (pc := 0) 0 (mx_dd dd_X4_returnFromCall 0 (0, .aload_n 0, 1) rfl) rfl rfl ?_
  refine mx_iconst (pc := 1) (v := (0 : Int32)) (mx_dd dd_X4_returnFromCall 1 (1, .iconst 0, 1) rfl) (by decide) ?_
  obtain ⟨g1, P⟩ := P
  obtain ⟨g2, P⟩ := P
  refine mx_cVI (pc := 2) (Y := mY_X4_field) (As := [.int _]) mx_ml_X4_344 mx_y_X4_field rfl g2 (by decide) rfl (by decide) rfl (mx_dd dd_X4_returnFromCall 2 (2, .invokevirtual 344, 3) rfl) g1 (by decide) P (fun v1 h1 P => ?_)
  refine mx_istore_n (pc := 5) (mx_dd dd_X4_returnFromCall 3 (5, .istore_n 1, 1) rfl) rfl (by decide) (lv' := [(1, _), (0, _)]) rfl ?_
  refine mx_aload_n (pc := 6) 1 (mx_dd dd_X4_returnFromCall 4 (6, .aload_n 0, 1) rfl) rfl rfl ?_
  refine mx_aload_n (pc := 7) 1 (mx_dd dd_X4_returnFromCall 5 (7, .aload_n 0, 1) rfl) rfl rfl ?_
  refine mx_iconst (pc := 8) (v := (1 : Int32)) (mx_dd dd_X4_returnFromCall 6 (8, .iconst 1, 1) rfl) (by decide) ?_
  obtain ⟨g3, P⟩ := P
  refine mx_cVI (pc := 9) (Y := mY_X4_field) (As := [.int _]) mx_ml_X4_344 mx_y_X4_field rfl g3 (by decide) rfl (by simp [Value.category]) rfl (mx_dd dd_X4_returnFromCall 7 (9, .invokevirtual 344, 3) rfl) g1 (by decide) P (fun v2 h2 P => ?_)
  obtain ⟨g4, P⟩ := P
  refine mx_putI (pc := 12) mx_fl_X4_85 g4 rfl (.inl rfl) rfl rfl (mx_dd dd_X4_returnFromCall 8 (12, .putfield 85, 3) rfl) ?_
  have P := P _ rfl
  refine mx_aload_n (pc := 15) 1 (mx_dd dd_X4_returnFromCall 9 (15, .aload_n 0, 1) rfl) rfl rfl ?_
  refine mx_cVV (pc := 16) (Y := mY_X4_pop) (As := []) mx_ml_X4_228 mx_y_X4_pop rfl g4 (by decide) rfl (by decide) rfl (mx_dd dd_X4_returnFromCall 10 (16, .invokevirtual 228, 3) rfl) g1 (by decide) P (fun h4 P => ?_)
  refine mx_aload_n (pc := 19) 1 (mx_dd dd_X4_returnFromCall 11 (19, .aload_n 0, 1) rfl) rfl rfl ?_
  obtain ⟨g5, P⟩ := P
  obtain ⟨b1, g6, P⟩ := P
  refine mx_getR (pc := 20) mx_fl_X4_51 g5 rfl g6 (mx_dd dd_X4_returnFromCall 12 (20, .getfield 51, 3) rfl) ?_
  refine mx_dup (pc := 23) (mx_dd dd_X4_returnFromCall 13 (23, .dup, 1) rfl) rfl ?_
  obtain ⟨g7, P⟩ := P
  refine mx_getI (pc := 24) mx_fl_X4_335 g7 rfl (mx_dd dd_X4_returnFromCall 14 (24, .getfield 335, 3) rfl) ?_
  refine mx_iconst (pc := 27) (v := (1 : Int32)) (mx_dd dd_X4_returnFromCall 15 (27, .iconst 1, 1) rfl) (by decide) ?_
  refine mx_isub (pc := 28) (mx_dd dd_X4_returnFromCall 16 (28, .isub, 1) rfl) ?_
  refine mx_putI (pc := 29) mx_fl_X4_335 g7 rfl (.inl rfl) rfl rfl (mx_dd dd_X4_returnFromCall 17 (29, .putfield 335, 3) rfl) ?_
  have P := P _ rfl
  refine mx_iload_n (pc := 32) 0 (mx_dd dd_X4_returnFromCall 18 (32, .iload_n 1, 1) rfl) rfl rfl ?_
  refine mx_iconst (pc := 33) (v := (3 : Int32)) (mx_dd dd_X4_returnFromCall 19 (33, .iconst 3, 1) rfl) (by decide) ?_
  refine mx_icmp_ne (pc := 34) 48 (mx_dd dd_X4_returnFromCall 20 (34, .if_icmp .ne 14, 3) rfl) rfl (fun c34 => ?_) (fun c34 => ?_)
  · have P := P.1 c34
    refine mx_iload_n (pc := 48) 0 (mx_dd dd_X4_returnFromCall 26 (48, .iload_n 1, 1) rfl) rfl rfl ?_
    refine mx_iconst (pc := 49) (v := (4 : Int32)) (mx_dd dd_X4_returnFromCall 27 (49, .iconst 4, 1) rfl) (by decide) ?_
    refine mx_icmp_ne (pc := 50) 67 (mx_dd dd_X4_returnFromCall 28 (50, .if_icmp .ne 17, 3) rfl) rfl (fun c50 => ?_) (fun c50 => ?_)
    · have P := P.1 c50
      exact mx_return (pc := 67) (mx_dd dd_X4_returnFromCall 35 (67, .return_, 1) rfl) rfl P
    · have P := P.2 c50
      refine mx_aload_n (pc := 53) 1 (mx_dd dd_X4_returnFromCall 29 (53, .aload_n 0, 1) rfl) rfl rfl ?_
      obtain ⟨b2, g8, P⟩ := P
      refine mx_getR (pc := 54) mx_fl_X4_51 g5 rfl g8 (mx_dd dd_X4_returnFromCall 30 (54, .getfield 51, 3) rfl) ?_
      refine mx_aload_n (pc := 57) 1 (mx_dd dd_X4_returnFromCall 31 (57, .aload_n 0, 1) rfl) rfl rfl ?_
      refine mx_getR (pc := 58) mx_fl_X4_51 g5 rfl g8 (mx_dd dd_X4_returnFromCall 32 (58, .getfield 51, 3) rfl) ?_
      obtain ⟨g9, P⟩ := P
      refine mx_getI (pc := 61) mx_fl_X4_347 g9 rfl (mx_dd dd_X4_returnFromCall 33 (61, .getfield 347, 3) rfl) ?_
      refine mx_putI (pc := 64) mx_fl_X4_142 g9 rfl (.inl rfl) rfl rfl (mx_dd dd_X4_returnFromCall 34 (64, .putfield 142, 3) rfl) ?_
      have P := P _ rfl
      exact mx_return (pc := 67) (mx_dd dd_X4_returnFromCall 35 (67, .return_, 1) rfl) rfl P
  · have P := P.2 c34
    refine mx_aload_n (pc := 37) 1 (mx_dd dd_X4_returnFromCall 21 (37, .aload_n 0, 1) rfl) rfl rfl ?_
    obtain ⟨b3, g10, P⟩ := P
    refine mx_getR (pc := 38) mx_fl_X4_51 g5 rfl g10 (mx_dd dd_X4_returnFromCall 22 (38, .getfield 51, 3) rfl) ?_
    refine mx_iconst (pc := 41) (v := (0 : Int32)) (mx_dd dd_X4_returnFromCall 23 (41, .iconst 0, 1) rfl) (by decide) ?_
    obtain ⟨g11, P⟩ := P
    refine mx_putI (pc := 42) mx_fl_X4_142 g11 rfl (.inl rfl) rfl rfl (mx_dd dd_X4_returnFromCall 24 (42, .putfield 142, 3) rfl) ?_
    have P := P _ rfl
    refine mx_goto (pc := 45) 67 (mx_dd dd_X4_returnFromCall 25 (45, .goto 22, 3) rfl) rfl ?_
    exact mx_return (pc := 67) (mx_dd dd_X4_returnFromCall 35 (67, .return_, 1) rfl) rfl P
theorem b_X4_raise {d : Nat} {h : mxH} {Q : mxRes → mxH → Prop} (x0 : Nat) (x1 : Int32)
    (P : hpK h x0 = 4 ∧ ∃ b1 : Nat, hpR h x0 2 = some b1 ∧ ∃ b2 : Nat, hpR h x0 9 = some b2 ∧ ∃ b3 : Nat, hpR h x0 10 = some b3 ∧ 1 ≤ d ∧ hpK h b1 = 1 ∧ mx_SM mY_X1_nameArgument (d - 1) [.ref b1, .ref b2, .ref b3, .int x1, .int (0 : Int32)] h (mx_KL (fun v1 h1 => mx_SM mY_X1_signalNamed (d - 1) [.long v1] h1 (mx_KI (fun v2 h2 => hpK h2 x0 = 4 ∧ ∃ b4 : Nat, hpR h2 x0 9 = some b4 ∧ hpK h2 b4 = 7 ∧ mx_SM mY_X7_argumentsOf (d - 1) [.ref b4, .int x1] h2 (mx_KI (fun v3 h3 => ((¬ v3 = (1 : Int32) → hpK h3 x0 = 4 ∧ ∃ b5 : Nat, hpR h3 x0 10 = some b5 ∧ hpK h3 b5 = 8 ∧ ∀ h4 : mxH, h4 = hsI h3 b5 6 (2 : Int32) → Q (.inl none) h4) ∧ (v3 = (1 : Int32) → ((v2 < 0 → hpK h3 x0 = 4 ∧ ∃ b6 : Nat, hpR h3 x0 10 = some b6 ∧ hpK h3 b6 = 8 ∧ ∀ h5 : mxH, h5 = hsI h3 b6 6 (2 : Int32) → Q (.inl none) h5) ∧ (¬ v2 < 0 → ((v2 < (3 : Int32) → hpK h3 x0 = 4 ∧ ∃ b7 : Nat, hpR h3 x0 10 = some b7 ∧ hpK h3 b7 = 8 ∧ ∃ b8 : Nat, hpR h3 b7 2 = some b8 ∧ hpK h3 b8 = 15 ∧ vp_in v2 (hpZ h3 b8) ∧ ((¬ (lg_cmp (hpL h3 b8 v2.toNatClampNeg) (0 : Int64)) = 0 → (((lg_cmp (hpL h3 b8 v2.toNatClampNeg) (-2 : Int64)) = 0 → ∀ h6 : mxH, h6 = hsI h3 b7 6 (0 : Int32) → Q (.inl none) h6) ∧ (¬ (lg_cmp (hpL h3 b8 v2.toNatClampNeg) (-2 : Int64)) = 0 → mx_SM mY_X4_callForTrap (d - 1) [.ref x0, .int (3 : Int32), .long (hpL h3 b8 v2.toNatClampNeg)] h3 (mx_KI (fun v4 h7 => ((¬ v4 = 0 → Q (.inl none) h7) ∧ (v4 = 0 → hpK h7 x0 = 4 ∧ ∃ b9 : Nat, hpR h7 x0 10 = some b9 ∧ hpK h7 b9 = 8 ∧ ∀ h8 : mxH, h8 = hsI h7 b9 6 (0 : Int32) → Q (.inl none) h8))) (mx_XX mY_X4_raise Q))))) ∧ ((lg_cmp (hpL h3 b8 v2.toNatClampNeg) (0 : Int64)) = 0 → ((¬ v2 = (2 : Int32) → mx_SM mY_X4_endWith (d - 1) [.ref x0, .int ((128 : Int32) + (v2 + (1 : Int32)))] h3 (mx_KV (fun h9 => Q (.inl none) h9) (mx_XX mY_X4_raise Q))) ∧ (v2 = (2 : Int32) → mx_SM mY_X4_endWith (d - 1) [.ref x0, .int ((128 : Int32) + (15 : Int32))] h3 (mx_KV (fun h10 => Q (.inl none) h10) (mx_XX mY_X4_raise Q))))))) ∧ (¬ v2 < (3 : Int32) → hpK h3 x0 = 4 ∧ ∃ b10 : Nat, hpR h3 x0 10 = some b10 ∧ hpK h3 b10 = 8 ∧ ∀ h11 : mxH, h11 = hsI h3 b10 6 (2 : Int32) → Q (.inl none) h11))))))) (mx_XX mY_X4_raise Q))) (mx_XX mY_X4_raise Q))) (mx_XX mY_X4_raise Q))) : mx_SM mY_X4_raise d [.ref x0, .int x1] h Q := by
  refine mx_SM_of (by decide) (Nat.le_of_ble_eq_true rfl) ?_
  show mx_SX mY_X4_raise d 0 [(0, .ref x0), (1, .int x1)] [] h Q
  refine mx_aload_n (pc := 0) 0 (mx_dd dd_X4_raise_0 0 (0, .aload_n 0, 1) rfl) rfl rfl ?_
  obtain ⟨g1, P⟩ := P
  obtain ⟨b1, g2, P⟩ := P
  refine mx_getR (pc := 1) mx_fl_X4_24 g1 rfl g2 (mx_dd dd_X4_raise_0 1 (1, .getfield 24, 3) rfl) ?_
  refine mx_aload_n (pc := 4) 0 (mx_dd dd_X4_raise_0 2 (4, .aload_n 0, 1) rfl) rfl rfl ?_
  obtain ⟨b2, g3, P⟩ := P
  refine mx_getR (pc := 5) mx_fl_X4_54 g1 rfl g3 (mx_dd dd_X4_raise_0 3 (5, .getfield 54, 3) rfl) ?_
  refine mx_aload_n (pc := 8) 0 (mx_dd dd_X4_raise_0 4 (8, .aload_n 0, 1) rfl) rfl rfl ?_
  obtain ⟨b3, g4, P⟩ := P
  refine mx_getR (pc := 9) mx_fl_X4_51 g1 rfl g4 (mx_dd dd_X4_raise_0 5 (9, .getfield 51, 3) rfl) ?_
  refine mx_iload_n (pc := 12) 1 (mx_dd dd_X4_raise_0 6 (12, .iload_n 1, 1) rfl) rfl rfl ?_
  refine mx_iconst (pc := 13) (v := (0 : Int32)) (mx_dd dd_X4_raise_0 7 (13, .iconst 0, 1) rfl) (by decide) ?_
  obtain ⟨g5, P⟩ := P
  obtain ⟨g6, P⟩ := P
  refine mx_cVL (pc := 14) (Y := mY_X1_nameArgument) (As := [.ref _, .ref _, .int _, .int _]) mx_ml_X4_350 mx_y_X1_nameArgument rfl g6 (by decide) rfl (by decide) rfl (mx_dd dd_X4_raise_0 8 (14, .invokevirtual 350, 3) rfl) g5 (by decide) P (fun v1 h1 P => ?_)
  refine mx_cSI (pc := 17) (Y := mY_X1_signalNamed) (As := [.long _]) mx_ml_X4_354 mx_y_X1_signalNamed rfl rfl (by decide) rfl (mx_dd dd_X4_raise_0 9 (17, .invokestatic 354, 3) rfl) g5 (by decide) P (fun v2 h2 P => ?_)
  refine mx_istore_n (pc := 20) (mx_dd dd_X4_raise_0 10 (20, .istore_n 2, 1) rfl) rfl (by decide) (lv' := [(2, _), (0, _), (1, _)]) rfl ?_
  refine mx_aload_n (pc := 21) 1 (mx_dd dd_X4_raise_0 11 (21, .aload_n 0, 1) rfl) rfl rfl ?_
  obtain ⟨g7, P⟩ := P
  obtain ⟨b4, g8, P⟩ := P
  refine mx_getR (pc := 22) mx_fl_X4_54 g7 rfl g8 (mx_dd dd_X4_raise_0 12 (22, .getfield 54, 3) rfl) ?_
  refine mx_iload_n (pc := 25) 2 (mx_dd dd_X4_raise_0 13 (25, .iload_n 1, 1) rfl) rfl rfl ?_
  obtain ⟨g9, P⟩ := P
  refine mx_cVI (pc := 26) (Y := mY_X7_argumentsOf) (As := [.int _]) mx_ml_X4_215 mx_y_X7_argumentsOf rfl g9 (by decide) rfl (by decide) rfl (mx_dd dd_X4_raise_0 14 (26, .invokevirtual 215, 3) rfl) g5 (by decide) P (fun v3 h3 P => ?_)
  refine mx_iconst (pc := 29) (v := (1 : Int32)) (mx_dd dd_X4_raise_0 15 (29, .iconst 1, 1) rfl) (by decide) ?_
  refine mx_icmp_ne (pc := 30) 42 (mx_dd dd_X4_raise_0 16 (30, .if_icmp .ne 12, 3) rfl) rfl (fun c30 => ?_) (fun c30 => ?_)
  · have P := P.1 c30
    refine mx_aload_n (pc := 42) 1 (mx_dd dd_X4_raise_0 22 (42, .aload_n 0, 1) rfl) rfl rfl ?_
    obtain ⟨g10, P⟩ := P
    obtain ⟨b5, g11, P⟩ := P
    refine mx_getR (pc := 43) mx_fl_X4_51 g10 rfl g11 (mx_dd dd_X4_raise_0 23 (43, .getfield 51, 3) rfl) ?_
    refine mx_iconst (pc := 46) (v := (2 : Int32)) (mx_dd dd_X4_raise_0 24 (46, .iconst 2, 1) rfl) (by decide) ?_
    obtain ⟨g12, P⟩ := P
    refine mx_putI (pc := 47) mx_fl_X4_142 g12 rfl (.inl rfl) rfl rfl (mx_dd dd_X4_raise_0 25 (47, .putfield 142, 3) rfl) ?_
    have P := P _ rfl
    exact mx_return (pc := 50) (mx_dd dd_X4_raise_0 26 (50, .return_, 1) rfl) rfl P
  · have P := P.2 c30
    refine mx_iload_n (pc := 33) 0 (mx_dd dd_X4_raise_0 17 (33, .iload_n 2, 1) rfl) rfl rfl ?_
    refine mx_if_lt (pc := 34) 42 (mx_dd dd_X4_raise_0 18 (34, .ifCond .lt 8, 3) rfl) rfl (fun c34 => ?_) (fun c34 => ?_)
    · have P := P.1 c34
      refine mx_aload_n (pc := 42) 1 (mx_dd dd_X4_raise_0 22 (42, .aload_n 0, 1) rfl) rfl rfl ?_
      obtain ⟨g13, P⟩ := P
      obtain ⟨b6, g14, P⟩ := P
      refine mx_getR (pc := 43) mx_fl_X4_51 g13 rfl g14 (mx_dd dd_X4_raise_0 23 (43, .getfield 51, 3) rfl) ?_
      refine mx_iconst (pc := 46) (v := (2 : Int32)) (mx_dd dd_X4_raise_0 24 (46, .iconst 2, 1) rfl) (by decide) ?_
      obtain ⟨g15, P⟩ := P
      refine mx_putI (pc := 47) mx_fl_X4_142 g15 rfl (.inl rfl) rfl rfl (mx_dd dd_X4_raise_0 25 (47, .putfield 142, 3) rfl) ?_
      have P := P _ rfl
      exact mx_return (pc := 50) (mx_dd dd_X4_raise_0 26 (50, .return_, 1) rfl) rfl P
    · have P := P.2 c34
      refine mx_iload_n (pc := 37) 0 (mx_dd dd_X4_raise_0 19 (37, .iload_n 2, 1) rfl) rfl rfl ?_
      refine mx_iconst (pc := 38) (v := (3 : Int32)) (mx_dd dd_X4_raise_0 20 (38, .iconst 3, 1) rfl) (by decide) ?_
      refine mx_icmp_lt (pc := 39) 51 (mx_dd dd_X4_raise_0 21 (39, .if_icmp .lt 12, 3) rfl) rfl (fun c39 => ?_) (fun c39 => ?_)
      · have P := P.1 c39
        refine mx_aload_n (pc := 51) 1 (mx_dd dd_X4_raise_0 27 (51, .aload_n 0, 1) rfl) rfl rfl ?_
        obtain ⟨g16, P⟩ := P
        obtain ⟨b7, g17, P⟩ := P
        refine mx_getR (pc := 52) mx_fl_X4_51 g16 rfl g17 (mx_dd dd_X4_raise_0 28 (52, .getfield 51, 3) rfl) ?_
        obtain ⟨g18, P⟩ := P
        obtain ⟨b8, g19, P⟩ := P
        refine mx_getR (pc := 55) mx_fl_X4_357 g18 rfl g19 (mx_dd dd_X4_raise_0 29 (55, .getfield 357, 3) rfl) ?_
        refine mx_iload_n (pc := 58) 0 (mx_dd dd_X4_raise_0 30 (58, .iload_n 2, 1) rfl) rfl rfl ?_
        obtain ⟨g20, P⟩ := P
        obtain ⟨g21, P⟩ := P
        refine mx_lald (pc := 59) g20 g21 (mx_dd dd_X4_raise_0 31 (59, .laload, 1) rfl) ?_
        refine mx_lstore_n (pc := 60) (mx_dd dd_X4_raise_0 32 (60, .lstore_n 3, 1) rfl) rfl (by decide) (lv' := [(3, _), (2, _), (0, _), (1, _)]) rfl ?_
        refine mx_lload_n (pc := 61) 0 (mx_dd dd_X4_raise_0 33 (61, .lload_n 3, 1) rfl) rfl rfl ?_
        refine mx_lconst (pc := 62) (v := (0 : Int64)) (mx_dd dd_X4_raise_0 34 (62, .lconst 0, 1) rfl) (by decide) ?_
        refine mx_lcmp (pc := 63) (mx_dd dd_X4_raise_0 35 (63, .lcmp, 1) rfl) ?_
        refine mx_if_ne (pc := 64) 91 (mx_dd dd_X4_raise_0 36 (64, .ifCond .ne 27, 3) rfl) rfl (fun c64 => ?_) (fun c64 => ?_)
        · have P := P.1 c64
          refine mx_lload_n (pc := 91) 0 (mx_dd dd_X4_raise_1 10 (91, .lload_n 3, 1) rfl) rfl rfl ?_
          refine mx_ldc2 (pc := 92) mx_cL_X4_361 (mx_dd dd_X4_raise_1 11 (92, .ldc2_w 361, 3) rfl) ?_
          refine mx_lcmp (pc := 95) (mx_dd dd_X4_raise_1 12 (95, .lcmp, 1) rfl) ?_
          refine mx_if_eq (pc := 96) 108 (mx_dd dd_X4_raise_1 13 (96, .ifCond .eq 12, 3) rfl) rfl (fun c96 => ?_) (fun c96 => ?_)
          · have P := P.1 c96
            refine mx_aload_n (pc := 108) 2 (mx_dd dd_X4_raise_1 19 (108, .aload_n 0, 1) rfl) rfl rfl ?_
            refine mx_getR (pc := 109) mx_fl_X4_51 g16 rfl g17 (mx_dd dd_X4_raise_1 20 (109, .getfield 51, 3) rfl) ?_
            refine mx_iconst (pc := 112) (v := (0 : Int32)) (mx_dd dd_X4_raise_1 21 (112, .iconst 0, 1) rfl) (by decide) ?_
            refine mx_putI (pc := 113) mx_fl_X4_142 g18 rfl (.inl rfl) rfl rfl (mx_dd dd_X4_raise_1 22 (113, .putfield 142, 3) rfl) ?_
            have P := P _ rfl
            exact mx_return (pc := 116) (mx_dd dd_X4_raise_1 23 (116, .return_, 1) rfl) rfl P
          · have P := P.2 c96
            refine mx_aload_n (pc := 99) 2 (mx_dd dd_X4_raise_1 14 (99, .aload_n 0, 1) rfl) rfl rfl ?_
            refine mx_iconst (pc := 100) (v := (3 : Int32)) (mx_dd dd_X4_raise_1 15 (100, .iconst 3, 1) rfl) (by decide) ?_
            refine mx_lload_n (pc := 101) 0 (mx_dd dd_X4_raise_1 16 (101, .lload_n 3, 1) rfl) rfl rfl ?_
            refine mx_cVI (pc := 102) (Y := mY_X4_callForTrap) (As := [.int _, .long _]) mx_ml_X4_363 mx_y_X4_callForTrap rfl g16 (by decide) rfl (by decide) rfl (mx_dd dd_X4_raise_1 17 (102, .invokevirtual 363, 3) rfl) g5 (by decide) P (fun v4 h7 P => ?_)
            refine mx_if_ne (pc := 105) 116 (mx_dd dd_X4_raise_1 18 (105, .ifCond .ne 11, 3) rfl) rfl (fun c105 => ?_) (fun c105 => ?_)
            · have P := P.1 c105
              exact mx_return (pc := 116) (mx_dd dd_X4_raise_1 23 (116, .return_, 1) rfl) rfl P
            · have P := P.2 c105
              refine mx_aload_n (pc := 108) 2 (mx_dd dd_X4_raise_1 19 (108, .aload_n 0, 1) rfl) rfl rfl ?_
              obtain ⟨g22, P⟩ := P
              obtain ⟨b9, g23, P⟩ := P
              refine mx_getR (pc := 109) mx_fl_X4_51 g22 rfl g23 (mx_dd dd_X4_raise_1 20 (109, .getfield 51, 3) rfl) ?_
              refine mx_iconst (pc := 112) (v := (0 : Int32)) (mx_dd dd_X4_raise_1 21 (112, .iconst 0, 1) rfl) (by decide) ?_
              obtain ⟨g24, P⟩ := P
              refine mx_putI (pc := 113) mx_fl_X4_142 g24 rfl (.inl rfl) rfl rfl (mx_dd dd_X4_raise_1 22 (113, .putfield 142, 3) rfl) ?_
              have P := P _ rfl
              exact mx_return (pc := 116) (mx_dd dd_X4_raise_1 23 (116, .return_, 1) rfl) rfl P
        · have P := P.2 c64
          refine mx_aload_n (pc := 67) 2 (mx_dd dd_X4_raise_0 37 (67, .aload_n 0, 1) rfl) rfl rfl ?_
          refine mx_sipush (pc := 68) (v := (128 : Int32)) (mx_dd dd_X4_raise_0 38 (68, .sipush 128, 3) rfl) (by decide) ?_
          refine mx_iload_n (pc := 71) 1 (mx_dd dd_X4_raise_0 39 (71, .iload_n 2, 1) rfl) rfl rfl ?_
          refine mx_iconst (pc := 72) (v := (2 : Int32)) (mx_dd dd_X4_raise_1 0 (72, .iconst 2, 1) rfl) (by decide) ?_
          refine mx_icmp_ne (pc := 73) 81 (mx_dd dd_X4_raise_1 1 (73, .if_icmp .ne 8, 3) rfl) rfl (fun c73 => ?_) (fun c73 => ?_)
          · have P := P.1 c73
            refine mx_iload_n (pc := 81) 1 (mx_dd dd_X4_raise_1 4 (81, .iload_n 2, 1) rfl) rfl rfl ?_
            refine mx_iconst (pc := 82) (v := (1 : Int32)) (mx_dd dd_X4_raise_1 5 (82, .iconst 1, 1) rfl) (by decide) ?_
            refine mx_iadd (pc := 83) (mx_dd dd_X4_raise_1 6 (83, .iadd, 1) rfl) ?_
            refine mx_iadd (pc := 84) (mx_dd dd_X4_raise_1 7 (84, .iadd, 1) rfl) ?_
            refine mx_cVV (pc := 85) (Y := mY_X4_endWith) (As := [.int _]) mx_ml_X4_312 mx_y_X4_endWith rfl g16 (by decide) rfl (by decide) rfl (mx_dd dd_X4_raise_1 8 (85, .invokevirtual 312, 3) rfl) g5 (by decide) P (fun h9 P => ?_)
            refine mx_goto (pc := 88) 116 (mx_dd dd_X4_raise_1 9 (88, .goto 28, 3) rfl) rfl ?_
            exact mx_return (pc := 116) (mx_dd dd_X4_raise_1 23 (116, .return_, 1) rfl) rfl P
          · have P := P.2 c73
            refine mx_bipush (pc := 76) (v := (15 : Int32)) (mx_dd dd_X4_raise_1 2 (76, .bipush 15, 2) rfl) (by decide) ?_
            refine mx_goto (pc := 78) 84 (mx_dd dd_X4_raise_1 3 (78, .goto 6, 3) rfl) rfl ?_
            refine mx_iadd (pc := 84) (mx_dd dd_X4_raise_1 7 (84, .iadd, 1) rfl) ?_
            refine mx_cVV (pc := 85) (Y := mY_X4_endWith) (As := [.int _]) mx_ml_X4_312 mx_y_X4_endWith rfl g16 (by decide) rfl (by decide) rfl (mx_dd dd_X4_raise_1 8 (85, .invokevirtual 312, 3) rfl) g5 (by decide) P (fun h10 P => ?_)
            refine mx_goto (pc := 88) 116 (mx_dd dd_X4_raise_1 9 (88, .goto 28, 3) rfl) rfl ?_
            exact mx_return (pc := 116) (mx_dd dd_X4_raise_1 23 (116, .return_, 1) rfl) rfl P
      · have P := P.2 c39
        refine mx_aload_n (pc := 42) 1 (mx_dd dd_X4_raise_0 22 (42, .aload_n 0, 1) rfl) rfl rfl ?_
        obtain ⟨g25, P⟩ := P
        obtain ⟨b10, g26, P⟩ := P
        refine mx_getR (pc := 43) mx_fl_X4_51 g25 rfl g26 (mx_dd dd_X4_raise_0 23 (43, .getfield 51, 3) rfl) ?_
        refine mx_iconst (pc := 46) (v := (2 : Int32)) (mx_dd dd_X4_raise_0 24 (46, .iconst 2, 1) rfl) (by decide) ?_
        obtain ⟨g27, P⟩ := P
        refine mx_putI (pc := 47) mx_fl_X4_142 g27 rfl (.inl rfl) rfl rfl (mx_dd dd_X4_raise_0 25 (47, .putfield 142, 3) rfl) ?_
        have P := P _ rfl
        exact mx_return (pc := 50) (mx_dd dd_X4_raise_0 26 (50, .return_, 1) rfl) rfl P
theorem b_X4_testLoop {d : Nat} {h : mxH} {Q : mxRes → mxH → Prop} (x0 : Nat) (x1 : Int32)
    (P : hpK h x0 = 4 ∧ ∃ b1 : Nat, hpR h x0 10 = some b1 ∧ hpK h b1 = 8 ∧ (((hpI h b1 6) = 0 → Q (.inl none) h) ∧ (¬ (hpI h b1 6) = 0 → 1 ≤ d ∧ mx_SM mY_X4_field (d - 1) [.ref x0, .int (1 : Int32)] h (mx_KI (fun v1 h1 => hpK h1 b1 = 8 ∧ ∀ h2 : mxH, h2 = hsI h1 b1 6 v1 → hpK h2 x0 = 4 ∧ mx_SM mY_X4_pop (d - 1) [.ref x0] h2 (mx_KV (fun h3 => hpK h3 x0 = 4 ∧ ∀ h4 : mxH, h4 = hsI h3 x0 11 x1 → Q (.inl none) h4) (mx_XX mY_X4_testLoop Q))) (mx_XX mY_X4_testLoop Q))))) : mx_SM mY_X4_testLoop d [.ref x0, .int x1] h Q := by
  refine mx_SM_of (by decide) (Nat.le_of_ble_eq_true rfl) ?_
  show mx_SX mY_X4_testLoop d 0 [(0, .ref x0), (1, .int x1)] [] h Q
  refine mx_aload_n (pc := 0) 0 (mx_dd dd_X4_testLoop 0 (0, .aload_n 0, 1) rfl) rfl rfl ?_
  obtain ⟨g1, P⟩ := P
  obtain ⟨b1, g2, P⟩ := P
  refine mx_getR (pc := 1) mx_fl_X4_51 g1 rfl g2 (mx_dd dd_X4_testLoop 1 (1, .getfield 51, 3) rfl) ?_
  obtain ⟨g3, P⟩ := P
  refine mx_getI (pc := 4) mx_fl_X4_142 g3 rfl (mx_dd dd_X4_testLoop 2 (4, .getfield 142, 3) rfl) ?_
  refine mx_if_eq (pc := 7) 31 (mx_dd dd_X4_testLoop 3 (7, .ifCond .eq 24, 3) rfl) rfl (fun c7 => ?_) (fun c7 => ?_)
  · have P := P.1 c7
    exact mx_return (pc := 31) (mx_dd dd_X4_testLoop 15 (31, .return_, 1) rfl) rfl P
  · have P := P.2 c7
    refine mx_aload_n (pc := 10) 0 (mx_dd dd_X4_testLoop 4 (10, .aload_n 0, 1) rfl) rfl rfl ?_
    refine mx_getR (pc := 11) mx_fl_X4_51 g1 rfl g2 (mx_dd dd_X4_testLoop 5 (11, .getfield 51, 3) rfl) ?_
    refine mx_aload_n (pc := 14) 0 (mx_dd dd_X4_testLoop 6 (14, .aload_n 0, 1) rfl) rfl rfl ?_
    refine mx_iconst (pc := 15) (v := (1 : Int32)) (mx_dd dd_X4_testLoop 7 (15, .iconst 1, 1) rfl) (by decide) ?_
    obtain ⟨g4, P⟩ := P
    refine mx_cVI (pc := 16) (Y := mY_X4_field) (As := [.int _]) mx_ml_X4_344 mx_y_X4_field rfl g1 (by decide) rfl (by simp [Value.category]) rfl (mx_dd dd_X4_testLoop 8 (16, .invokevirtual 344, 3) rfl) g4 (by decide) P (fun v1 h1 P => ?_)
    obtain ⟨g5, P⟩ := P
    refine mx_putI (pc := 19) mx_fl_X4_142 g5 rfl (.inl rfl) rfl rfl (mx_dd dd_X4_testLoop 9 (19, .putfield 142, 3) rfl) ?_
    have P := P _ rfl
    refine mx_aload_n (pc := 22) 0 (mx_dd dd_X4_testLoop 10 (22, .aload_n 0, 1) rfl) rfl rfl ?_
    obtain ⟨g6, P⟩ := P
    refine mx_cVV (pc := 23) (Y := mY_X4_pop) (As := []) mx_ml_X4_228 mx_y_X4_pop rfl g6 (by decide) rfl (by decide) rfl (mx_dd dd_X4_testLoop 11 (23, .invokevirtual 228, 3) rfl) g4 (by decide) P (fun h3 P => ?_)
    refine mx_aload_n (pc := 26) 0 (mx_dd dd_X4_testLoop 12 (26, .aload_n 0, 1) rfl) rfl rfl ?_
    refine mx_iload_n (pc := 27) 1 (mx_dd dd_X4_testLoop 13 (27, .iload_n 1, 1) rfl) rfl rfl ?_
    obtain ⟨g7, P⟩ := P
    refine mx_putI (pc := 28) mx_fl_X4_85 g7 rfl (.inl rfl) rfl rfl (mx_dd dd_X4_testLoop 14 (28, .putfield 85, 3) rfl) ?_
    have P := P _ rfl
    exact mx_return (pc := 31) (mx_dd dd_X4_testLoop 15 (31, .return_, 1) rfl) rfl P
theorem b_X4_fork {d : Nat} {h : mxH} {Q : mxRes → mxH → Prop} (x0 : Nat)
    (P : hpK h x0 = 4 ∧ ((hpR h x0 8 = none → ∀ (b2 : Nat) (h1 : mxH), b2 = hpN h → h1 = hnw h 8 0 18 → hpK h1 x0 = 4 ∧ ∃ b3 : Nat, hpR h1 x0 1 = some b3 ∧ 1 ≤ d ∧ mx_SM mY_X8_init (d - 1) [.ref b2, .ref b3] h1 (mx_KV (fun h2 => mx_SX mY_X4_fork d 32 [(0, .ref x0), (1, va_rf (some b2))] [] h2 Q) fun _ _ => False)) ∧ (∀ b1 : Nat, hpR h x0 8 = some b1 → hpK h b1 = 8 ∧ ∀ h3 : mxH, h3 = hsR h x0 8 (hpR h b1 13) → mx_SX mY_X4_fork d 32 [(0, .ref x0), (1, va_rf (hpR h x0 8))] [] h3 Q))) : mx_SM mY_X4_fork d [.ref x0] h Q := by
  refine mx_SM_of (by decide) (Nat.le_of_ble_eq_true rfl) ?_
  show mx_SX mY_X4_fork d 0 [(0, .ref x0)] [] h Q
  refine mx_aload_n (pc := 0) 0 (mx_dd dd_X4_fork 0 (0, .aload_n 0, 1) rfl) rfl rfl ?_
  obtain ⟨g1, P⟩ := P
  refine mx_getO (pc := 1) mx_fl_X4_367 g1 rfl (mx_dd dd_X4_fork 1 (1, .getfield 367, 3) rfl) ?_
  refine mx_astore_nO (pc := 4) (mx_dd dd_X4_fork 2 (4, .astore_n 1, 1) rfl) rfl (by decide) (lv' := [(1, _), (0, _)]) rfl ?_
  refine mx_aload_nO (pc := 5) 0 (mx_dd dd_X4_fork 3 (5, .aload_n 1, 1) rfl) rfl rfl ?_
  refine mx_ifnonnullO (pc := 6) 24 (mx_dd dd_X4_fork 4 (6, .ifnonnull 18, 3) rfl) rfl (fun b1 g2 => ?_) (fun c6 => ?_)
  · have P := P.2 b1 g2
    refine mx_aload_n (pc := 24) 1 (mx_dd dd_X4_fork 12 (24, .aload_n 0, 1) rfl) rfl rfl ?_
    refine mx_aload_nO (pc := 25) 0 (mx_dd dd_X4_fork 13 (25, .aload_n 1, 1) rfl) rfl rfl ?_
    refine mx_deref0 g2 ?_
    obtain ⟨g6, P⟩ := P
    refine mx_getO (pc := 26) mx_fl_X4_102 g6 rfl (mx_dd dd_X4_fork 14 (26, .getfield 102, 3) rfl) ?_
    refine mx_putO (pc := 29) mx_fl_X4_367 g1 rfl (.inl rfl) (mx_dd dd_X4_fork 15 (29, .putfield 367, 3) rfl) ?_
    have P := P _ rfl
    refine mx_sel [1, 0] rfl ?_
    exact P
  · have P := P.1 c6
    refine mx_new (pc := 9) mx_nw_X4_59 (mx_nofd _) (mx_dd dd_X4_fork 5 (9, .new 59, 3) rfl) ?_
    have P := P _ _ rfl rfl
    refine mx_dup (pc := 12) (mx_dd dd_X4_fork 6 (12, .dup, 1) rfl) rfl ?_
    refine mx_aload_n (pc := 13) 1 (mx_dd dd_X4_fork 7 (13, .aload_n 0, 1) rfl) rfl rfl ?_
    obtain ⟨g3, P⟩ := P
    obtain ⟨b3, g4, P⟩ := P
    refine mx_getR (pc := 14) mx_fl_X4_15 g3 rfl g4 (mx_dd dd_X4_fork 8 (14, .getfield 15, 3) rfl) ?_
    obtain ⟨g5, P⟩ := P
    refine mx_cI (pc := 17) (Y := mY_X8_init) (As := [.ref _]) mx_ml_X4_370 mx_y_X8_init rfl rfl (by simp [Value.category]) rfl (mx_dd dd_X4_fork 9 (17, .invokespecial 370, 3) rfl) g5 (by decide) P (fun h2 P => ?_)
    refine mx_astore_n (pc := 20) (mx_dd dd_X4_fork 10 (20, .astore_n 1, 1) rfl) rfl (by decide) (lv' := [(1, _), (0, _)]) rfl ?_
    refine mx_goto (pc := 21) 32 (mx_dd dd_X4_fork 11 (21, .goto 11, 3) rfl) rfl ?_
    refine mx_sel [1, 0] rfl ?_
    exact P
theorem b_X4_fork_32 {d : Nat} {h : mxH} {Q : mxRes → mxH → Prop} (x0 : Nat) (x1 : Option Nat)
    (P : hpK h x0 = 4 ∧ ∃ b1 : Nat, hpR h x0 10 = some b1 ∧ ∃ b2 : Nat, x1 = some b2 ∧ 1 ≤ d ∧ hpK h b2 = 8 ∧ mx_SM mY_X8_inheritFrom (d - 1) [.ref b2, .ref b1] h (mx_KV (fun h1 => hpK h1 x0 = 4 ∧ ∃ b3 : Nat, hpR h1 x0 0 = some b3 ∧ hpK h1 b3 = 10 ∧ ∀ h2 : mxH, h2 = hsI h1 b3 12 ((hpI h1 b3 12) + (1 : Int32)) → (∀ b, x1 = some b → b < hpN h2) ∧ Q (.inl (some (va_rf x1))) h2) (mx_XX mY_X4_fork Q))) : mx_SX mY_X4_fork d 32 [(0, .ref x0), (1, va_rf x1)] [] h Q := by
  refine mx_aload_nO (pc := 32) 1 (mx_dd dd_X4_fork 16 (32, .aload_n 1, 1) rfl) rfl rfl ?_
  refine mx_aload_n (pc := 33) 0 (mx_dd dd_X4_fork 17 (33, .aload_n 0, 1) rfl) rfl rfl ?_
  obtain ⟨g1, P⟩ := P
  obtain ⟨b1, g2, P⟩ := P
  refine mx_getR (pc := 34) mx_fl_X4_51 g1 rfl g2 (mx_dd dd_X4_fork 18 (34, .getfield 51, 3) rfl) ?_
  obtain ⟨b2, g3, P⟩ := P
  refine mx_deref1 g3 ?_
  obtain ⟨g4, P⟩ := P
  obtain ⟨g5, P⟩ := P
  refine mx_cVV (pc := 37) (Y := mY_X8_inheritFrom) (As := [.ref _]) mx_ml_X4_371 mx_y_X8_inheritFrom rfl g5 (by decide) rfl (by decide) rfl (mx_dd dd_X4_fork 19 (37, .invokevirtual 371, 3) rfl) g4 (by decide) P (fun h1 P => ?_)
  refine mx_aload_n (pc := 40) 0 (mx_dd dd_X4_fork 20 (40, .aload_n 0, 1) rfl) rfl rfl ?_
  obtain ⟨g6, P⟩ := P
  obtain ⟨b3, g7, P⟩ := P
  refine mx_getR (pc := 41) mx_fl_X4_9 g6 rfl g7 (mx_dd dd_X4_fork 21 (41, .getfield 9, 3) rfl) ?_
  refine mx_dup (pc := 44) (mx_dd dd_X4_fork 22 (44, .dup, 1) rfl) rfl ?_
  obtain ⟨g8, P⟩ := P
  refine mx_getI (pc := 45) mx_fl_X4_374 g8 rfl (mx_dd dd_X4_fork 23 (45, .getfield 374, 3) rfl) ?_
  refine mx_iconst (pc := 48) (v := (1 : Int32)) (mx_dd dd_X4_fork 24 (48, .iconst 1, 1) rfl) (by decide) ?_
  refine mx_iadd (pc := 49) (mx_dd dd_X4_fork 25 (49, .iadd, 1) rfl) ?_
  refine mx_putI (pc := 50) mx_fl_X4_374 g8 rfl (.inl rfl) rfl rfl (mx_dd dd_X4_fork 26 (50, .putfield 374, 3) rfl) ?_
  have P := P _ rfl
  refine mx_aload_nO (pc := 53) 1 (mx_dd dd_X4_fork 27 (53, .aload_n 1, 1) rfl) rfl rfl ?_
  obtain ⟨g9, P⟩ := P
  exact mx_areturnO (pc := 54) (mx_dd dd_X4_fork 28 (54, .areturn, 1) rfl) rfl g9 P
theorem b_X4_enter {d : Nat} {h : mxH} {Q : mxRes → mxH → Prop} (x0 : Nat) (x1 : Nat) (x2 : Int32) (x3 : Int32) (x4 : Int32)
    (P : 1 ≤ d ∧ hpK h x0 = 4 ∧ mx_SM mY_X4_push (d - 1) [.ref x0, .int (7 : Int32), .int x3, .int x2, .int x4] h (mx_KV (fun h1 => hpK h1 x0 = 4 ∧ ∃ b1 : Nat, hpR h1 x0 10 = some b1 ∧ hpK h1 x1 = 8 ∧ ∀ h2 : mxH, h2 = hsR h1 x1 13 (some b1) → ∀ h3 : mxH, h3 = hsI h2 x1 12 (hpI h2 x0 4) → ∀ h4 : mxH, h4 = hsR h3 x0 10 (some x1) → Q (.inl none) h4) (mx_XX mY_X4_enter Q))) : mx_SM mY_X4_enter d [.ref x0, .ref x1, .int x2, .int x3, .int x4] h Q := by
  refine mx_SM_of (by decide) (Nat.le_of_ble_eq_true rfl) ?_
  show mx_SX mY_X4_enter d 0 [(0, .ref x0), (1, .ref x1), (2, .int x2), (3, .int x3), (4, .int x4)] [] h Q
  refine mx_aload_n (pc := 0) 0 (mx_dd dd_X4_enter 0 (0, .aload_n 0, 1) rfl) rfl rfl ?_
  refine mx_bipush (pc := 1) (v := (7 : Int32)) (mx_dd dd_X4_enter 1 (1, .bipush 7, 2) rfl) (by decide) ?_
  refine mx_iload_n (pc := 3) 3 (mx_dd dd_X4_enter 2 (3, .iload_n 3, 1) rfl) rfl rfl ?_
  refine mx_iload_n (pc := 4) 2 (mx_dd dd_X4_enter 3 (4, .iload_n 2, 1) rfl) rfl rfl ?_
  refine mx_iload (pc := 5) 4 (mx_dd dd_X4_enter 4 (5, .iload 4, 2) rfl) rfl ?_
  obtain ⟨g1, P⟩ := P
  obtain ⟨g2, P⟩ := P
  refine mx_cVV (pc := 7) (Y := mY_X4_push) (As := [.int _, .int _, .int _, .int _]) mx_ml_X4_155 mx_y_X4_push rfl g2 (by decide) rfl (by decide) rfl (mx_dd dd_X4_enter 5 (7, .invokevirtual 155, 3) rfl) g1 (by decide) P (fun h1 P => ?_)
  refine mx_aload_n (pc := 10) 1 (mx_dd dd_X4_enter 6 (10, .aload_n 1, 1) rfl) rfl rfl ?_
  refine mx_aload_n (pc := 11) 0 (mx_dd dd_X4_enter 7 (11, .aload_n 0, 1) rfl) rfl rfl ?_
  obtain ⟨g3, P⟩ := P
  obtain ⟨b1, g4, P⟩ := P
  refine mx_getR (pc := 12) mx_fl_X4_51 g3 rfl g4 (mx_dd dd_X4_enter 8 (12, .getfield 51, 3) rfl) ?_
  obtain ⟨g5, P⟩ := P
  refine mx_putR (pc := 15) mx_fl_X4_102 g5 rfl (.inl rfl) (mx_dd dd_X4_enter 9 (15, .putfield 102, 3) rfl) ?_
  have P := P _ rfl
  refine mx_aload_n (pc := 18) 1 (mx_dd dd_X4_enter 10 (18, .aload_n 1, 1) rfl) rfl rfl ?_
  refine mx_aload_n (pc := 19) 0 (mx_dd dd_X4_enter 11 (19, .aload_n 0, 1) rfl) rfl rfl ?_
  refine mx_getI (pc := 20) mx_fl_X4_78 g3 rfl (mx_dd dd_X4_enter 12 (20, .getfield 78, 3) rfl) ?_
  refine mx_putI (pc := 23) mx_fl_X4_377 g5 rfl (.inl rfl) rfl rfl (mx_dd dd_X4_enter 13 (23, .putfield 377, 3) rfl) ?_
  have P := P _ rfl
  refine mx_aload_n (pc := 26) 0 (mx_dd dd_X4_enter 14 (26, .aload_n 0, 1) rfl) rfl rfl ?_
  refine mx_aload_n (pc := 27) 1 (mx_dd dd_X4_enter 15 (27, .aload_n 1, 1) rfl) rfl rfl ?_
  refine mx_putR (pc := 28) mx_fl_X4_51 g3 rfl (.inl rfl) (mx_dd dd_X4_enter 16 (28, .putfield 51, 3) rfl) ?_
  have P := P _ rfl
  exact mx_return (pc := 31) (mx_dd dd_X4_enter 17 (31, .return_, 1) rfl) rfl P
theorem b_X4_release {d : Nat} {h : mxH} {Q : mxRes → mxH → Prop} (x0 : Nat) (x1 : Nat)
    (P : hpK h x1 = 8 ∧ ∃ b1 : Nat, hpR h x1 3 = some b1 ∧ 1 ≤ d ∧ hpK h b1 = 2 ∧ mx_SM mY_X2_closeAll (d - 1) [.ref b1] h (mx_KV (fun h1 => hpK h1 x0 = 4 ∧ hpK h1 x1 = 8 ∧ ∀ h2 : mxH, h2 = hsR h1 x1 13 (hpR h1 x0 8) → ∀ h3 : mxH, h3 = hsR h2 x0 8 (some x1) → Q (.inl none) h3) (mx_XX mY_X4_release Q))) : mx_SM mY_X4_release d [.ref x0, .ref x1] h Q := by
  refine mx_SM_of (by decide) (Nat.le_of_ble_eq_true rfl) ?_
  show mx_SX mY_X4_release d 0 [(0, .ref x0), (1, .ref x1)] [] h Q
  refine mx_aload_n (pc := 0) 1 (mx_dd dd_X4_release 0 (0, .aload_n 1, 1) rfl) rfl rfl ?_
  obtain ⟨g1, P⟩ := P
  obtain ⟨b1, g2, P⟩ := P
  refine mx_getR (pc := 1) mx_fl_X4_71 g1 rfl g2 (mx_dd dd_X4_release 1 (1, .getfield 71, 3) rfl) ?_
  obtain ⟨g3, P⟩ := P
  obtain ⟨g4, P⟩ := P
  refine mx_cVV (pc := 4) (Y := mY_X2_closeAll) (As := []) mx_ml_X4_112 mx_y_X2_closeAll rfl g4 (by decide) rfl (by decide) rfl (mx_dd dd_X4_release 2 (4, .invokevirtual 112, 3) rfl) g3 (by decide) P (fun h1 P => ?_)
  refine mx_aload_n (pc := 7) 1 (mx_dd dd_X4_release 3 (7, .aload_n 1, 1) rfl) rfl rfl ?_
  refine mx_aload_n (pc := 8) 0 (mx_dd dd_X4_release 4 (8, .aload_n 0, 1) rfl) rfl rfl ?_
  obtain ⟨g5, P⟩ := P
  refine mx_getO (pc := 9) mx_fl_X4_367 g5 rfl (mx_dd dd_X4_release 5 (9, .getfield 367, 3) rfl) ?_
  obtain ⟨g6, P⟩ := P
  refine mx_putO (pc := 12) mx_fl_X4_102 g6 rfl (.inl rfl) (mx_dd dd_X4_release 6 (12, .putfield 102, 3) rfl) ?_
  have P := P _ rfl
  refine mx_aload_n (pc := 15) 0 (mx_dd dd_X4_release 7 (15, .aload_n 0, 1) rfl) rfl rfl ?_
  refine mx_aload_n (pc := 16) 1 (mx_dd dd_X4_release 8 (16, .aload_n 1, 1) rfl) rfl rfl ?_
  refine mx_putR (pc := 17) mx_fl_X4_367 g5 rfl (.inl rfl) (mx_dd dd_X4_release 9 (17, .putfield 367, 3) rfl) ?_
  have P := P _ rfl
  exact mx_return (pc := 20) (mx_dd dd_X4_release 10 (20, .return_, 1) rfl) rfl P
theorem b_X4_releaseJobs {d : Nat} {h : mxH} {Q : mxRes → mxH → Prop} (x0 : Nat) (x1 : Nat)
    (P : mx_SX mY_X4_releaseJobs d 2 [(0, .ref x0), (1, .ref x1), (2, .int (0 : Int32))] [] h Q) : mx_SM mY_X4_releaseJobs d [.ref x0, .ref x1] h Q := by
  refine mx_SM_of (by decide) (Nat.le_of_ble_eq_true rfl) ?_
  show mx_SX mY_X4_releaseJobs d 0 [(0, .ref x0), (1, .ref x1)] [] h Q
  refine mx_iconst (pc := 0) (v := (0 : Int32)) (mx_dd dd_X4_releaseJobs 0 (0, .iconst 0, 1) rfl) (by decide) ?_
  refine mx_istore_n (pc := 1) (mx_dd dd_X4_releaseJobs 1 (1, .istore_n 2, 1) rfl) rfl (by decide) (lv' := [(2, _), (0, _), (1, _)]) rfl ?_
  refine mx_sel [1, 2, 0] rfl ?_
  exact P
theorem b_X4_releaseJobs_2 {d : Nat} {h : mxH} {Q : mxRes → mxH → Prop} (x0 : Nat) (x1 : Nat) (x2 : Int32)
    (P : (((8 : Int32) ≤ x2 → Q (.inl none) h) ∧ (¬ (8 : Int32) ≤ x2 → 1 ≤ d ∧ hpK h x1 = 8 ∧ mx_SM mY_X8_takeJob (d - 1) [.ref x1, .int x2] h (mx_KR (fun v1 h1 => ((v1 = none → mx_SX mY_X4_releaseJobs d 23 [(0, .ref x0), (1, .ref x1), (2, .int x2)] [] h1 Q) ∧ (∀ b1 : Nat, v1 = some b1 → hpK h1 x0 = 4 ∧ mx_SM mY_X4_release (d - 1) [.ref x0, .ref b1] h1 (mx_KV (fun h2 => mx_SX mY_X4_releaseJobs d 23 [(0, .ref x0), (1, .ref x1), (2, .int x2)] [] h2 Q) (mx_XX mY_X4_releaseJobs Q))))) (mx_XX mY_X4_releaseJobs Q))))) : mx_SX mY_X4_releaseJobs d 2 [(0, .ref x0), (1, .ref x1), (2, .int x2)] [] h Q := by
  refine mx_iload_n (pc := 2) 2 (mx_dd dd_X4_releaseJobs 2 (2, .iload_n 2, 1) rfl) rfl rfl ?_
  refine mx_bipush (pc := 3) (v := (8 : Int32)) (mx_dd dd_X4_releaseJobs 3 (3, .bipush 8, 2) rfl) (by decide) ?_
  refine mx_icmp_ge (pc := 5) 29 (mx_dd dd_X4_releaseJobs 4 (5, .if_icmp .ge 24, 3) rfl) rfl (fun c5 => ?_) (fun c5 => ?_)
  · have P := P.1 c5
    exact mx_return (pc := 29) (mx_dd dd_X4_releaseJobs 16 (29, .return_, 1) rfl) rfl P
  · have P := P.2 c5
    refine mx_aload_n (pc := 8) 1 (mx_dd dd_X4_releaseJobs 5 (8, .aload_n 1, 1) rfl) rfl rfl ?_
    refine mx_iload_n (pc := 9) 2 (mx_dd dd_X4_releaseJobs 6 (9, .iload_n 2, 1) rfl) rfl rfl ?_
    obtain ⟨g1, P⟩ := P
    obtain ⟨g2, P⟩ := P
    refine mx_cVR (pc := 10) (Y := mY_X8_takeJob) (As := [.int _]) mx_ml_X4_380 mx_y_X8_takeJob rfl g2 (by decide) rfl (by decide) rfl (mx_dd dd_X4_releaseJobs 7 (10, .invokevirtual 380, 3) rfl) g1 (by decide) P (fun v1 h1 P => ?_)
    refine mx_astore_nO (pc := 13) (mx_dd dd_X4_releaseJobs 8 (13, .astore_n 3, 1) rfl) rfl (by decide) (lv' := [(3, _), (0, _), (1, _), (2, _)]) rfl ?_
    refine mx_aload_nO (pc := 14) 0 (mx_dd dd_X4_releaseJobs 9 (14, .aload_n 3, 1) rfl) rfl rfl ?_
    refine mx_ifnullO (pc := 15) 23 (mx_dd dd_X4_releaseJobs 10 (15, .ifnull 8, 3) rfl) rfl (fun c15 => ?_) (fun b1 g3 => ?_)
    · have P := P.1 c15
      refine mx_sel [1, 2, 3] rfl ?_
      exact P
    · have P := P.2 b1 g3
      refine mx_aload_n (pc := 18) 1 (mx_dd dd_X4_releaseJobs 11 (18, .aload_n 0, 1) rfl) rfl rfl ?_
      refine mx_aload_nO (pc := 19) 0 (mx_dd dd_X4_releaseJobs 12 (19, .aload_n 3, 1) rfl) rfl rfl ?_
      refine mx_deref0 g3 ?_
      obtain ⟨g4, P⟩ := P
      refine mx_cVV (pc := 20) (Y := mY_X4_release) (As := [.ref _]) mx_ml_X4_109 mx_y_X4_release rfl g4 (by decide) rfl (by decide) rfl (mx_dd dd_X4_releaseJobs 13 (20, .invokevirtual 109, 3) rfl) g1 (by decide) P (fun h2 P => ?_)
      refine mx_sel [1, 2, 3] rfl ?_
      exact P
theorem b_X4_releaseJobs_23 {d : Nat} {h : mxH} {Q : mxRes → mxH → Prop} (x0 : Nat) (x1 : Nat) (x2 : Int32)
    (P : mx_SX mY_X4_releaseJobs d 2 [(0, .ref x0), (1, .ref x1), (2, .int (x2 + (1 : Int32)))] [] h Q) : mx_SX mY_X4_releaseJobs d 23 [(0, .ref x0), (1, .ref x1), (2, .int x2)] [] h Q := by
  refine mx_iinc (pc := 23) 2 (mx_dd dd_X4_releaseJobs 14 (23, .iinc 2 1, 3) rfl) rfl (mx_kadd (by decide : Int32.ofInt 1 = (1 : Int32))) (by decide) (lv' := [(2, _), (0, _), (1, _)]) rfl ?_
  refine mx_goto (pc := 26) 2 (mx_dd dd_X4_releaseJobs 15 (26, .goto (-24), 3) rfl) rfl ?_
  refine mx_sel [1, 2, 0] rfl ?_
  exact P
theorem b_X4_forkPiped {d : Nat} {h : mxH} {Q : mxRes → mxH → Prop} (x0 : Nat) (x1 : Int32) (x2 : Int32)
    (P : 1 ≤ d ∧ hpK h x0 = 4 ∧ mx_SM mY_X4_field (d - 1) [.ref x0, .int (3 : Int32)] h (mx_KI (fun v1 h1 => hpK h1 x0 = 4 ∧ mx_SM mY_X4_fork (d - 1) [.ref x0] h1 (mx_KR (fun v2 h2 => ((v1 < 0 → mx_SX mY_X4_forkPiped d 36 [(0, .ref x0), (1, .int x1), (2, .int x2), (4, va_rf v2)] [] h2 Q) ∧ (¬ v1 < 0 → ∃ b1 : Nat, v2 = some b1 ∧ hpK h2 b1 = 8 ∧ ∃ b2 : Nat, hpR h2 b1 3 = some b2 ∧ hpK h2 x0 = 4 ∧ ∃ b3 : Nat, hpR h2 x0 1 = some b3 ∧ hpK h2 b3 = 0 ∧ mx_SM mY_X0_open (d - 1) [.ref b3, .int (5 : Int32), .int (-1 : Int32), .int v1, .int (0 : Int32)] h2 (mx_KR (fun v3 h3 => hpK h3 b2 = 2 ∧ mx_SM mY_X2_put (d - 1) [.ref b2, .int (0 : Int32), va_rf v3] h3 (mx_KV (fun h4 => mx_SX mY_X4_forkPiped d 36 [(0, .ref x0), (1, .int x1), (2, .int x2), (4, va_rf v2)] [] h4 Q) (mx_XX mY_X4_forkPiped Q))) (mx_XX mY_X4_forkPiped Q))))) (mx_XX mY_X4_forkPiped Q))) (mx_XX mY_X4_forkPiped Q))) : mx_SM mY_X4_forkPiped d [.ref x0, .int x1, .int x2] h Q := by
  refine mx_SM_of (by decide) (Nat.le_of_ble_eq_true rfl) ?_
  show mx_SX mY_X4_forkPiped d 0 [(0, .ref x0), (1, .int x1), (2, .int x2)] [] h Q
  refine mx_aload_n (pc := 0) 0 (mx_dd dd_X4_forkPiped 0 (0, .aload_n 0, 1) rfl) rfl rfl ?_
  refine mx_iconst (pc := 1) (v := (3 : Int32)) (mx_dd dd_X4_forkPiped 1 (1, .iconst 3, 1) rfl) (by decide) ?_
  obtain ⟨g1, P⟩ := P
  obtain ⟨g2, P⟩ := P
  refine mx_cVI (pc := 2) (Y := mY_X4_field) (As := [.int _]) mx_ml_X4_344 mx_y_X4_field rfl g2 (by decide) rfl (by decide) rfl (mx_dd dd_X4_forkPiped 2 (2, .invokevirtual 344, 3) rfl) g1 (by decide) P (fun v1 h1 P => ?_)
  refine mx_istore_n (pc := 5) (mx_dd dd_X4_forkPiped 3 (5, .istore_n 3, 1) rfl) rfl (by decide) (lv' := [(3, _), (0, _), (1, _), (2, _)]) rfl ?_
  refine mx_aload_n (pc := 6) 1 (mx_dd dd_X4_forkPiped 4 (6, .aload_n 0, 1) rfl) rfl rfl ?_
  obtain ⟨g3, P⟩ := P
  refine mx_cVR (pc := 7) (Y := mY_X4_fork) (As := []) mx_ml_X4_165 mx_y_X4_fork rfl g3 (by decide) rfl (by decide) rfl (mx_dd dd_X4_forkPiped 5 (7, .invokevirtual 165, 3) rfl) g1 (by decide) P (fun v2 h2 P => ?_)
  refine mx_astoreO (pc := 10) (mx_dd dd_X4_forkPiped 6 (10, .astore 4, 2) rfl) (by decide) (lv' := [(4, _), (3, _), (0, _), (1, _), (2, _)]) rfl ?_
  refine mx_iload_n (pc := 12) 1 (mx_dd dd_X4_forkPiped 7 (12, .iload_n 3, 1) rfl) rfl rfl ?_
  refine mx_if_lt (pc := 13) 36 (mx_dd dd_X4_forkPiped 8 (13, .ifCond .lt 23, 3) rfl) rfl (fun c13 => ?_) (fun c13 => ?_)
  · have P := P.1 c13
    refine mx_sel [2, 3, 4, 0] rfl ?_
    exact P
  · have P := P.2 c13
    refine mx_aloadO (pc := 16) 0 (mx_dd dd_X4_forkPiped 9 (16, .aload 4, 2) rfl) rfl ?_
    obtain ⟨b1, g4, P⟩ := P
    refine mx_deref0 g4 ?_
    obtain ⟨g5, P⟩ := P
    obtain ⟨b2, g6, P⟩ := P
    refine mx_getR (pc := 18) mx_fl_X4_71 g5 rfl g6 (mx_dd dd_X4_forkPiped 10 (18, .getfield 71, 3) rfl) ?_
    refine mx_iconst (pc := 21) (v := (0 : Int32)) (mx_dd dd_X4_forkPiped 11 (21, .iconst 0, 1) rfl) (by decide) ?_
    refine mx_aload_n (pc := 22) 2 (mx_dd dd_X4_forkPiped 12 (22, .aload_n 0, 1) rfl) rfl rfl ?_
    obtain ⟨g7, P⟩ := P
    obtain ⟨b3, g8, P⟩ := P
    refine mx_getR (pc := 23) mx_fl_X4_15 g7 rfl g8 (mx_dd dd_X4_forkPiped 13 (23, .getfield 15, 3) rfl) ?_
    refine mx_iconst (pc := 26) (v := (5 : Int32)) (mx_dd dd_X4_forkPiped 14 (26, .iconst 5, 1) rfl) (by decide) ?_
    refine mx_iconst (pc := 27) (v := (-1 : Int32)) (mx_dd dd_X4_forkPiped 15 (27, .iconst (-1), 1) rfl) (by decide) ?_
    refine mx_iload_n (pc := 28) 1 (mx_dd dd_X4_forkPiped 16 (28, .iload_n 3, 1) rfl) rfl rfl ?_
    refine mx_iconst (pc := 29) (v := (0 : Int32)) (mx_dd dd_X4_forkPiped 17 (29, .iconst 0, 1) rfl) (by decide) ?_
    obtain ⟨g9, P⟩ := P
    refine mx_cVR (pc := 30) (Y := mY_X0_open) (As := [.int _, .int _, .int _, .int _]) mx_ml_X4_267 mx_y_X0_open rfl g9 (by decide) rfl (by simp [Value.category]) rfl (mx_dd dd_X4_forkPiped 18 (30, .invokevirtual 267, 3) rfl) g1 (by decide) P (fun v3 h3 P => ?_)
    obtain ⟨g10, P⟩ := P
    refine mx_cVV (pc := 33) (Y := mY_X2_put) (As := [.int _, va_rf _]) mx_ml_X4_263 mx_y_X2_put rfl g10 (by decide) rfl (by decide) rfl (mx_dd dd_X4_forkPiped 19 (33, .invokevirtual 263, 3) rfl) g1 (by decide) P (fun h4 P => ?_)
    refine mx_sel [2, 3, 4, 0] rfl ?_
    exact P
theorem b_X4_forkPiped_36 {d : Nat} {h : mxH} {Q : mxRes → mxH → Prop} (x0 : Nat) (x1 : Int32) (x2 : Int32) (x4 : Option Nat)
    (P : ((¬ x1 = 0 → mx_SX mY_X4_forkPiped d 78 [(0, .ref x0), (2, .int x2), (4, va_rf x4)] [] h Q) ∧ (x1 = 0 → hpK h x0 = 4 ∧ ∃ b1 : Nat, hpR h x0 1 = some b1 ∧ 1 ≤ d ∧ hpK h b1 = 0 ∧ mx_SM mY_X0_makePipe (d - 1) [.ref b1] h (mx_KI (fun v1 h1 => ∃ b2 : Nat, x4 = some b2 ∧ hpK h1 b2 = 8 ∧ ∃ b3 : Nat, hpR h1 b2 3 = some b3 ∧ hpK h1 x0 = 4 ∧ ∃ b4 : Nat, hpR h1 x0 1 = some b4 ∧ hpK h1 b4 = 0 ∧ mx_SM mY_X0_open (d - 1) [.ref b4, .int (6 : Int32), .int (-1 : Int32), .int v1, .int (0 : Int32)] h1 (mx_KR (fun v2 h2 => hpK h2 b3 = 2 ∧ mx_SM mY_X2_put (d - 1) [.ref b3, .int (1 : Int32), va_rf v2] h2 (mx_KV (fun h3 => hpK h3 x0 = 4 ∧ mx_SM mY_X4_setField (d - 1) [.ref x0, .int (3 : Int32), .int v1] h3 (mx_KV (fun h4 => mx_SX mY_X4_forkPiped d 78 [(0, .ref x0), (2, .int x2), (4, va_rf x4)] [] h4 Q) (mx_XX mY_X4_forkPiped Q))) (mx_XX mY_X4_forkPiped Q))) (mx_XX mY_X4_forkPiped Q))) (mx_XX mY_X4_forkPiped Q))))) : mx_SX mY_X4_forkPiped d 36 [(0, .ref x0), (1, .int x1), (2, .int x2), (4, va_rf x4)] [] h Q := by
  refine mx_iload_n (pc := 36) 1 (mx_dd dd_X4_forkPiped 20 (36, .iload_n 1, 1) rfl) rfl rfl ?_
  refine mx_if_ne (pc := 37) 78 (mx_dd dd_X4_forkPiped 21 (37, .ifCond .ne 41, 3) rfl) rfl (fun c37 => ?_) (fun c37 => ?_)
  · have P := P.1 c37
    refine mx_sel [0, 2, 3] rfl ?_
    exact P
  · have P := P.2 c37
    refine mx_aload_n (pc := 40) 0 (mx_dd dd_X4_forkPiped 22 (40, .aload_n 0, 1) rfl) rfl rfl ?_
    obtain ⟨g1, P⟩ := P
    obtain ⟨b1, g2, P⟩ := P
    refine mx_getR (pc := 41) mx_fl_X4_15 g1 rfl g2 (mx_dd dd_X4_forkPiped 23 (41, .getfield 15, 3) rfl) ?_
    obtain ⟨g3, P⟩ := P
    obtain ⟨g4, P⟩ := P
    refine mx_cVI (pc := 44) (Y := mY_X0_makePipe) (As := []) mx_ml_X4_384 mx_y_X0_makePipe rfl g4 (by decide) rfl (by decide) rfl (mx_dd dd_X4_forkPiped 24 (44, .invokevirtual 384, 3) rfl) g3 (by decide) P (fun v1 h1 P => ?_)
    refine mx_istore (pc := 47) (mx_dd dd_X4_forkPiped 25 (47, .istore 5, 2) rfl) (by decide) rfl ?_
    refine mx_stoK [0, 1, 2, 3] (lv2 := [(0, _), (1, _), (2, _), (4, _)]) rfl ⟨⟨rfl, .inl rfl⟩, ⟨⟨rfl, .inl rfl⟩, ⟨⟨rfl, .inl rfl⟩, ⟨⟨rfl, .inr mx_catO⟩, trivial⟩⟩⟩⟩ ?_
    refine mx_aloadO (pc := 49) 4 (mx_dd dd_X4_forkPiped 26 (49, .aload 4, 2) rfl) rfl ?_
    obtain ⟨b2, g5, P⟩ := P
    refine mx_deref0 g5 ?_
    obtain ⟨g6, P⟩ := P
    obtain ⟨b3, g7, P⟩ := P
    refine mx_getR (pc := 51) mx_fl_X4_71 g6 rfl g7 (mx_dd dd_X4_forkPiped 27 (51, .getfield 71, 3) rfl) ?_
    refine mx_iconst (pc := 54) (v := (1 : Int32)) (mx_dd dd_X4_forkPiped 28 (54, .iconst 1, 1) rfl) (by decide) ?_
    refine mx_aload_n (pc := 55) 1 (mx_dd dd_X4_forkPiped 29 (55, .aload_n 0, 1) rfl) rfl rfl ?_
    obtain ⟨g8, P⟩ := P
    obtain ⟨b4, g9, P⟩ := P
    refine mx_getR (pc := 56) mx_fl_X4_15 g8 rfl g9 (mx_dd dd_X4_forkPiped 30 (56, .getfield 15, 3) rfl) ?_
    refine mx_bipush (pc := 59) (v := (6 : Int32)) (mx_dd dd_X4_forkPiped 31 (59, .bipush 6, 2) rfl) (by decide) ?_
    refine mx_iconst (pc := 61) (v := (-1 : Int32)) (mx_dd dd_X4_forkPiped 32 (61, .iconst (-1), 1) rfl) (by decide) ?_
    refine mx_iload (pc := 62) 0 (mx_dd dd_X4_forkPiped 33 (62, .iload 5, 2) rfl) rfl ?_
    refine mx_iconst (pc := 64) (v := (0 : Int32)) (mx_dd dd_X4_forkPiped 34 (64, .iconst 0, 1) rfl) (by decide) ?_
    obtain ⟨g10, P⟩ := P
    refine mx_cVR (pc := 65) (Y := mY_X0_open) (As := [.int _, .int _, .int _, .int _]) mx_ml_X4_267 mx_y_X0_open rfl g10 (by decide) rfl (by simp [Value.category]) rfl (mx_dd dd_X4_forkPiped 35 (65, .invokevirtual 267, 3) rfl) g3 (by decide) P (fun v2 h2 P => ?_)
    obtain ⟨g11, P⟩ := P
    refine mx_cVV (pc := 68) (Y := mY_X2_put) (As := [.int _, va_rf _]) mx_ml_X4_263 mx_y_X2_put rfl g11 (by decide) rfl (by decide) rfl (mx_dd dd_X4_forkPiped 36 (68, .invokevirtual 263, 3) rfl) g3 (by decide) P (fun h3 P => ?_)
    refine mx_aload_n (pc := 71) 1 (mx_dd dd_X4_forkPiped 37 (71, .aload_n 0, 1) rfl) rfl rfl ?_
    refine mx_iconst (pc := 72) (v := (3 : Int32)) (mx_dd dd_X4_forkPiped 38 (72, .iconst 3, 1) rfl) (by decide) ?_
    refine mx_iload (pc := 73) 0 (mx_dd dd_X4_forkPiped 39 (73, .iload 5, 2) rfl) rfl ?_
    obtain ⟨g12, P⟩ := P
    refine mx_cVV (pc := 75) (Y := mY_X4_setField) (As := [.int _, .int _]) mx_ml_X4_162 mx_y_X4_setField rfl g12 (by decide) rfl (by decide) rfl (mx_dd dd_X4_forkPiped 40 (75, .invokevirtual 162, 3) rfl) g3 (by decide) P (fun h4 P => ?_)
    refine mx_sel [1, 3, 4] rfl ?_
    exact P
theorem b_X4_forkPiped_78 {d : Nat} {h : mxH} {Q : mxRes → mxH → Prop} (x0 : Nat) (x2 : Int32) (x4 : Option Nat)
    (P : ∃ b1 : Nat, x4 = some b1 ∧ 1 ≤ d ∧ hpK h x0 = 4 ∧ mx_SM mY_X4_enter (d - 1) [.ref x0, .ref b1, .int (1 : Int32), .int x2, .int (0 : Int32)] h (mx_KV (fun h1 => Q (.inl none) h1) (mx_XX mY_X4_forkPiped Q))) : mx_SX mY_X4_forkPiped d 78 [(0, .ref x0), (2, .int x2), (4, va_rf x4)] [] h Q := by
  refine mx_aload_n (pc := 78) 0 (mx_dd dd_X4_forkPiped 41 (78, .aload_n 0, 1) rfl) rfl rfl ?_
  refine mx_aloadO (pc := 79) 2 (mx_dd dd_X4_forkPiped 42 (79, .aload 4, 2) rfl) rfl ?_
  refine mx_iconst (pc := 81) (v := (1 : Int32)) (mx_dd dd_X4_forkPiped 43 (81, .iconst 1, 1) rfl) (by decide) ?_
  refine mx_iload_n (pc := 82) 1 (mx_dd dd_X4_forkPiped 44 (82, .iload_n 2, 1) rfl) rfl rfl ?_
  refine mx_iconst (pc := 83) (v := (0 : Int32)) (mx_dd dd_X4_forkPiped 45 (83, .iconst 0, 1) rfl) (by decide) ?_
  obtain ⟨b1, g1, P⟩ := P
  refine mx_deref3 g1 ?_
  obtain ⟨g2, P⟩ := P
  obtain ⟨g3, P⟩ := P
  refine mx_cVV (pc := 84) (Y := mY_X4_enter) (As := [.ref _, .int _, .int _, .int _]) mx_ml_X4_169 mx_y_X4_enter rfl g3 (by decide) rfl (by decide) rfl (mx_dd dd_X4_forkPiped 46 (84, .invokevirtual 169, 3) rfl) g2 (by decide) P (fun h1 P => ?_)
  exact mx_return (pc := 87) (mx_dd dd_X4_forkPiped 47 (87, .return_, 1) rfl) rfl P
theorem b_X4_finishPipeline {d : Nat} {h : mxH} {Q : mxRes → mxH → Prop} (x0 : Nat)
    (P : hpK h x0 = 4 ∧ ∃ b1 : Nat, hpR h x0 10 = some b1 ∧ hpK h b1 = 8 ∧ (((hpI h b1 4) = 0 → 1 ≤ d ∧ mx_SM mY_X4_field (d - 1) [.ref x0, .int (1 : Int32)] h (mx_KI (fun v1 h1 => hpK h1 b1 = 8 ∧ ∀ h2 : mxH, h2 = hsI h1 b1 6 v1 → hpK h2 x0 = 4 ∧ mx_SM mY_X4_pop (d - 1) [.ref x0] h2 (mx_KV (fun h3 => Q (.inl none) h3) (mx_XX mY_X4_finishPipeline Q))) (mx_XX mY_X4_finishPipeline Q))) ∧ (¬ (hpI h b1 4) = 0 → 1 ≤ d ∧ mx_SM mY_X4_field (d - 1) [.ref x0, .int (2 : Int32)] h (mx_KI (fun v2 h4 => hpK h4 b1 = 8 ∧ ∀ h5 : mxH, h5 = hsI h4 b1 6 v2 → hpK h5 x0 = 4 ∧ mx_SM mY_X4_pop (d - 1) [.ref x0] h5 (mx_KV (fun h6 => Q (.inl none) h6) (mx_XX mY_X4_finishPipeline Q))) (mx_XX mY_X4_finishPipeline Q))))) : mx_SM mY_X4_finishPipeline d [.ref x0] h Q := by
  refine mx_SM_of (by decide) (Nat.le_of_ble_eq_true rfl) ?_
  show mx_SX mY_X4_finishPipeline d 0 [(0, .ref x0)] [] h Q
  refine mx_aload_n (pc := 0) 0 (mx_dd dd_X4_finishPipeline 0 (0, .aload_n 0, 1) rfl) rfl rfl ?_
  obtain ⟨g1, P⟩ := P
  obtain ⟨b1, g2, P⟩ := P
  refine mx_getR (pc := 1) mx_fl_X4_51 g1 rfl g2 (mx_dd dd_X4_finishPipeline 1 (1, .getfield 51, 3) rfl) ?_
  refine mx_aload_n (pc := 4) 0 (mx_dd dd_X4_finishPipeline 2 (4, .aload_n 0, 1) rfl) rfl rfl ?_
  refine mx_getR (pc := 5) mx_fl_X4_51 g1 rfl g2 (mx_dd dd_X4_finishPipeline 3 (5, .getfield 51, 3) rfl) ?_
  obtain ⟨g3, P⟩ := P
  refine mx_getI (pc := 8) mx_fl_X4_387 g3 rfl (mx_dd dd_X4_finishPipeline 4 (8, .getfield 387, 3) rfl) ?_
  refine mx_if_eq (pc := 11) 22 (mx_dd dd_X4_finishPipeline 5 (11, .ifCond .eq 11, 3) rfl) rfl (fun c11 => ?_) (fun c11 => ?_)
  · have P := P.1 c11
    refine mx_aload_n (pc := 22) 0 (mx_dd dd_X4_finishPipeline 10 (22, .aload_n 0, 1) rfl) rfl rfl ?_
    refine mx_iconst (pc := 23) (v := (1 : Int32)) (mx_dd dd_X4_finishPipeline 11 (23, .iconst 1, 1) rfl) (by decide) ?_
    obtain ⟨g4, P⟩ := P
    refine mx_cVI (pc := 24) (Y := mY_X4_field) (As := [.int _]) mx_ml_X4_344 mx_y_X4_field rfl g1 (by decide) rfl (by simp [Value.category]) rfl (mx_dd dd_X4_finishPipeline 12 (24, .invokevirtual 344, 3) rfl) g4 (by decide) P (fun v1 h1 P => ?_)
    obtain ⟨g5, P⟩ := P
    refine mx_putI (pc := 27) mx_fl_X4_142 g5 rfl (.inl rfl) rfl rfl (mx_dd dd_X4_finishPipeline 13 (27, .putfield 142, 3) rfl) ?_
    have P := P _ rfl
    refine mx_aload_n (pc := 30) 0 (mx_dd dd_X4_finishPipeline 14 (30, .aload_n 0, 1) rfl) rfl rfl ?_
    obtain ⟨g6, P⟩ := P
    refine mx_cVV (pc := 31) (Y := mY_X4_pop) (As := []) mx_ml_X4_228 mx_y_X4_pop rfl g6 (by decide) rfl (by decide) rfl (mx_dd dd_X4_finishPipeline 15 (31, .invokevirtual 228, 3) rfl) g4 (by decide) P (fun h3 P => ?_)
    exact mx_return (pc := 34) (mx_dd dd_X4_finishPipeline 16 (34, .return_, 1) rfl) rfl P
  · have P := P.2 c11
    refine mx_aload_n (pc := 14) 0 (mx_dd dd_X4_finishPipeline 6 (14, .aload_n 0, 1) rfl) rfl rfl ?_
    refine mx_iconst (pc := 15) (v := (2 : Int32)) (mx_dd dd_X4_finishPipeline 7 (15, .iconst 2, 1) rfl) (by decide) ?_
    obtain ⟨g7, P⟩ := P
    refine mx_cVI (pc := 16) (Y := mY_X4_field) (As := [.int _]) mx_ml_X4_344 mx_y_X4_field rfl g1 (by decide) rfl (by simp [Value.category]) rfl (mx_dd dd_X4_finishPipeline 8 (16, .invokevirtual 344, 3) rfl) g7 (by decide) P (fun v2 h4 P => ?_)
    refine mx_goto (pc := 19) 27 (mx_dd dd_X4_finishPipeline 9 (19, .goto 8, 3) rfl) rfl ?_
    obtain ⟨g8, P⟩ := P
    refine mx_putI (pc := 27) mx_fl_X4_142 g8 rfl (.inl rfl) rfl rfl (mx_dd dd_X4_finishPipeline 13 (27, .putfield 142, 3) rfl) ?_
    have P := P _ rfl
    refine mx_aload_n (pc := 30) 0 (mx_dd dd_X4_finishPipeline 14 (30, .aload_n 0, 1) rfl) rfl rfl ?_
    obtain ⟨g9, P⟩ := P
    refine mx_cVV (pc := 31) (Y := mY_X4_pop) (As := []) mx_ml_X4_228 mx_y_X4_pop rfl g9 (by decide) rfl (by decide) rfl (mx_dd dd_X4_finishPipeline 15 (31, .invokevirtual 228, 3) rfl) g7 (by decide) P (fun h6 P => ?_)
    exact mx_return (pc := 34) (mx_dd dd_X4_finishPipeline 16 (34, .return_, 1) rfl) rfl P
theorem b_X4_makeJob {d : Nat} {h : mxH} {Q : mxRes → mxH → Prop} (x0 : Nat) (x1 : Int32)
    (P : hpK h x0 = 4 ∧ ∃ b1 : Nat, hpR h x0 10 = some b1 ∧ hpK h b1 = 8 ∧ (((hpI h b1 14) < (8 : Int32) → 1 ≤ d ∧ mx_SM mY_X4_fork (d - 1) [.ref x0] h (mx_KR (fun v1 h1 => hpK h1 x0 = 4 ∧ ∃ b2 : Nat, v1 = some b2 ∧ hpK h1 b1 = 8 ∧ mx_SM mY_X8_addJob (d - 1) [.ref b1, .ref b2, .int (hpI h1 x0 11)] h1 (mx_KI (fun v2 h2 => ((v2 = 0 → hpK h2 x0 = 4 ∧ ∀ h3 : mxH, h3 = hsI h2 x0 11 x1 → Q (.inl none) h3) ∧ (¬ v2 = 0 → hpK h2 x0 = 4 ∧ ∃ b3 : Nat, hpR h2 x0 10 = some b3 ∧ hpK h2 b3 = 8 ∧ ∀ h4 : mxH, h4 = hsI h2 b3 6 (0 : Int32) → ∀ h5 : mxH, h5 = hsI h4 x0 11 x1 → Q (.inl none) h5))) (mx_XX mY_X4_makeJob Q))) (mx_XX mY_X4_makeJob Q))) ∧ (¬ (hpI h b1 14) < (8 : Int32) → ∀ h6 : mxH, h6 = hsI h b1 6 (1 : Int32) → ∀ h7 : mxH, h7 = hsI h6 x0 11 x1 → Q (.inl none) h7))) : mx_SM mY_X4_makeJob d [.ref x0, .int x1] h Q := by
  refine mx_SM_of (by decide) (Nat.le_of_ble_eq_true rfl) ?_
  show mx_SX mY_X4_makeJob d 0 [(0, .ref x0), (1, .int x1)] [] h Q
  refine mx_aload_n (pc := 0) 0 (mx_dd dd_X4_makeJob 0 (0, .aload_n 0, 1) rfl) rfl rfl ?_
  obtain ⟨g1, P⟩ := P
  obtain ⟨b1, g2, P⟩ := P
  refine mx_getR (pc := 1) mx_fl_X4_51 g1 rfl g2 (mx_dd dd_X4_makeJob 1 (1, .getfield 51, 3) rfl) ?_
  obtain ⟨g3, P⟩ := P
  refine mx_getI (pc := 4) mx_fl_X4_390 g3 rfl (mx_dd dd_X4_makeJob 2 (4, .getfield 390, 3) rfl) ?_
  refine mx_bipush (pc := 7) (v := (8 : Int32)) (mx_dd dd_X4_makeJob 3 (7, .bipush 8, 2) rfl) (by decide) ?_
  refine mx_icmp_lt (pc := 9) 23 (mx_dd dd_X4_makeJob 4 (9, .if_icmp .lt 14, 3) rfl) rfl (fun c9 => ?_) (fun c9 => ?_)
  · have P := P.1 c9
    refine mx_aload_n (pc := 23) 0 (mx_dd dd_X4_makeJob 10 (23, .aload_n 0, 1) rfl) rfl rfl ?_
    refine mx_getR (pc := 24) mx_fl_X4_51 g1 rfl g2 (mx_dd dd_X4_makeJob 11 (24, .getfield 51, 3) rfl) ?_
    refine mx_aload_n (pc := 27) 0 (mx_dd dd_X4_makeJob 12 (27, .aload_n 0, 1) rfl) rfl rfl ?_
    obtain ⟨g4, P⟩ := P
    refine mx_cVR (pc := 28) (Y := mY_X4_fork) (As := []) mx_ml_X4_165 mx_y_X4_fork rfl g1 (by decide) rfl (by simp [Value.category]) rfl (mx_dd dd_X4_makeJob 13 (28, .invokevirtual 165, 3) rfl) g4 (by decide) P (fun v1 h1 P => ?_)
    refine mx_aload_n (pc := 31) 0 (mx_dd dd_X4_makeJob 14 (31, .aload_n 0, 1) rfl) rfl rfl ?_
    obtain ⟨g5, P⟩ := P
    refine mx_getI (pc := 32) mx_fl_X4_85 g5 rfl (mx_dd dd_X4_makeJob 15 (32, .getfield 85, 3) rfl) ?_
    obtain ⟨b2, g6, P⟩ := P
    refine mx_deref1 g6 ?_
    obtain ⟨g7, P⟩ := P
    refine mx_cVI (pc := 35) (Y := mY_X8_addJob) (As := [.ref _, .int _]) mx_ml_X4_393 mx_y_X8_addJob rfl g7 (by decide) rfl (by decide) rfl (mx_dd dd_X4_makeJob 16 (35, .invokevirtual 393, 3) rfl) g4 (by decide) P (fun v2 h2 P => ?_)
    refine mx_if_eq (pc := 38) 49 (mx_dd dd_X4_makeJob 17 (38, .ifCond .eq 11, 3) rfl) rfl (fun c38 => ?_) (fun c38 => ?_)
    · have P := P.1 c38
      refine mx_aload_n (pc := 49) 0 (mx_dd dd_X4_makeJob 22 (49, .aload_n 0, 1) rfl) rfl rfl ?_
      refine mx_iload_n (pc := 50) 1 (mx_dd dd_X4_makeJob 23 (50, .iload_n 1, 1) rfl) rfl rfl ?_
      obtain ⟨g8, P⟩ := P
      refine mx_putI (pc := 51) mx_fl_X4_85 g8 rfl (.inl rfl) rfl rfl (mx_dd dd_X4_makeJob 24 (51, .putfield 85, 3) rfl) ?_
      have P := P _ rfl
      exact mx_return (pc := 54) (mx_dd dd_X4_makeJob 25 (54, .return_, 1) rfl) rfl P
    · have P := P.2 c38
      refine mx_aload_n (pc := 41) 0 (mx_dd dd_X4_makeJob 18 (41, .aload_n 0, 1) rfl) rfl rfl ?_
      obtain ⟨g9, P⟩ := P
      obtain ⟨b3, g10, P⟩ := P
      refine mx_getR (pc := 42) mx_fl_X4_51 g9 rfl g10 (mx_dd dd_X4_makeJob 19 (42, .getfield 51, 3) rfl) ?_
      refine mx_iconst (pc := 45) (v := (0 : Int32)) (mx_dd dd_X4_makeJob 20 (45, .iconst 0, 1) rfl) (by decide) ?_
      obtain ⟨g11, P⟩ := P
      refine mx_putI (pc := 46) mx_fl_X4_142 g11 rfl (.inl rfl) rfl rfl (mx_dd dd_X4_makeJob 21 (46, .putfield 142, 3) rfl) ?_
      have P := P _ rfl
      refine mx_aload_n (pc := 49) 0 (mx_dd dd_X4_makeJob 22 (49, .aload_n 0, 1) rfl) rfl rfl ?_
      refine mx_iload_n (pc := 50) 1 (mx_dd dd_X4_makeJob 23 (50, .iload_n 1, 1) rfl) rfl rfl ?_
      refine mx_putI (pc := 51) mx_fl_X4_85 g9 rfl (.inl rfl) rfl rfl (mx_dd dd_X4_makeJob 24 (51, .putfield 85, 3) rfl) ?_
      have P := P _ rfl
      exact mx_return (pc := 54) (mx_dd dd_X4_makeJob 25 (54, .return_, 1) rfl) rfl P
  · have P := P.2 c9
    refine mx_aload_n (pc := 12) 0 (mx_dd dd_X4_makeJob 5 (12, .aload_n 0, 1) rfl) rfl rfl ?_
    refine mx_getR (pc := 13) mx_fl_X4_51 g1 rfl g2 (mx_dd dd_X4_makeJob 6 (13, .getfield 51, 3) rfl) ?_
    refine mx_iconst (pc := 16) (v := (1 : Int32)) (mx_dd dd_X4_makeJob 7 (16, .iconst 1, 1) rfl) (by decide) ?_
    refine mx_putI (pc := 17) mx_fl_X4_142 g3 rfl (.inl rfl) rfl rfl (mx_dd dd_X4_makeJob 8 (17, .putfield 142, 3) rfl) ?_
    have P := P _ rfl
    refine mx_goto (pc := 20) 49 (mx_dd dd_X4_makeJob 9 (20, .goto 29, 3) rfl) rfl ?_
    refine mx_aload_n (pc := 49) 0 (mx_dd dd_X4_makeJob 22 (49, .aload_n 0, 1) rfl) rfl rfl ?_
    refine mx_iload_n (pc := 50) 1 (mx_dd dd_X4_makeJob 23 (50, .iload_n 1, 1) rfl) rfl rfl ?_
    refine mx_putI (pc := 51) mx_fl_X4_85 g1 rfl (.inl rfl) rfl rfl (mx_dd dd_X4_makeJob 24 (51, .putfield 85, 3) rfl) ?_
    have P := P _ rfl
    exact mx_return (pc := 54) (mx_dd dd_X4_makeJob 25 (54, .return_, 1) rfl) rfl P
theorem b_X4_runJob {d : Nat} {h : mxH} {Q : mxRes → mxH → Prop} (x0 : Nat) (x1 : Int32) (x2 : Int32) (x3 : Int32)
    (P : hpK h x0 = 4 ∧ ∃ b1 : Nat, hpR h x0 10 = some b1 ∧ 1 ≤ d ∧ hpK h b1 = 8 ∧ mx_SM mY_X8_startOfJob (d - 1) [.ref b1, .int x1] h (mx_KI (fun v1 h1 => hpK h1 x0 = 4 ∧ ∃ b2 : Nat, hpR h1 x0 10 = some b2 ∧ hpK h1 b2 = 8 ∧ mx_SM mY_X8_takeJob (d - 1) [.ref b2, .int x1] h1 (mx_KR (fun v2 h2 => ((v2 = none → Q (.inl (some (.int (0 : Int32)))) h2) ∧ (∀ b3 : Nat, v2 = some b3 → hpK h2 b3 = 8 ∧ (x3 = 0 ∨ x3 = 1) ∧ ∀ h3 : mxH, h3 = hsI h2 b3 5 x3 → hpK h3 x0 = 4 ∧ mx_SM mY_X4_enter (d - 1) [.ref x0, .ref b3, .int x2, .int (hpI h3 x0 11), .int x1] h3 (mx_KV (fun h4 => hpK h4 x0 = 4 ∧ ∀ h5 : mxH, h5 = hsI h4 x0 11 v1 → Q (.inl (some (.int (1 : Int32)))) h5) (mx_XX mY_X4_runJob Q))))) (mx_XX mY_X4_runJob Q))) (mx_XX mY_X4_runJob Q))) : mx_SM mY_X4_runJob d [.ref x0, .int x1, .int x2, .int x3] h Q := by
  refine mx_SM_of (by decide) (Nat.le_of_ble_eq_true rfl) ?_
  show mx_SX mY_X4_runJob d 0 [(0, .ref x0), (1, .int x1), (2, .int x2), (3, .int x3)] [] h Q
  refine mx_aload_n (pc := 0) 0 (mx_dd dd_X4_runJob 0 (0, .aload_n 0, 1) rfl) rfl rfl ?_
  obtain ⟨g1, P⟩ := P
  obtain ⟨b1, g2, P⟩ := P
  refine mx_getR (pc := 1) mx_fl_X4_51 g1 rfl g2 (mx_dd dd_X4_runJob 1 (1, .getfield 51, 3) rfl) ?_
  refine mx_iload_n (pc := 4) 1 (mx_dd dd_X4_runJob 2 (4, .iload_n 1, 1) rfl) rfl rfl ?_
  obtain ⟨g3, P⟩ := P
  obtain ⟨g4, P⟩ := P
  refine mx_cVI (pc := 5) (Y := mY_X8_startOfJob) (As := [.int _]) mx_ml_X4_397 mx_y_X8_startOfJob rfl g4 (by decide) rfl (by decide) rfl (mx_dd dd_X4_runJob 3 (5, .invokevirtual 397, 3) rfl) g3 (by decide) P (fun v1 h1 P => ?_)
  refine mx_istore (pc := 8) (mx_dd dd_X4_runJob 4 (8, .istore 4, 2) rfl) (by decide) (lv' := [(4, _), (0, _), (1, _), (2, _), (3, _)]) rfl ?_
  refine mx_aload_n (pc := 10) 1 (mx_dd dd_X4_runJob 5 (10, .aload_n 0, 1) rfl) rfl rfl ?_
  obtain ⟨g5, P⟩ := P
  obtain ⟨b2, g6, P⟩ := P
  refine mx_getR (pc := 11) mx_fl_X4_51 g5 rfl g6 (mx_dd dd_X4_runJob 6 (11, .getfield 51, 3) rfl) ?_
  refine mx_iload_n (pc := 14) 2 (mx_dd dd_X4_runJob 7 (14, .iload_n 1, 1) rfl) rfl rfl ?_
  obtain ⟨g7, P⟩ := P
  refine mx_cVR (pc := 15) (Y := mY_X8_takeJob) (As := [.int _]) mx_ml_X4_380 mx_y_X8_takeJob rfl g7 (by decide) rfl (by decide) rfl (mx_dd dd_X4_runJob 8 (15, .invokevirtual 380, 3) rfl) g3 (by decide) P (fun v2 h2 P => ?_)
  refine mx_astoreO (pc := 18) (mx_dd dd_X4_runJob 9 (18, .astore 5, 2) rfl) (by decide) (lv' := [(5, _), (4, _), (0, _), (1, _), (2, _), (3, _)]) rfl ?_
  refine mx_aloadO (pc := 20) 0 (mx_dd dd_X4_runJob 10 (20, .aload 5, 2) rfl) rfl ?_
  refine mx_ifnonnullO (pc := 22) 27 (mx_dd dd_X4_runJob 11 (22, .ifnonnull 5, 3) rfl) rfl (fun b3 g8 => ?_) (fun c22 => ?_)
  · have P := P.2 b3 g8
    refine mx_aloadO (pc := 27) 0 (mx_dd dd_X4_runJob 14 (27, .aload 5, 2) rfl) rfl ?_
    refine mx_iload_n (pc := 29) 5 (mx_dd dd_X4_runJob 15 (29, .iload_n 3, 1) rfl) rfl rfl ?_
    refine mx_deref1 g8 ?_
    obtain ⟨g9, P⟩ := P
    obtain ⟨g10, P⟩ := P
    refine mx_putI (pc := 30) mx_fl_X4_309 g9 rfl (.inl rfl) (mx_nb g10).1 (mx_nb g10).2 (mx_dd dd_X4_runJob 16 (30, .putfield 309, 3) rfl) ?_
    have P := P _ rfl
    refine mx_aload_n (pc := 33) 2 (mx_dd dd_X4_runJob 17 (33, .aload_n 0, 1) rfl) rfl rfl ?_
    refine mx_aloadO (pc := 34) 0 (mx_dd dd_X4_runJob 18 (34, .aload 5, 2) rfl) rfl ?_
    refine mx_iload_n (pc := 36) 4 (mx_dd dd_X4_runJob 19 (36, .iload_n 2, 1) rfl) rfl rfl ?_
    refine mx_aload_n (pc := 37) 2 (mx_dd dd_X4_runJob 20 (37, .aload_n 0, 1) rfl) rfl rfl ?_
    obtain ⟨g11, P⟩ := P
    refine mx_getI (pc := 38) mx_fl_X4_85 g11 rfl (mx_dd dd_X4_runJob 21 (38, .getfield 85, 3) rfl) ?_
    refine mx_iload_n (pc := 41) 3 (mx_dd dd_X4_runJob 22 (41, .iload_n 1, 1) rfl) rfl rfl ?_
    refine mx_deref3 g8 ?_
    refine mx_cVV (pc := 42) (Y := mY_X4_enter) (As := [.ref _, .int _, .int _, .int _]) mx_ml_X4_169 mx_y_X4_enter rfl g11 (by decide) rfl (by decide) rfl (mx_dd dd_X4_runJob 23 (42, .invokevirtual 169, 3) rfl) g3 (by decide) P (fun h4 P => ?_)
    refine mx_aload_n (pc := 45) 2 (mx_dd dd_X4_runJob 24 (45, .aload_n 0, 1) rfl) rfl rfl ?_
    refine mx_iload (pc := 46) 1 (mx_dd dd_X4_runJob 25 (46, .iload 4, 2) rfl) rfl ?_
    obtain ⟨g12, P⟩ := P
    refine mx_putI (pc := 48) mx_fl_X4_85 g12 rfl (.inl rfl) rfl rfl (mx_dd dd_X4_runJob 26 (48, .putfield 85, 3) rfl) ?_
    have P := P _ rfl
    refine mx_iconst (pc := 51) (v := (1 : Int32)) (mx_dd dd_X4_runJob 27 (51, .iconst 1, 1) rfl) (by decide) ?_
    exact mx_ireturn (pc := 52) (mx_dd dd_X4_runJob 28 (52, .ireturn, 1) rfl) rfl rfl P
  · have P := P.1 c22
    refine mx_iconst (pc := 25) (v := (0 : Int32)) (mx_dd dd_X4_runJob 12 (25, .iconst 0, 1) rfl) (by decide) ?_
    exact mx_ireturn (pc := 26) (mx_dd dd_X4_runJob 13 (26, .ireturn, 1) rfl) rfl rfl P
theorem b_X4_waitForAll {d : Nat} {h : mxH} {Q : mxRes → mxH → Prop} (x0 : Nat)
    (P : hpK h x0 = 4 ∧ ∀ h1 : mxH, h1 = hsI h x0 11 ((hpI h x0 11) - (1 : Int32)) → ∃ b1 : Nat, hpR h1 x0 10 = some b1 ∧ 1 ≤ d ∧ hpK h1 b1 = 8 ∧ mx_SM mY_X8_firstWaiting (d - 1) [.ref b1] h1 (mx_KI (fun v1 h2 => hpK h2 x0 = 4 ∧ mx_SM mY_X4_runJob (d - 1) [.ref x0, .int v1, .int (3 : Int32), .int (1 : Int32)] h2 (mx_KI (fun v2 h3 => ((¬ v2 = 0 → Q (.inl none) h3) ∧ (v2 = 0 → hpK h3 x0 = 4 ∧ ∀ h4 : mxH, h4 = hsI h3 x0 11 (hpI h x0 11) → ∃ b2 : Nat, hpR h4 x0 10 = some b2 ∧ hpK h4 b2 = 8 ∧ ∀ h5 : mxH, h5 = hsI h4 b2 6 (0 : Int32) → Q (.inl none) h5))) (mx_XX mY_X4_waitForAll Q))) (mx_XX mY_X4_waitForAll Q))) : mx_SM mY_X4_waitForAll d [.ref x0] h Q := by
  refine mx_SM_of (by decide) (Nat.le_of_ble_eq_true rfl) ?_
  show mx_SX mY_X4_waitForAll d 0 [(0, .ref x0)] [] h Q
  refine mx_aload_n (pc := 0) 0 (mx_dd dd_X4_waitForAll 0 (0, .aload_n 0, 1) rfl) rfl rfl ?_
  obtain ⟨g1, P⟩ := P
  refine mx_getI (pc := 1) mx_fl_X4_85 g1 rfl (mx_dd dd_X4_waitForAll 1 (1, .getfield 85, 3) rfl) ?_
  refine mx_istore_n (pc := 4) (mx_dd dd_X4_waitForAll 2 (4, .istore_n 1, 1) rfl) rfl (by decide) (lv' := [(1, _), (0, _)]) rfl ?_
  refine mx_aload_n (pc := 5) 1 (mx_dd dd_X4_waitForAll 3 (5, .aload_n 0, 1) rfl) rfl rfl ?_
  refine mx_iload_n (pc := 6) 0 (mx_dd dd_X4_waitForAll 4 (6, .iload_n 1, 1) rfl) rfl rfl ?_
  refine mx_iconst (pc := 7) (v := (1 : Int32)) (mx_dd dd_X4_waitForAll 5 (7, .iconst 1, 1) rfl) (by decide) ?_
  refine mx_isub (pc := 8) (mx_dd dd_X4_waitForAll 6 (8, .isub, 1) rfl) ?_
  refine mx_putI (pc := 9) mx_fl_X4_85 g1 rfl (.inl rfl) rfl rfl (mx_dd dd_X4_waitForAll 7 (9, .putfield 85, 3) rfl) ?_
  have P := P _ rfl
  refine mx_aload_n (pc := 12) 1 (mx_dd dd_X4_waitForAll 8 (12, .aload_n 0, 1) rfl) rfl rfl ?_
  refine mx_aload_n (pc := 13) 1 (mx_dd dd_X4_waitForAll 9 (13, .aload_n 0, 1) rfl) rfl rfl ?_
  obtain ⟨b1, g2, P⟩ := P
  refine mx_getR (pc := 14) mx_fl_X4_51 g1 rfl g2 (mx_dd dd_X4_waitForAll 10 (14, .getfield 51, 3) rfl) ?_
  obtain ⟨g3, P⟩ := P
  obtain ⟨g4, P⟩ := P
  refine mx_cVI (pc := 17) (Y := mY_X8_firstWaiting) (As := []) mx_ml_X4_400 mx_y_X8_firstWaiting rfl g4 (by decide) rfl (by simp [Value.category]) rfl (mx_dd dd_X4_waitForAll 11 (17, .invokevirtual 400, 3) rfl) g3 (by decide) P (fun v1 h2 P => ?_)
  refine mx_iconst (pc := 20) (v := (3 : Int32)) (mx_dd dd_X4_waitForAll 12 (20, .iconst 3, 1) rfl) (by decide) ?_
  refine mx_iconst (pc := 21) (v := (1 : Int32)) (mx_dd dd_X4_waitForAll 13 (21, .iconst 1, 1) rfl) (by decide) ?_
  obtain ⟨g5, P⟩ := P
  refine mx_cVI (pc := 22) (Y := mY_X4_runJob) (As := [.int _, .int _, .int _]) mx_ml_X4_403 mx_y_X4_runJob rfl g5 (by decide) rfl (by decide) rfl (mx_dd dd_X4_waitForAll 14 (22, .invokevirtual 403, 3) rfl) g3 (by decide) P (fun v2 h3 P => ?_)
  refine mx_if_ne (pc := 25) 41 (mx_dd dd_X4_waitForAll 15 (25, .ifCond .ne 16, 3) rfl) rfl (fun c25 => ?_) (fun c25 => ?_)
  · have P := P.1 c25
    exact mx_return (pc := 41) (mx_dd dd_X4_waitForAll 23 (41, .return_, 1) rfl) rfl P
  · have P := P.2 c25
    refine mx_aload_n (pc := 28) 1 (mx_dd dd_X4_waitForAll 16 (28, .aload_n 0, 1) rfl) rfl rfl ?_
    refine mx_iload_n (pc := 29) 0 (mx_dd dd_X4_waitForAll 17 (29, .iload_n 1, 1) rfl) rfl rfl ?_
    obtain ⟨g6, P⟩ := P
    refine mx_putI (pc := 30) mx_fl_X4_85 g6 rfl (.inl rfl) rfl rfl (mx_dd dd_X4_waitForAll 18 (30, .putfield 85, 3) rfl) ?_
    have P := P _ rfl
    refine mx_aload_n (pc := 33) 1 (mx_dd dd_X4_waitForAll 19 (33, .aload_n 0, 1) rfl) rfl rfl ?_
    obtain ⟨b2, g7, P⟩ := P
    refine mx_getR (pc := 34) mx_fl_X4_51 g6 rfl g7 (mx_dd dd_X4_waitForAll 20 (34, .getfield 51, 3) rfl) ?_
    refine mx_iconst (pc := 37) (v := (0 : Int32)) (mx_dd dd_X4_waitForAll 21 (37, .iconst 0, 1) rfl) (by decide) ?_
    obtain ⟨g8, P⟩ := P
    refine mx_putI (pc := 38) mx_fl_X4_142 g8 rfl (.inl rfl) rfl rfl (mx_dd dd_X4_waitForAll 22 (38, .putfield 142, 3) rfl) ?_
    have P := P _ rfl
    exact mx_return (pc := 41) (mx_dd dd_X4_waitForAll 23 (41, .return_, 1) rfl) rfl P
theorem b_X4_waitForOne {d : Nat} {h : mxH} {Q : mxRes → mxH → Prop} (x0 : Nat) (x1 : Int32) (x2 : Int32)
    (P : hpK h x0 = 4 ∧ ∃ b1 : Nat, hpR h x0 2 = some b1 ∧ ∃ b2 : Nat, hpR h x0 9 = some b2 ∧ ∃ b3 : Nat, hpR h x0 10 = some b3 ∧ 1 ≤ d ∧ hpK h b1 = 1 ∧ mx_SM mY_X1_numberArgument (d - 1) [.ref b1, .ref b2, .ref b3, .int x1, .int (0 : Int32)] h (mx_KI (fun v1 h1 => hpK h1 x0 = 4 ∧ ∃ b4 : Nat, hpR h1 x0 9 = some b4 ∧ hpK h1 b4 = 7 ∧ mx_SM mY_X7_argumentsOf (d - 1) [.ref b4, .int x1] h1 (mx_KI (fun v2 h2 => ((¬ v2 = (1 : Int32) → mx_SX mY_X4_waitForOne d 34 [(0, .ref x0)] [] h2 Q) ∧ (v2 = (1 : Int32) → ((0 ≤ v1 → hpK h2 x0 = 4 ∧ mx_SM mY_X4_runJob (d - 1) [.ref x0, .int (v1 - (1 : Int32)), .int (2 : Int32), .int x2] h2 (mx_KI (fun v3 h3 => ((¬ v3 = 0 → Q (.inl none) h3) ∧ (v3 = 0 → hpK h3 x0 = 4 ∧ ∃ b5 : Nat, hpR h3 x0 10 = some b5 ∧ hpK h3 b5 = 8 ∧ ∀ h4 : mxH, h4 = hsI h3 b5 6 (127 : Int32) → Q (.inl none) h4))) (mx_XX mY_X4_waitForOne Q))) ∧ (¬ 0 ≤ v1 → mx_SX mY_X4_waitForOne d 34 [(0, .ref x0)] [] h2 Q))))) (mx_XX mY_X4_waitForOne Q))) (mx_XX mY_X4_waitForOne Q))) : mx_SM mY_X4_waitForOne d [.ref x0, .int x1, .int x2] h Q := by
  refine mx_SM_of (by decide) (Nat.le_of_ble_eq_true rfl) ?_
  show mx_SX mY_X4_waitForOne d 0 [(0, .ref x0), (1, .int x1), (2, .int x2)] [] h Q
  refine mx_aload_n (pc := 0) 0 (mx_dd dd_X4_waitForOne 0 (0, .aload_n 0, 1) rfl) rfl rfl ?_
  obtain ⟨g1, P⟩ := P
  obtain ⟨b1, g2, P⟩ := P
  refine mx_getR (pc := 1) mx_fl_X4_24 g1 rfl g2 (mx_dd dd_X4_waitForOne 1 (1, .getfield 24, 3) rfl) ?_
  refine mx_aload_n (pc := 4) 0 (mx_dd dd_X4_waitForOne 2 (4, .aload_n 0, 1) rfl) rfl rfl ?_
  obtain ⟨b2, g3, P⟩ := P
  refine mx_getR (pc := 5) mx_fl_X4_54 g1 rfl g3 (mx_dd dd_X4_waitForOne 3 (5, .getfield 54, 3) rfl) ?_
  refine mx_aload_n (pc := 8) 0 (mx_dd dd_X4_waitForOne 4 (8, .aload_n 0, 1) rfl) rfl rfl ?_
  obtain ⟨b3, g4, P⟩ := P
  refine mx_getR (pc := 9) mx_fl_X4_51 g1 rfl g4 (mx_dd dd_X4_waitForOne 5 (9, .getfield 51, 3) rfl) ?_
  refine mx_iload_n (pc := 12) 1 (mx_dd dd_X4_waitForOne 6 (12, .iload_n 1, 1) rfl) rfl rfl ?_
  refine mx_iconst (pc := 13) (v := (0 : Int32)) (mx_dd dd_X4_waitForOne 7 (13, .iconst 0, 1) rfl) (by decide) ?_
  obtain ⟨g5, P⟩ := P
  obtain ⟨g6, P⟩ := P
  refine mx_cVI (pc := 14) (Y := mY_X1_numberArgument) (As := [.ref _, .ref _, .int _, .int _]) mx_ml_X4_315 mx_y_X1_numberArgument rfl g6 (by decide) rfl (by decide) rfl (mx_dd dd_X4_waitForOne 8 (14, .invokevirtual 315, 3) rfl) g5 (by decide) P (fun v1 h1 P => ?_)
  refine mx_istore_n (pc := 17) (mx_dd dd_X4_waitForOne 9 (17, .istore_n 3, 1) rfl) rfl (by decide) (lv' := [(3, _), (0, _), (1, _), (2, _)]) rfl ?_
  refine mx_aload_n (pc := 18) 1 (mx_dd dd_X4_waitForOne 10 (18, .aload_n 0, 1) rfl) rfl rfl ?_
  obtain ⟨g7, P⟩ := P
  obtain ⟨b4, g8, P⟩ := P
  refine mx_getR (pc := 19) mx_fl_X4_54 g7 rfl g8 (mx_dd dd_X4_waitForOne 11 (19, .getfield 54, 3) rfl) ?_
  refine mx_iload_n (pc := 22) 2 (mx_dd dd_X4_waitForOne 12 (22, .iload_n 1, 1) rfl) rfl rfl ?_
  obtain ⟨g9, P⟩ := P
  refine mx_cVI (pc := 23) (Y := mY_X7_argumentsOf) (As := [.int _]) mx_ml_X4_215 mx_y_X7_argumentsOf rfl g9 (by decide) rfl (by decide) rfl (mx_dd dd_X4_waitForOne 13 (23, .invokevirtual 215, 3) rfl) g5 (by decide) P (fun v2 h2 P => ?_)
  refine mx_iconst (pc := 26) (v := (1 : Int32)) (mx_dd dd_X4_waitForOne 14 (26, .iconst 1, 1) rfl) (by decide) ?_
  refine mx_icmp_ne (pc := 27) 34 (mx_dd dd_X4_waitForOne 15 (27, .if_icmp .ne 7, 3) rfl) rfl (fun c27 => ?_) (fun c27 => ?_)
  · have P := P.1 c27
    refine mx_sel [1] rfl ?_
    exact P
  · have P := P.2 c27
    refine mx_iload_n (pc := 30) 0 (mx_dd dd_X4_waitForOne 16 (30, .iload_n 3, 1) rfl) rfl rfl ?_
    refine mx_if_ge (pc := 31) 45 (mx_dd dd_X4_waitForOne 17 (31, .ifCond .ge 14, 3) rfl) rfl (fun c31 => ?_) (fun c31 => ?_)
    · have P := P.1 c31
      refine mx_aload_n (pc := 45) 1 (mx_dd dd_X4_waitForOne 23 (45, .aload_n 0, 1) rfl) rfl rfl ?_
      refine mx_iload_n (pc := 46) 0 (mx_dd dd_X4_waitForOne 24 (46, .iload_n 3, 1) rfl) rfl rfl ?_
      refine mx_iconst (pc := 47) (v := (1 : Int32)) (mx_dd dd_X4_waitForOne 25 (47, .iconst 1, 1) rfl) (by decide) ?_
      refine mx_isub (pc := 48) (mx_dd dd_X4_waitForOne 26 (48, .isub, 1) rfl) ?_
      refine mx_iconst (pc := 49) (v := (2 : Int32)) (mx_dd dd_X4_waitForOne 27 (49, .iconst 2, 1) rfl) (by decide) ?_
      refine mx_iload_n (pc := 50) 3 (mx_dd dd_X4_waitForOne 28 (50, .iload_n 2, 1) rfl) rfl rfl ?_
      obtain ⟨g10, P⟩ := P
      refine mx_cVI (pc := 51) (Y := mY_X4_runJob) (As := [.int _, .int _, .int _]) mx_ml_X4_403 mx_y_X4_runJob rfl g10 (by decide) rfl (by decide) rfl (mx_dd dd_X4_waitForOne 29 (51, .invokevirtual 403, 3) rfl) g5 (by decide) P (fun v3 h3 P => ?_)
      refine mx_if_ne (pc := 54) 66 (mx_dd dd_X4_waitForOne 30 (54, .ifCond .ne 12, 3) rfl) rfl (fun c54 => ?_) (fun c54 => ?_)
      · have P := P.1 c54
        exact mx_return (pc := 66) (mx_dd dd_X4_waitForOne 35 (66, .return_, 1) rfl) rfl P
      · have P := P.2 c54
        refine mx_aload_n (pc := 57) 1 (mx_dd dd_X4_waitForOne 31 (57, .aload_n 0, 1) rfl) rfl rfl ?_
        obtain ⟨g11, P⟩ := P
        obtain ⟨b5, g12, P⟩ := P
        refine mx_getR (pc := 58) mx_fl_X4_51 g11 rfl g12 (mx_dd dd_X4_waitForOne 32 (58, .getfield 51, 3) rfl) ?_
        refine mx_bipush (pc := 61) (v := (127 : Int32)) (mx_dd dd_X4_waitForOne 33 (61, .bipush 127, 2) rfl) (by decide) ?_
        obtain ⟨g13, P⟩ := P
        refine mx_putI (pc := 63) mx_fl_X4_142 g13 rfl (.inl rfl) rfl rfl (mx_dd dd_X4_waitForOne 34 (63, .putfield 142, 3) rfl) ?_
        have P := P _ rfl
        exact mx_return (pc := 66) (mx_dd dd_X4_waitForOne 35 (66, .return_, 1) rfl) rfl P
    · have P := P.2 c31
      refine mx_sel [1] rfl ?_
      exact P
theorem b_X4_waitForOne_34 {d : Nat} {h : mxH} {Q : mxRes → mxH → Prop} (x0 : Nat)
    (P : hpK h x0 = 4 ∧ ∃ b1 : Nat, hpR h x0 10 = some b1 ∧ hpK h b1 = 8 ∧ ∀ h1 : mxH, h1 = hsI h b1 6 (2 : Int32) → Q (.inl none) h1) : mx_SX mY_X4_waitForOne d 34 [(0, .ref x0)] [] h Q := by
  refine mx_aload_n (pc := 34) 0 (mx_dd dd_X4_waitForOne 18 (34, .aload_n 0, 1) rfl) rfl rfl ?_
  obtain ⟨g1, P⟩ := P
  obtain ⟨b1, g2, P⟩ := P
  refine mx_getR (pc := 35) mx_fl_X4_51 g1 rfl g2 (mx_dd dd_X4_waitForOne 19 (35, .getfield 51, 3) rfl) ?_
  refine mx_iconst (pc := 38) (v := (2 : Int32)) (mx_dd dd_X4_waitForOne 20 (38, .iconst 2, 1) rfl) (by decide) ?_
  obtain ⟨g3, P⟩ := P
  refine mx_putI (pc := 39) mx_fl_X4_142 g3 rfl (.inl rfl) rfl rfl (mx_dd dd_X4_waitForOne 21 (39, .putfield 142, 3) rfl) ?_
  have P := P _ rfl
  refine mx_goto (pc := 42) 66 (mx_dd dd_X4_waitForOne 22 (42, .goto 24, 3) rfl) rfl ?_
  exact mx_return (pc := 66) (mx_dd dd_X4_waitForOne 35 (66, .return_, 1) rfl) rfl P
theorem b_X4_endShell {d : Nat} {h : mxH} {Q : mxRes → mxH → Prop} (x0 : Nat)
    (P : 1 ≤ d ∧ hpK h x0 = 4 ∧ mx_SM mY_X4_unwind (d - 1) [.ref x0] h (mx_KV (fun h1 => hpK h1 x0 = 4 ∧ ∃ b1 : Nat, hpR h1 x0 10 = some b1 ∧ hpK h1 b1 = 8 ∧ ∀ h2 : mxH, h2 = hsI h1 b1 8 (hpI h1 b1 9) → ∃ b2 : Nat, hpR h2 x0 9 = some b2 ∧ hpK h2 b2 = 7 ∧ mx_SM mY_X7_end (d - 1) [.ref b2] h2 (mx_KI (fun v1 h3 => hpK h3 x0 = 4 ∧ ∀ h4 : mxH, h4 = hsI h3 x0 11 v1 → ∃ b3 : Nat, hpR h4 x0 10 = some b3 ∧ hpK h4 b3 = 8 ∧ ((¬ (hpI h4 b3 10) = 0 → mx_SX mY_X4_endShell d 55 [(0, .ref x0)] [] h4 Q) ∧ ((hpI h4 b3 10) = 0 → ∀ h5 : mxH, h5 = hsI h4 b3 10 (1 : Int32) → mx_SM mY_X4_callExitFunction (d - 1) [.ref x0] h5 (mx_KI (fun v2 h6 => ((v2 = 0 → mx_SX mY_X4_endShell d 55 [(0, .ref x0)] [] h6 Q) ∧ (¬ v2 = 0 → Q (.inl none) h6))) (mx_XX mY_X4_endShell Q))))) (mx_XX mY_X4_endShell Q))) (mx_XX mY_X4_endShell Q))) : mx_SM mY_X4_endShell d [.ref x0] h Q := by
  refine mx_SM_of (by decide) (Nat.le_of_ble_eq_true rfl) ?_
  show mx_SX mY_X4_endShell d 0 [(0, .ref x0)] [] h Q
  refine mx_aload_n (pc := 0) 0 (mx_dd dd_X4_endShell 0 (0, .aload_n 0, 1) rfl) rfl rfl ?_
  obtain ⟨g1, P⟩ := P
  obtain ⟨g2, P⟩ := P
  refine mx_cVV (pc := 1) (Y := mY_X4_unwind) (As := []) mx_ml_X4_407 mx_y_X4_unwind rfl g2 (by decide) rfl (by decide) rfl (mx_dd dd_X4_endShell 1 (1, .invokevirtual 407, 3) rfl) g1 (by decide) P (fun h1 P => ?_)
  refine mx_aload_n (pc := 4) 0 (mx_dd dd_X4_endShell 2 (4, .aload_n 0, 1) rfl) rfl rfl ?_
  obtain ⟨g3, P⟩ := P
  obtain ⟨b1, g4, P⟩ := P
  refine mx_getR (pc := 5) mx_fl_X4_51 g3 rfl g4 (mx_dd dd_X4_endShell 3 (5, .getfield 51, 3) rfl) ?_
  refine mx_aload_n (pc := 8) 0 (mx_dd dd_X4_endShell 4 (8, .aload_n 0, 1) rfl) rfl rfl ?_
  refine mx_getR (pc := 9) mx_fl_X4_51 g3 rfl g4 (mx_dd dd_X4_endShell 5 (9, .getfield 51, 3) rfl) ?_
  obtain ⟨g5, P⟩ := P
  refine mx_getI (pc := 12) mx_fl_X4_410 g5 rfl (mx_dd dd_X4_endShell 6 (12, .getfield 410, 3) rfl) ?_
  refine mx_putI (pc := 15) mx_fl_X4_335 g5 rfl (.inl rfl) rfl rfl (mx_dd dd_X4_endShell 7 (15, .putfield 335, 3) rfl) ?_
  have P := P _ rfl
  refine mx_aload_n (pc := 18) 0 (mx_dd dd_X4_endShell 8 (18, .aload_n 0, 1) rfl) rfl rfl ?_
  refine mx_aload_n (pc := 19) 0 (mx_dd dd_X4_endShell 9 (19, .aload_n 0, 1) rfl) rfl rfl ?_
  obtain ⟨b2, g6, P⟩ := P
  refine mx_getR (pc := 20) mx_fl_X4_54 g3 rfl g6 (mx_dd dd_X4_endShell 10 (20, .getfield 54, 3) rfl) ?_
  obtain ⟨g7, P⟩ := P
  refine mx_cVI (pc := 23) (Y := mY_X7_end) (As := []) mx_ml_X4_319 mx_y_X7_end rfl g7 (by decide) rfl (by simp [Value.category]) rfl (mx_dd dd_X4_endShell 11 (23, .invokevirtual 319, 3) rfl) g1 (by decide) P (fun v1 h3 P => ?_)
  obtain ⟨g8, P⟩ := P
  refine mx_putI (pc := 26) mx_fl_X4_85 g8 rfl (.inl rfl) rfl rfl (mx_dd dd_X4_endShell 12 (26, .putfield 85, 3) rfl) ?_
  have P := P _ rfl
  refine mx_aload_n (pc := 29) 0 (mx_dd dd_X4_endShell 13 (29, .aload_n 0, 1) rfl) rfl rfl ?_
  obtain ⟨b3, g9, P⟩ := P
  refine mx_getR (pc := 30) mx_fl_X4_51 g8 rfl g9 (mx_dd dd_X4_endShell 14 (30, .getfield 51, 3) rfl) ?_
  obtain ⟨g10, P⟩ := P
  refine mx_getI (pc := 33) mx_fl_X4_413 g10 rfl (mx_dd dd_X4_endShell 15 (33, .getfield 413, 3) rfl) ?_
  refine mx_if_ne (pc := 36) 55 (mx_dd dd_X4_endShell 16 (36, .ifCond .ne 19, 3) rfl) rfl (fun c36 => ?_) (fun c36 => ?_)
  · have P := P.1 c36
    exact P
  · have P := P.2 c36
    refine mx_aload_n (pc := 39) 0 (mx_dd dd_X4_endShell 17 (39, .aload_n 0, 1) rfl) rfl rfl ?_
    refine mx_getR (pc := 40) mx_fl_X4_51 g8 rfl g9 (mx_dd dd_X4_endShell 18 (40, .getfield 51, 3) rfl) ?_
    refine mx_iconst (pc := 43) (v := (1 : Int32)) (mx_dd dd_X4_endShell 19 (43, .iconst 1, 1) rfl) (by decide) ?_
    refine mx_putI (pc := 44) mx_fl_X4_413 g10 rfl (.inl rfl) rfl rfl (mx_dd dd_X4_endShell 20 (44, .putfield 413, 3) rfl) ?_
    have P := P _ rfl
    refine mx_aload_n (pc := 47) 0 (mx_dd dd_X4_endShell 21 (47, .aload_n 0, 1) rfl) rfl rfl ?_
    refine mx_cVI (pc := 48) (Y := mY_X4_callExitFunction) (As := []) mx_ml_X4_416 mx_y_X4_callExitFunction rfl g8 (by decide) rfl (by decide) rfl (mx_dd dd_X4_endShell 22 (48, .invokevirtual 416, 3) rfl) g1 (by decide) P (fun v2 h6 P => ?_)
    refine mx_if_eq (pc := 51) 55 (mx_dd dd_X4_endShell 23 (51, .ifCond .eq 4, 3) rfl) rfl (fun c51 => ?_) (fun c51 => ?_)
    · have P := P.1 c51
      exact P
    · have P := P.2 c51
      exact mx_return (pc := 54) (mx_dd dd_X4_endShell 24 (54, .return_, 1) rfl) rfl P
theorem b_X4_endShell_55 {d : Nat} {h : mxH} {Q : mxRes → mxH → Prop} (x0 : Nat)
    (P : hpK h x0 = 4 ∧ ∃ b1 : Nat, hpR h x0 10 = some b1 ∧ 1 ≤ d ∧ hpK h b1 = 8 ∧ mx_SM mY_X8_firstWaiting (d - 1) [.ref b1] h (mx_KI (fun v1 h1 => hpK h1 x0 = 4 ∧ mx_SM mY_X4_runJob (d - 1) [.ref x0, .int v1, .int (3 : Int32), .int (1 : Int32)] h1 (mx_KI (fun v2 h2 => ((¬ v2 = 0 → Q (.inl none) h2) ∧ (v2 = 0 → hpK h2 x0 = 4 ∧ mx_SM mY_X4_leave (d - 1) [.ref x0] h2 (mx_KV (fun h3 => Q (.inl none) h3) (mx_XX mY_X4_endShell Q))))) (mx_XX mY_X4_endShell Q))) (mx_XX mY_X4_endShell Q))) : mx_SX mY_X4_endShell d 55 [(0, .ref x0)] [] h Q := by
  refine mx_aload_n (pc := 55) 0 (mx_dd dd_X4_endShell 25 (55, .aload_n 0, 1) rfl) rfl rfl ?_
  refine mx_aload_n (pc := 56) 0 (mx_dd dd_X4_endShell 26 (56, .aload_n 0, 1) rfl) rfl rfl ?_
  obtain ⟨g1, P⟩ := P
  obtain ⟨b1, g2, P⟩ := P
  refine mx_getR (pc := 57) mx_fl_X4_51 g1 rfl g2 (mx_dd dd_X4_endShell 27 (57, .getfield 51, 3) rfl) ?_
  obtain ⟨g3, P⟩ := P
  obtain ⟨g4, P⟩ := P
  refine mx_cVI (pc := 60) (Y := mY_X8_firstWaiting) (As := []) mx_ml_X4_400 mx_y_X8_firstWaiting rfl g4 (by decide) rfl (by simp [Value.category]) rfl (mx_dd dd_X4_endShell 28 (60, .invokevirtual 400, 3) rfl) g3 (by decide) P (fun v1 h1 P => ?_)
  refine mx_iconst (pc := 63) (v := (3 : Int32)) (mx_dd dd_X4_endShell 29 (63, .iconst 3, 1) rfl) (by decide) ?_
  refine mx_iconst (pc := 64) (v := (1 : Int32)) (mx_dd dd_X4_endShell 30 (64, .iconst 1, 1) rfl) (by decide) ?_
  obtain ⟨g5, P⟩ := P
  refine mx_cVI (pc := 65) (Y := mY_X4_runJob) (As := [.int _, .int _, .int _]) mx_ml_X4_403 mx_y_X4_runJob rfl g5 (by decide) rfl (by decide) rfl (mx_dd dd_X4_endShell 31 (65, .invokevirtual 403, 3) rfl) g3 (by decide) P (fun v2 h2 P => ?_)
  refine mx_if_ne (pc := 68) 75 (mx_dd dd_X4_endShell 32 (68, .ifCond .ne 7, 3) rfl) rfl (fun c68 => ?_) (fun c68 => ?_)
  · have P := P.1 c68
    exact mx_return (pc := 75) (mx_dd dd_X4_endShell 35 (75, .return_, 1) rfl) rfl P
  · have P := P.2 c68
    refine mx_aload_n (pc := 71) 0 (mx_dd dd_X4_endShell 33 (71, .aload_n 0, 1) rfl) rfl rfl ?_
    obtain ⟨g6, P⟩ := P
    refine mx_cVV (pc := 72) (Y := mY_X4_leave) (As := []) mx_ml_X4_420 mx_y_X4_leave rfl g6 (by decide) rfl (by decide) rfl (mx_dd dd_X4_endShell 34 (72, .invokevirtual 420, 3) rfl) g3 (by decide) P (fun h3 P => ?_)
    exact mx_return (pc := 75) (mx_dd dd_X4_endShell 35 (75, .return_, 1) rfl) rfl P
theorem b_X4_unwind {d : Nat} {h : mxH} {Q : mxRes → mxH → Prop} (x0 : Nat)
    (P : mx_SX mY_X4_unwind d 2 [(0, .ref x0), (1, .int (0 : Int32))] [] h Q) : mx_SM mY_X4_unwind d [.ref x0] h Q := by
  refine mx_SM_of (by decide) (Nat.le_of_ble_eq_true rfl) ?_
  show mx_SX mY_X4_unwind d 0 [(0, .ref x0)] [] h Q
  refine mx_iconst (pc := 0) (v := (0 : Int32)) (mx_dd dd_X4_unwind 0 (0, .iconst 0, 1) rfl) (by decide) ?_
  refine mx_istore_n (pc := 1) (mx_dd dd_X4_unwind 1 (1, .istore_n 1, 1) rfl) rfl (by decide) (lv' := [(1, _), (0, _)]) rfl ?_
  refine mx_sel [1, 0] rfl ?_
  exact P
theorem b_X4_unwind_2 {d : Nat} {h : mxH} {Q : mxRes → mxH → Prop} (x0 : Nat) (x1 : Int32)
    (P : (((3000 : Int32) ≤ x1 → Q (.inl none) h) ∧ (¬ (3000 : Int32) ≤ x1 → hpK h x0 = 4 ∧ ∃ b1 : Nat, hpR h x0 10 = some b1 ∧ hpK h b1 = 8 ∧ (((hpI h x0 4) ≤ (hpI h b1 12) → Q (.inl none) h) ∧ (¬ (hpI h x0 4) ≤ (hpI h b1 12) → (((hpI h x0 4) ≤ 0 → Q (.inl none) h) ∧ (¬ (hpI h x0 4) ≤ 0 → 1 ≤ d ∧ mx_SM mY_X4_field (d - 1) [.ref x0, .int (0 : Int32)] h (mx_KI (fun v1 h1 => ((¬ v1 = (1 : Int32) → hpK h1 x0 = 4 ∧ mx_SM mY_X4_pop (d - 1) [.ref x0] h1 (mx_KV (fun h2 => mx_SX mY_X4_unwind d 51 [(0, .ref x0), (1, .int x1)] [] h2 Q) (mx_XX mY_X4_unwind Q))) ∧ (v1 = (1 : Int32) → hpK h1 x0 = 4 ∧ mx_SM mY_X4_setBackHandles (d - 1) [.ref x0, .int (1 : Int32)] h1 (mx_KV (fun h3 => mx_SX mY_X4_unwind d 51 [(0, .ref x0), (1, .int x1)] [] h3 Q) (mx_XX mY_X4_unwind Q))))) (mx_XX mY_X4_unwind Q))))))))) : mx_SX mY_X4_unwind d 2 [(0, .ref x0), (1, .int x1)] [] h Q := by
  refine mx_iload_n (pc := 2) 1 (mx_dd dd_X4_unwind 2 (2, .iload_n 1, 1) rfl) rfl rfl ?_
  refine mx_sipush (pc := 3) (v := (3000 : Int32)) (mx_dd dd_X4_unwind 3 (3, .sipush 3000, 3) rfl) (by decide) ?_
  refine mx_icmp_ge (pc := 6) 57 (mx_dd dd_X4_unwind 4 (6, .if_icmp .ge 51, 3) rfl) rfl (fun c6 => ?_) (fun c6 => ?_)
  · have P := P.1 c6
    exact mx_return (pc := 57) (mx_dd dd_X4_unwind 27 (57, .return_, 1) rfl) rfl P
  · have P := P.2 c6
    refine mx_aload_n (pc := 9) 0 (mx_dd dd_X4_unwind 5 (9, .aload_n 0, 1) rfl) rfl rfl ?_
    obtain ⟨g1, P⟩ := P
    refine mx_getI (pc := 10) mx_fl_X4_78 g1 rfl (mx_dd dd_X4_unwind 6 (10, .getfield 78, 3) rfl) ?_
    refine mx_aload_n (pc := 13) 0 (mx_dd dd_X4_unwind 7 (13, .aload_n 0, 1) rfl) rfl rfl ?_
    obtain ⟨b1, g2, P⟩ := P
    refine mx_getR (pc := 14) mx_fl_X4_51 g1 rfl g2 (mx_dd dd_X4_unwind 8 (14, .getfield 51, 3) rfl) ?_
    obtain ⟨g3, P⟩ := P
    refine mx_getI (pc := 17) mx_fl_X4_377 g3 rfl (mx_dd dd_X4_unwind 9 (17, .getfield 377, 3) rfl) ?_
    refine mx_icmp_le (pc := 20) 57 (mx_dd dd_X4_unwind 10 (20, .if_icmp .le 37, 3) rfl) rfl (fun c20 => ?_) (fun c20 => ?_)
    · have P := P.1 c20
      exact mx_return (pc := 57) (mx_dd dd_X4_unwind 27 (57, .return_, 1) rfl) rfl P
    · have P := P.2 c20
      refine mx_aload_n (pc := 23) 0 (mx_dd dd_X4_unwind 11 (23, .aload_n 0, 1) rfl) rfl rfl ?_
      refine mx_getI (pc := 24) mx_fl_X4_78 g1 rfl (mx_dd dd_X4_unwind 12 (24, .getfield 78, 3) rfl) ?_
      refine mx_if_le (pc := 27) 57 (mx_dd dd_X4_unwind 13 (27, .ifCond .le 30, 3) rfl) rfl (fun c27 => ?_) (fun c27 => ?_)
      · have P := P.1 c27
        exact mx_return (pc := 57) (mx_dd dd_X4_unwind 27 (57, .return_, 1) rfl) rfl P
      · have P := P.2 c27
        refine mx_aload_n (pc := 30) 0 (mx_dd dd_X4_unwind 14 (30, .aload_n 0, 1) rfl) rfl rfl ?_
        refine mx_iconst (pc := 31) (v := (0 : Int32)) (mx_dd dd_X4_unwind 15 (31, .iconst 0, 1) rfl) (by decide) ?_
        obtain ⟨g4, P⟩ := P
        refine mx_cVI (pc := 32) (Y := mY_X4_field) (As := [.int _]) mx_ml_X4_344 mx_y_X4_field rfl g1 (by decide) rfl (by decide) rfl (mx_dd dd_X4_unwind 16 (32, .invokevirtual 344, 3) rfl) g4 (by decide) P (fun v1 h1 P => ?_)
        refine mx_iconst (pc := 35) (v := (1 : Int32)) (mx_dd dd_X4_unwind 17 (35, .iconst 1, 1) rfl) (by decide) ?_
        refine mx_icmp_ne (pc := 36) 47 (mx_dd dd_X4_unwind 18 (36, .if_icmp .ne 11, 3) rfl) rfl (fun c36 => ?_) (fun c36 => ?_)
        · have P := P.1 c36
          refine mx_aload_n (pc := 47) 0 (mx_dd dd_X4_unwind 23 (47, .aload_n 0, 1) rfl) rfl rfl ?_
          obtain ⟨g5, P⟩ := P
          refine mx_cVV (pc := 48) (Y := mY_X4_pop) (As := []) mx_ml_X4_228 mx_y_X4_pop rfl g5 (by decide) rfl (by decide) rfl (mx_dd dd_X4_unwind 24 (48, .invokevirtual 228, 3) rfl) g4 (by decide) P (fun h2 P => ?_)
          exact P
        · have P := P.2 c36
          refine mx_aload_n (pc := 39) 0 (mx_dd dd_X4_unwind 19 (39, .aload_n 0, 1) rfl) rfl rfl ?_
          refine mx_iconst (pc := 40) (v := (1 : Int32)) (mx_dd dd_X4_unwind 20 (40, .iconst 1, 1) rfl) (by decide) ?_
          obtain ⟨g6, P⟩ := P
          refine mx_cVV (pc := 41) (Y := mY_X4_setBackHandles) (As := [.int _]) mx_ml_X4_205 mx_y_X4_setBackHandles rfl g6 (by decide) rfl (by decide) rfl (mx_dd dd_X4_unwind 21 (41, .invokevirtual 205, 3) rfl) g4 (by decide) P (fun h3 P => ?_)
          refine mx_goto (pc := 44) 51 (mx_dd dd_X4_unwind 22 (44, .goto 7, 3) rfl) rfl ?_
          exact P
theorem b_X4_unwind_51 {d : Nat} {h : mxH} {Q : mxRes → mxH → Prop} (x0 : Nat) (x1 : Int32)
    (P : mx_SX mY_X4_unwind d 2 [(0, .ref x0), (1, .int (x1 + (1 : Int32)))] [] h Q) : mx_SX mY_X4_unwind d 51 [(0, .ref x0), (1, .int x1)] [] h Q := by
  refine mx_iinc (pc := 51) 1 (mx_dd dd_X4_unwind 25 (51, .iinc 1 1, 3) rfl) rfl (mx_kadd (by decide : Int32.ofInt 1 = (1 : Int32))) (by decide) (lv' := [(1, _), (0, _)]) rfl ?_
  refine mx_goto (pc := 54) 2 (mx_dd dd_X4_unwind 26 (54, .goto (-52), 3) rfl) rfl ?_
  refine mx_sel [1, 0] rfl ?_
  exact P
theorem b_X4_callExitFunction {d : Nat} {h : mxH} {Q : mxRes → mxH → Prop} (x0 : Nat)
    (P : hpK h x0 = 4 ∧ ∃ b1 : Nat, hpR h x0 10 = some b1 ∧ hpK h b1 = 8 ∧ ∃ b2 : Nat, hpR h b1 2 = some b2 ∧ hpK h b2 = 15 ∧ vp_in (3 : Int32) (hpZ h b2) ∧ (((lg_cmp (hpL h b2 (3 : Int32).toNatClampNeg) (0 : Int64)) = 0 → Q (.inl (some (.int (0 : Int32)))) h) ∧ (¬ (lg_cmp (hpL h b2 (3 : Int32).toNatClampNeg) (0 : Int64)) = 0 → ((¬ (lg_cmp (hpL h b2 (3 : Int32).toNatClampNeg) (-2 : Int64)) = 0 → ∀ h1 : mxH, h1 = hsL h b2 (3 : Int32).toNatClampNeg (0 : Int64) → ∃ b3 : Nat, hpR h1 x0 10 = some b3 ∧ hpK h1 b3 = 8 ∧ ∀ h2 : mxH, h2 = hsI h1 b3 11 (hpI h1 b3 6) → 1 ≤ d ∧ mx_SM mY_X4_callForTrap (d - 1) [.ref x0, .int (4 : Int32), .long (hpL h b2 (3 : Int32).toNatClampNeg)] h2 (mx_KI (fun v1 h3 => (v1 = 0 ∨ v1 = 1) ∧ Q (.inl (some (.int v1))) h3) (mx_XX mY_X4_callExitFunction Q))) ∧ ((lg_cmp (hpL h b2 (3 : Int32).toNatClampNeg) (-2 : Int64)) = 0 → Q (.inl (some (.int (0 : Int32)))) h))))) : mx_SM mY_X4_callExitFunction d [.ref x0] h Q := by
  refine mx_SM_of (by decide) (Nat.le_of_ble_eq_true rfl) ?_
  show mx_SX mY_X4_callExitFunction d 0 [(0, .ref x0)] [] h Q
  refine mx_aload_n (pc := 0) 0 (mx_dd dd_X4_callExitFunction 0 (0, .aload_n 0, 1) rfl) rfl rfl ?_
  obtain ⟨g1, P⟩ := P
  obtain ⟨b1, g2, P⟩ := P
  refine mx_getR (pc := 1) mx_fl_X4_51 g1 rfl g2 (mx_dd dd_X4_callExitFunction 1 (1, .getfield 51, 3) rfl) ?_
  obtain ⟨g3, P⟩ := P
  obtain ⟨b2, g4, P⟩ := P
  refine mx_getR (pc := 4) mx_fl_X4_357 g3 rfl g4 (mx_dd dd_X4_callExitFunction 2 (4, .getfield 357, 3) rfl) ?_
  refine mx_iconst (pc := 7) (v := (3 : Int32)) (mx_dd dd_X4_callExitFunction 3 (7, .iconst 3, 1) rfl) (by decide) ?_
  obtain ⟨g5, P⟩ := P
  obtain ⟨g6, P⟩ := P
  refine mx_lald (pc := 8) g5 g6 (mx_dd dd_X4_callExitFunction 4 (8, .laload, 1) rfl) ?_
  refine mx_lstore_n (pc := 9) (mx_dd dd_X4_callExitFunction 5 (9, .lstore_n 1, 1) rfl) rfl (by decide) (lv' := [(1, _), (0, _)]) rfl ?_
  refine mx_lload_n (pc := 10) 0 (mx_dd dd_X4_callExitFunction 6 (10, .lload_n 1, 1) rfl) rfl rfl ?_
  refine mx_lconst (pc := 11) (v := (0 : Int64)) (mx_dd dd_X4_callExitFunction 7 (11, .lconst 0, 1) rfl) (by decide) ?_
  refine mx_lcmp (pc := 12) (mx_dd dd_X4_callExitFunction 8 (12, .lcmp, 1) rfl) ?_
  refine mx_if_eq (pc := 13) 24 (mx_dd dd_X4_callExitFunction 9 (13, .ifCond .eq 11, 3) rfl) rfl (fun c13 => ?_) (fun c13 => ?_)
  · have P := P.1 c13
    refine mx_iconst (pc := 24) (v := (0 : Int32)) (mx_dd dd_X4_callExitFunction 14 (24, .iconst 0, 1) rfl) (by decide) ?_
    exact mx_ireturn (pc := 25) (mx_dd dd_X4_callExitFunction 15 (25, .ireturn, 1) rfl) rfl rfl P
  · have P := P.2 c13
    refine mx_lload_n (pc := 16) 0 (mx_dd dd_X4_callExitFunction 10 (16, .lload_n 1, 1) rfl) rfl rfl ?_
    refine mx_ldc2 (pc := 17) mx_cL_X4_361 (mx_dd dd_X4_callExitFunction 11 (17, .ldc2_w 361, 3) rfl) ?_
    refine mx_lcmp (pc := 20) (mx_dd dd_X4_callExitFunction 12 (20, .lcmp, 1) rfl) ?_
    refine mx_if_ne (pc := 21) 26 (mx_dd dd_X4_callExitFunction 13 (21, .ifCond .ne 5, 3) rfl) rfl (fun c21 => ?_) (fun c21 => ?_)
    · have P := P.1 c21
      refine mx_aload_n (pc := 26) 1 (mx_dd dd_X4_callExitFunction 16 (26, .aload_n 0, 1) rfl) rfl rfl ?_
      refine mx_getR (pc := 27) mx_fl_X4_51 g1 rfl g2 (mx_dd dd_X4_callExitFunction 17 (27, .getfield 51, 3) rfl) ?_
      refine mx_getR (pc := 30) mx_fl_X4_357 g3 rfl g4 (mx_dd dd_X4_callExitFunction 18 (30, .getfield 357, 3) rfl) ?_
      refine mx_iconst (pc := 33) (v := (3 : Int32)) (mx_dd dd_X4_callExitFunction 19 (33, .iconst 3, 1) rfl) (by decide) ?_
      refine mx_lconst (pc := 34) (v := (0 : Int64)) (mx_dd dd_X4_callExitFunction 20 (34, .lconst 0, 1) rfl) (by decide) ?_
      refine mx_last (pc := 35) g5 g6 (mx_dd dd_X4_callExitFunction 21 (35, .lastore, 1) rfl) ?_
      have P := P _ rfl
      refine mx_aload_n (pc := 36) 1 (mx_dd dd_X4_callExitFunction 22 (36, .aload_n 0, 1) rfl) rfl rfl ?_
      obtain ⟨b3, g7, P⟩ := P
      refine mx_getR (pc := 37) mx_fl_X4_51 g1 rfl g7 (mx_dd dd_X4_callExitFunction 23 (37, .getfield 51, 3) rfl) ?_
      refine mx_aload_n (pc := 40) 1 (mx_dd dd_X4_callExitFunction 24 (40, .aload_n 0, 1) rfl) rfl rfl ?_
      refine mx_getR (pc := 41) mx_fl_X4_51 g1 rfl g7 (mx_dd dd_X4_callExitFunction 25 (41, .getfield 51, 3) rfl) ?_
      obtain ⟨g8, P⟩ := P
      refine mx_getI (pc := 44) mx_fl_X4_142 g8 rfl (mx_dd dd_X4_callExitFunction 26 (44, .getfield 142, 3) rfl) ?_
      refine mx_putI (pc := 47) mx_fl_X4_347 g8 rfl (.inl rfl) rfl rfl (mx_dd dd_X4_callExitFunction 27 (47, .putfield 347, 3) rfl) ?_
      have P := P _ rfl
      refine mx_aload_n (pc := 50) 1 (mx_dd dd_X4_callExitFunction 28 (50, .aload_n 0, 1) rfl) rfl rfl ?_
      refine mx_iconst (pc := 51) (v := (4 : Int32)) (mx_dd dd_X4_callExitFunction 29 (51, .iconst 4, 1) rfl) (by decide) ?_
      refine mx_lload_n (pc := 52) 0 (mx_dd dd_X4_callExitFunction 30 (52, .lload_n 1, 1) rfl) rfl rfl ?_
      obtain ⟨g9, P⟩ := P
      refine mx_cVI (pc := 53) (Y := mY_X4_callForTrap) (As := [.int _, .long _]) mx_ml_X4_363 mx_y_X4_callForTrap rfl g1 (by decide) rfl (by decide) rfl (mx_dd dd_X4_callExitFunction 31 (53, .invokevirtual 363, 3) rfl) g9 (by decide) P (fun v1 h3 P => ?_)
      obtain ⟨g10, P⟩ := P
      exact mx_ireturn (pc := 56) (mx_dd dd_X4_callExitFunction 32 (56, .ireturn, 1) rfl) rfl (mx_nb g10).1 P
    · have P := P.2 c21
      refine mx_iconst (pc := 24) (v := (0 : Int32)) (mx_dd dd_X4_callExitFunction 14 (24, .iconst 0, 1) rfl) (by decide) ?_
      exact mx_ireturn (pc := 25) (mx_dd dd_X4_callExitFunction 15 (25, .ireturn, 1) rfl) rfl rfl P
theorem b_X4_leave {d : Nat} {h : mxH} {Q : mxRes → mxH → Prop} (x0 : Nat)
    (P : hpK h x0 = 4 ∧ ∃ b1 : Nat, hpR h x0 10 = some b1 ∧ hpK h b1 = 8 ∧ ((hpR h b1 13 = none → ∀ h1 : mxH, h1 = hsI h x0 12 (0 : Int32) → Q (.inl none) h1) ∧ (∀ b2 : Nat, hpR h b1 13 = some b2 → 1 ≤ d ∧ mx_SM mY_X4_field (d - 1) [.ref x0, .int (1 : Int32)] h (mx_KI (fun v1 h2 => hpK h2 x0 = 4 ∧ ∀ h3 : mxH, h3 = hsI h2 x0 11 v1 → mx_SM mY_X4_field (d - 1) [.ref x0, .int (2 : Int32)] h3 (mx_KI (fun v2 h4 => hpK h4 x0 = 4 ∧ mx_SM mY_X4_field (d - 1) [.ref x0, .int (3 : Int32)] h4 (mx_KI (fun v3 h5 => hpK h5 x0 = 4 ∧ mx_SM mY_X4_pop (d - 1) [.ref x0] h5 (mx_KV (fun h6 => hpK h6 b1 = 8 ∧ hpK h6 x0 = 4 ∧ ∀ h7 : mxH, h7 = hsR h6 x0 10 (hpR h6 b1 13) → mx_SM mY_X4_release (d - 1) [.ref x0, .ref b1] h7 (mx_KV (fun h8 => ((v2.toInt < 0 ∨ 2 < v2.toInt → mx_SX mY_X4_leave d 128 [(0, .ref x0), (2, .int (hpI h b1 6)), (4, .int v3)] [] h8 Q) ∧ (v2.toInt = 0 → mx_SX mY_X4_leave d 88 [(0, .ref x0), (2, .int (hpI h b1 6))] [] h8 Q) ∧ (v2.toInt = 1 → mx_SX mY_X4_leave d 99 [(0, .ref x0), (2, .int (hpI h b1 6))] [] h8 Q) ∧ (v2.toInt = 2 → mx_SX mY_X4_leave d 107 [(0, .ref x0), (2, .int (hpI h b1 6)), (4, .int v3)] [] h8 Q))) (mx_XX mY_X4_leave Q))) (mx_XX mY_X4_leave Q))) (mx_XX mY_X4_leave Q))) (mx_XX mY_X4_leave Q))) (mx_XX mY_X4_leave Q))))) : mx_SM mY_X4_leave d [.ref x0] h Q := by
  refine mx_SM_of (by decide) (Nat.le_of_ble_eq_true rfl) ?_
  show mx_SX mY_X4_leave d 0 [(0, .ref x0)] [] h Q
  refine mx_aload_n (pc := 0) 0 (mx_dd dd_X4_leave_0 0 (0, .aload_n 0, 1) rfl) rfl rfl ?_
  obtain ⟨g1, P⟩ := P
  obtain ⟨b1, g2, P⟩ := P
  refine mx_getR (pc := 1) mx_fl_X4_51 g1 rfl g2 (mx_dd dd_X4_leave_0 1 (1, .getfield 51, 3) rfl) ?_
  refine mx_astore_n (pc := 4) (mx_dd dd_X4_leave_0 2 (4, .astore_n 1, 1) rfl) rfl (by decide) (lv' := [(1, _), (0, _)]) rfl ?_
  refine mx_aload_n (pc := 5) 0 (mx_dd dd_X4_leave_0 3 (5, .aload_n 1, 1) rfl) rfl rfl ?_
  obtain ⟨g3, P⟩ := P
  refine mx_getO (pc := 6) mx_fl_X4_102 g3 rfl (mx_dd dd_X4_leave_0 4 (6, .getfield 102, 3) rfl) ?_
  refine mx_ifnonnullO (pc := 9) 18 (mx_dd dd_X4_leave_0 5 (9, .ifnonnull 9, 3) rfl) rfl (fun b2 g4 => ?_) (fun c9 => ?_)
  · have P := P.2 b2 g4
    refine mx_aload_n (pc := 18) 0 (mx_dd dd_X4_leave_0 10 (18, .aload_n 1, 1) rfl) rfl rfl ?_
    refine mx_getI (pc := 19) mx_fl_X4_142 g3 rfl (mx_dd dd_X4_leave_0 11 (19, .getfield 142, 3) rfl) ?_
    refine mx_istore_n (pc := 22) (mx_dd dd_X4_leave_0 12 (22, .istore_n 2, 1) rfl) rfl (by decide) (lv' := [(2, _), (1, _), (0, _)]) rfl ?_
    refine mx_aload_n (pc := 23) 2 (mx_dd dd_X4_leave_0 13 (23, .aload_n 0, 1) rfl) rfl rfl ?_
    refine mx_aload_n (pc := 24) 2 (mx_dd dd_X4_leave_0 14 (24, .aload_n 0, 1) rfl) rfl rfl ?_
    refine mx_iconst (pc := 25) (v := (1 : Int32)) (mx_dd dd_X4_leave_0 15 (25, .iconst 1, 1) rfl) (by decide) ?_
    obtain ⟨g5, P⟩ := P
    refine mx_cVI (pc := 26) (Y := mY_X4_field) (As := [.int _]) mx_ml_X4_344 mx_y_X4_field rfl g1 (by decide) rfl (by simp [Value.category]) rfl (mx_dd dd_X4_leave_0 16 (26, .invokevirtual 344, 3) rfl) g5 (by decide) P (fun v1 h2 P => ?_)
    obtain ⟨g6, P⟩ := P
    refine mx_putI (pc := 29) mx_fl_X4_85 g6 rfl (.inl rfl) rfl rfl (mx_dd dd_X4_leave_0 17 (29, .putfield 85, 3) rfl) ?_
    have P := P _ rfl
    refine mx_aload_n (pc := 32) 2 (mx_dd dd_X4_leave_0 18 (32, .aload_n 0, 1) rfl) rfl rfl ?_
    refine mx_iconst (pc := 33) (v := (2 : Int32)) (mx_dd dd_X4_leave_0 19 (33, .iconst 2, 1) rfl) (by decide) ?_
    refine mx_cVI (pc := 34) (Y := mY_X4_field) (As := [.int _]) mx_ml_X4_344 mx_y_X4_field rfl g6 (by decide) rfl (by decide) rfl (mx_dd dd_X4_leave_0 20 (34, .invokevirtual 344, 3) rfl) g5 (by decide) P (fun v2 h4 P => ?_)
    refine mx_istore_n (pc := 37) (mx_dd dd_X4_leave_0 21 (37, .istore_n 3, 1) rfl) rfl (by decide) (lv' := [(3, _), (2, _), (1, _), (0, _)]) rfl ?_
    refine mx_aload_n (pc := 38) 3 (mx_dd dd_X4_leave_0 22 (38, .aload_n 0, 1) rfl) rfl rfl ?_
    refine mx_iconst (pc := 39) (v := (3 : Int32)) (mx_dd dd_X4_leave_0 23 (39, .iconst 3, 1) rfl) (by decide) ?_
    obtain ⟨g7, P⟩ := P
    refine mx_cVI (pc := 40) (Y := mY_X4_field) (As := [.int _]) mx_ml_X4_344 mx_y_X4_field rfl g7 (by decide) rfl (by decide) rfl (mx_dd dd_X4_leave_0 24 (40, .invokevirtual 344, 3) rfl) g5 (by decide) P (fun v3 h5 P => ?_)
    refine mx_istore (pc := 43) (mx_dd dd_X4_leave_0 25 (43, .istore 4, 2) rfl) (by decide) (lv' := [(4, _), (3, _), (2, _), (1, _), (0, _)]) rfl ?_
    refine mx_aload_n (pc := 45) 4 (mx_dd dd_X4_leave_0 26 (45, .aload_n 0, 1) rfl) rfl rfl ?_
    obtain ⟨g8, P⟩ := P
    refine mx_cVV (pc := 46) (Y := mY_X4_pop) (As := []) mx_ml_X4_228 mx_y_X4_pop rfl g8 (by decide) rfl (by decide) rfl (mx_dd dd_X4_leave_0 27 (46, .invokevirtual 228, 3) rfl) g5 (by decide) P (fun h6 P => ?_)
    refine mx_aload_n (pc := 49) 4 (mx_dd dd_X4_leave_0 28 (49, .aload_n 0, 1) rfl) rfl rfl ?_
    refine mx_aload_n (pc := 50) 3 (mx_dd dd_X4_leave_0 29 (50, .aload_n 1, 1) rfl) rfl rfl ?_
    obtain ⟨g9, P⟩ := P
    refine mx_getO (pc := 51) mx_fl_X4_102 g9 rfl (mx_dd dd_X4_leave_0 30 (51, .getfield 102, 3) rfl) ?_
    obtain ⟨g10, P⟩ := P
    refine mx_putO (pc := 54) mx_fl_X4_51 g10 rfl (.inl rfl) (mx_dd dd_X4_leave_0 31 (54, .putfield 51, 3) rfl) ?_
    have P := P _ rfl
    refine mx_aload_n (pc := 57) 4 (mx_dd dd_X4_leave_0 32 (57, .aload_n 0, 1) rfl) rfl rfl ?_
    refine mx_aload_n (pc := 58) 3 (mx_dd dd_X4_leave_0 33 (58, .aload_n 1, 1) rfl) rfl rfl ?_
    refine mx_cVV (pc := 59) (Y := mY_X4_release) (As := [.ref _]) mx_ml_X4_109 mx_y_X4_release rfl g10 (by decide) rfl (by decide) rfl (mx_dd dd_X4_leave_0 34 (59, .invokevirtual 109, 3) rfl) g5 (by decide) P (fun h8 P => ?_)
    refine mx_iload_n (pc := 62) 1 (mx_dd dd_X4_leave_0 35 (62, .iload_n 3, 1) rfl) rfl rfl ?_
    refine mx_tsw (pc := 63) 128 (mx_dd dd_X4_leave_0 36 (63, .tableswitch 65 0 2 #[25, 36, 44], 25) rfl) rfl [88, 99, 107] rfl rfl (fun c63 => ?_) ?_
    · have P := P.1 c63
      refine mx_sel [4, 2, 0] rfl ?_
      exact P
    · intro j t hj hx
      have hj9 : j < 3 := (List.getElem?_eq_some_iff.mp hj).1
      have hj8 : j = 0 ∨ j = 1 ∨ j = 2 := by omega
      rcases hj8 with rfl | rfl | rfl
      · cases hj
        have P := P.2.1 (by omega)
        refine mx_sel [4, 2] rfl ?_
        exact P
      · cases hj
        have P := P.2.2.1 (by omega)
        refine mx_sel [4, 2] rfl ?_
        exact P
      · cases hj
        have P := P.2.2.2 (by omega)
        refine mx_sel [4, 2, 0] rfl ?_
        exact P
  · have P := P.1 c9
    refine mx_aload_n (pc := 12) 1 (mx_dd dd_X4_leave_0 6 (12, .aload_n 0, 1) rfl) rfl rfl ?_
    refine mx_iconst (pc := 13) (v := (0 : Int32)) (mx_dd dd_X4_leave_0 7 (13, .iconst 0, 1) rfl) (by decide) ?_
    refine mx_putI (pc := 14) mx_fl_X4_88 g1 rfl (.inl rfl) rfl rfl (mx_dd dd_X4_leave_0 8 (14, .putfield 88, 3) rfl) ?_
    have P := P _ rfl
    exact mx_return (pc := 17) (mx_dd dd_X4_leave_0 9 (17, .return_, 1) rfl) rfl P
theorem b_X4_leave_88 {d : Nat} {h : mxH} {Q : mxRes → mxH → Prop} (x0 : Nat) (x2 : Int32)
    (P : hpK h x0 = 4 ∧ ∃ b1 : Nat, hpR h x0 10 = some b1 ∧ hpK h b1 = 8 ∧ ∀ h1 : mxH, h1 = hsI h b1 6 x2 → Q (.inl none) h1) : mx_SX mY_X4_leave d 88 [(0, .ref x0), (2, .int x2)] [] h Q := by
  refine mx_aload_n (pc := 88) 0 (mx_dd dd_X4_leave_0 37 (88, .aload_n 0, 1) rfl) rfl rfl ?_
  obtain ⟨g1, P⟩ := P
  obtain ⟨b1, g2, P⟩ := P
  refine mx_getR (pc := 89) mx_fl_X4_51 g1 rfl g2 (mx_dd dd_X4_leave_0 38 (89, .getfield 51, 3) rfl) ?_
  refine mx_iload_n (pc := 92) 1 (mx_dd dd_X4_leave_0 39 (92, .iload_n 2, 1) rfl) rfl rfl ?_
  obtain ⟨g3, P⟩ := P
  refine mx_putI (pc := 93) mx_fl_X4_142 g3 rfl (.inl rfl) rfl rfl (mx_dd dd_X4_leave_1 0 (93, .putfield 142, 3) rfl) ?_
  have P := P _ rfl
  refine mx_goto (pc := 96) 138 (mx_dd dd_X4_leave_1 1 (96, .goto 42, 3) rfl) rfl ?_
  exact mx_return (pc := 138) (mx_dd dd_X4_leave_1 21 (138, .return_, 1) rfl) rfl P
theorem b_X4_leave_99 {d : Nat} {h : mxH} {Q : mxRes → mxH → Prop} (x0 : Nat) (x2 : Int32)
    (P : 1 ≤ d ∧ hpK h x0 = 4 ∧ mx_SM mY_X4_noteInPipeline (d - 1) [.ref x0, .int x2] h (mx_KV (fun h1 => Q (.inl none) h1) (mx_XX mY_X4_leave Q))) : mx_SX mY_X4_leave d 99 [(0, .ref x0), (2, .int x2)] [] h Q := by
  refine mx_aload_n (pc := 99) 0 (mx_dd dd_X4_leave_1 2 (99, .aload_n 0, 1) rfl) rfl rfl ?_
  refine mx_iload_n (pc := 100) 1 (mx_dd dd_X4_leave_1 3 (100, .iload_n 2, 1) rfl) rfl rfl ?_
  obtain ⟨g1, P⟩ := P
  obtain ⟨g2, P⟩ := P
  refine mx_cVV (pc := 101) (Y := mY_X4_noteInPipeline) (As := [.int _]) mx_ml_X4_423 mx_y_X4_noteInPipeline rfl g2 (by decide) rfl (by decide) rfl (mx_dd dd_X4_leave_1 4 (101, .invokevirtual 423, 3) rfl) g1 (by decide) P (fun h1 P => ?_)
  refine mx_goto (pc := 104) 138 (mx_dd dd_X4_leave_1 5 (104, .goto 34, 3) rfl) rfl ?_
  exact mx_return (pc := 138) (mx_dd dd_X4_leave_1 21 (138, .return_, 1) rfl) rfl P
theorem b_X4_leave_107 {d : Nat} {h : mxH} {Q : mxRes → mxH → Prop} (x0 : Nat) (x2 : Int32) (x4 : Int32)
    (P : hpK h x0 = 4 ∧ ∃ b1 : Nat, hpR h x0 10 = some b1 ∧ 1 ≤ d ∧ hpK h b1 = 8 ∧ mx_SM mY_X8_keepJobStatus (d - 1) [.ref b1, .int x4, .int x2] h (mx_KV (fun h1 => hpK h1 x0 = 4 ∧ ∃ b2 : Nat, hpR h1 x0 10 = some b2 ∧ hpK h1 b2 = 8 ∧ ∀ h2 : mxH, h2 = hsI h1 b2 6 x2 → Q (.inl none) h2) (mx_XX mY_X4_leave Q))) : mx_SX mY_X4_leave d 107 [(0, .ref x0), (2, .int x2), (4, .int x4)] [] h Q := by
  refine mx_aload_n (pc := 107) 0 (mx_dd dd_X4_leave_1 6 (107, .aload_n 0, 1) rfl) rfl rfl ?_
  obtain ⟨g1, P⟩ := P
  obtain ⟨b1, g2, P⟩ := P
  refine mx_getR (pc := 108) mx_fl_X4_51 g1 rfl g2 (mx_dd dd_X4_leave_1 7 (108, .getfield 51, 3) rfl) ?_
  refine mx_iload (pc := 111) 2 (mx_dd dd_X4_leave_1 8 (111, .iload 4, 2) rfl) rfl ?_
  refine mx_iload_n (pc := 113) 1 (mx_dd dd_X4_leave_1 9 (113, .iload_n 2, 1) rfl) rfl rfl ?_
  obtain ⟨g3, P⟩ := P
  obtain ⟨g4, P⟩ := P
  refine mx_cVV (pc := 114) (Y := mY_X8_keepJobStatus) (As := [.int _, .int _]) mx_ml_X4_426 mx_y_X8_keepJobStatus rfl g4 (by decide) rfl (by decide) rfl (mx_dd dd_X4_leave_1 10 (114, .invokevirtual 426, 3) rfl) g3 (by decide) P (fun h1 P => ?_)
  refine mx_aload_n (pc := 117) 0 (mx_dd dd_X4_leave_1 11 (117, .aload_n 0, 1) rfl) rfl rfl ?_
  obtain ⟨g5, P⟩ := P
  obtain ⟨b2, g6, P⟩ := P
  refine mx_getR (pc := 118) mx_fl_X4_51 g5 rfl g6 (mx_dd dd_X4_leave_1 12 (118, .getfield 51, 3) rfl) ?_
  refine mx_iload_n (pc := 121) 1 (mx_dd dd_X4_leave_1 13 (121, .iload_n 2, 1) rfl) rfl rfl ?_
  obtain ⟨g7, P⟩ := P
  refine mx_putI (pc := 122) mx_fl_X4_142 g7 rfl (.inl rfl) rfl rfl (mx_dd dd_X4_leave_1 14 (122, .putfield 142, 3) rfl) ?_
  have P := P _ rfl
  refine mx_goto (pc := 125) 138 (mx_dd dd_X4_leave_1 15 (125, .goto 13, 3) rfl) rfl ?_
  exact mx_return (pc := 138) (mx_dd dd_X4_leave_1 21 (138, .return_, 1) rfl) rfl P
theorem b_X4_leave_128 {d : Nat} {h : mxH} {Q : mxRes → mxH → Prop} (x0 : Nat) (x2 : Int32) (x4 : Int32)
    (P : hpK h x0 = 4 ∧ ∃ b1 : Nat, hpR h x0 10 = some b1 ∧ 1 ≤ d ∧ hpK h b1 = 8 ∧ mx_SM mY_X8_keepJobStatus (d - 1) [.ref b1, .int x4, .int x2] h (mx_KV (fun h1 => Q (.inl none) h1) (mx_XX mY_X4_leave Q))) : mx_SX mY_X4_leave d 128 [(0, .ref x0), (2, .int x2), (4, .int x4)] [] h Q := by
  refine mx_aload_n (pc := 128) 0 (mx_dd dd_X4_leave_1 16 (128, .aload_n 0, 1) rfl) rfl rfl ?_
  obtain ⟨g1, P⟩ := P
  obtain ⟨b1, g2, P⟩ := P
  refine mx_getR (pc := 129) mx_fl_X4_51 g1 rfl g2 (mx_dd dd_X4_leave_1 17 (129, .getfield 51, 3) rfl) ?_
  refine mx_iload (pc := 132) 2 (mx_dd dd_X4_leave_1 18 (132, .iload 4, 2) rfl) rfl ?_
  refine mx_iload_n (pc := 134) 1 (mx_dd dd_X4_leave_1 19 (134, .iload_n 2, 1) rfl) rfl rfl ?_
  obtain ⟨g3, P⟩ := P
  obtain ⟨g4, P⟩ := P
  refine mx_cVV (pc := 135) (Y := mY_X8_keepJobStatus) (As := [.int _, .int _]) mx_ml_X4_426 mx_y_X8_keepJobStatus rfl g4 (by decide) rfl (by decide) rfl (mx_dd dd_X4_leave_1 20 (135, .invokevirtual 426, 3) rfl) g3 (by decide) P (fun h1 P => ?_)
  exact mx_return (pc := 138) (mx_dd dd_X4_leave_1 21 (138, .return_, 1) rfl) rfl P
theorem b_X4_noteInPipeline {d : Nat} {h : mxH} {Q : mxRes → mxH → Prop} (x0 : Nat) (x1 : Int32)
    (P : 1 ≤ d ∧ hpK h x0 = 4 ∧ mx_SM mY_X4_setField (d - 1) [.ref x0, .int (1 : Int32), .int x1] h (mx_KV (fun h1 => ((x1 = 0 → Q (.inl none) h1) ∧ (¬ x1 = 0 → hpK h1 x0 = 4 ∧ mx_SM mY_X4_setField (d - 1) [.ref x0, .int (2 : Int32), .int x1] h1 (mx_KV (fun h2 => Q (.inl none) h2) (mx_XX mY_X4_noteInPipeline Q))))) (mx_XX mY_X4_noteInPipeline Q))) : mx_SM mY_X4_noteInPipeline d [.ref x0, .int x1] h Q := by
  refine mx_SM_of (by decide) (Nat.le_of_ble_eq_true rfl) ?_
  show mx_SX mY_X4_noteInPipeline d 0 [(0, .ref x0), (1, .int x1)] [] h Q
  refine mx_aload_n (pc := 0) 0 (mx_dd dd_X4_noteInPipeline 0 (0, .aload_n 0, 1) rfl) rfl rfl ?_
  refine mx_iconst (pc := 1) (v := (1 : Int32)) (mx_dd dd_X4_noteInPipeline 1 (1, .iconst 1, 1) rfl) (by decide) ?_
  refine mx_iload_n (pc := 2) 1 (mx_dd dd_X4_noteInPipeline 2 (2, .iload_n 1, 1) rfl) rfl rfl ?_
  obtain ⟨g1, P⟩ := P
  obtain ⟨g2, P⟩ := P
  refine mx_cVV (pc := 3) (Y := mY_X4_setField) (As := [.int _, .int _]) mx_ml_X4_162 mx_y_X4_setField rfl g2 (by decide) rfl (by decide) rfl (mx_dd dd_X4_noteInPipeline 3 (3, .invokevirtual 162, 3) rfl) g1 (by decide) P (fun h1 P => ?_)
  refine mx_iload_n (pc := 6) 1 (mx_dd dd_X4_noteInPipeline 4 (6, .iload_n 1, 1) rfl) rfl rfl ?_
  refine mx_if_eq (pc := 7) 16 (mx_dd dd_X4_noteInPipeline 5 (7, .ifCond .eq 9, 3) rfl) rfl (fun c7 => ?_) (fun c7 => ?_)
  · have P := P.1 c7
    exact mx_return (pc := 16) (mx_dd dd_X4_noteInPipeline 10 (16, .return_, 1) rfl) rfl P
  · have P := P.2 c7
    refine mx_aload_n (pc := 10) 0 (mx_dd dd_X4_noteInPipeline 6 (10, .aload_n 0, 1) rfl) rfl rfl ?_
    refine mx_iconst (pc := 11) (v := (2 : Int32)) (mx_dd dd_X4_noteInPipeline 7 (11, .iconst 2, 1) rfl) (by decide) ?_
    refine mx_iload_n (pc := 12) 1 (mx_dd dd_X4_noteInPipeline 8 (12, .iload_n 1, 1) rfl) rfl rfl ?_
    obtain ⟨g3, P⟩ := P
    refine mx_cVV (pc := 13) (Y := mY_X4_setField) (As := [.int _, .int _]) mx_ml_X4_162 mx_y_X4_setField rfl g3 (by decide) rfl (by decide) rfl (mx_dd dd_X4_noteInPipeline 9 (13, .invokevirtual 162, 3) rfl) g1 (by decide) P (fun h2 P => ?_)
    exact mx_return (pc := 16) (mx_dd dd_X4_noteInPipeline 10 (16, .return_, 1) rfl) rfl P
